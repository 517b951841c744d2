theorem dX4_init_22 : decode cX4_init 22 = .ok (.putfield 22, 3) := by decide +kernel
theorem dX4_init_25 : decode cX4_init 25 = .ok (.aload_n 0, 1) := by decide +kernel
theorem dX4_init_26 : decode cX4_init 26 = .ok (.new 26, 3) := by decide +kernel
theorem dX4_init_29 : decode cX4_init 29 = .ok (.dup, 1) := by decide +kernel
theorem dX4_init_30 : decode cX4_init 30 = .ok (.invokespecial 28, 3) := by decide +kernel
theorem dX4_init_33 : decode cX4_init 33 = .ok (.putfield 29, 3) := by decide +kernel
theorem dX4_init_36 : decode cX4_init 36 = .ok (.aload_n 0, 1) := by decide +kernel
theorem dX4_init_37 : decode cX4_init 37 = .ok (.getfield 29, 3) := by decide +kernel
theorem dX4_init_40 : decode cX4_init 40 = .ok (.ldc 33, 2) := by decide +kernel
theorem dX4_init_42 : decode cX4_init 42 = .ok (.invokevirtual 35, 3) := by decide +kernel
theorem dX4_init_45 : decode cX4_init 45 = .ok (.aload_n 0, 1) := by decide +kernel
theorem dX4_init_46 : decode cX4_init 46 = .ok (.getfield 29, 3) := by decide +kernel
theorem dX4_init_49 : decode cX4_init 49 = .ok (.ldc 39, 2) := by decide +kernel
theorem dX4_init_51 : decode cX4_init 51 = .ok (.invokevirtual 35, 3) := by decide +kernel
theorem dX4_init_54 : decode cX4_init 54 = .ok (.aload_n 0, 1) := by decide +kernel
theorem dX4_init_55 : decode cX4_init 55 = .ok (.getfield 29, 3) := by decide +kernel
theorem dX4_init_58 : decode cX4_init 58 = .ok (.ldc 41, 2) := by decide +kernel
theorem dX4_init_60 : decode cX4_init 60 = .ok (.invokevirtual 35, 3) := by decide +kernel
theorem dX4_init_63 : decode cX4_init 63 = .ok (.aload_n 0, 1) := by decide +kernel
theorem dX4_init_64 : decode cX4_init 64 = .ok (.getfield 29, 3) := by decide +kernel
theorem dX4_init_67 : decode cX4_init 67 = .ok (.ldc 43, 2) := by decide +kernel
theorem dX4_init_69 : decode cX4_init 69 = .ok (.invokevirtual 35, 3) := by decide +kernel
theorem dX4_init_72 : decode cX4_init 72 = .ok (.aload_n 0, 1) := by decide +kernel
theorem dX4_init_73 : decode cX4_init 73 = .ok (.new 26, 3) := by decide +kernel
theorem dX4_init_76 : decode cX4_init 76 = .ok (.dup, 1) := by decide +kernel
theorem dX4_init_77 : decode cX4_init 77 = .ok (.invokespecial 28, 3) := by decide +kernel
theorem dX4_init_80 : decode cX4_init 80 = .ok (.putfield 45, 3) := by decide +kernel
theorem dX4_init_83 : decode cX4_init 83 = .ok (.aload_n 0, 1) := by decide +kernel
theorem dX4_init_84 : decode cX4_init 84 = .ok (.getfield 45, 3) := by decide +kernel
theorem dX4_init_87 : decode cX4_init 87 = .ok (.ldc 48, 2) := by decide +kernel
theorem dX4_init_89 : decode cX4_init 89 = .ok (.invokevirtual 35, 3) := by decide +kernel
theorem dX4_init_92 : decode cX4_init 92 = .ok (.aload_n 0, 1) := by decide +kernel
theorem dX4_init_93 : decode cX4_init 93 = .ok (.getfield 45, 3) := by decide +kernel
theorem dX4_init_96 : decode cX4_init 96 = .ok (.ldc 50, 2) := by decide +kernel
theorem dX4_init_98 : decode cX4_init 98 = .ok (.invokevirtual 35, 3) := by decide +kernel
theorem dX4_init_101 : decode cX4_init 101 = .ok (.aload_n 0, 1) := by decide +kernel
theorem dX4_init_102 : decode cX4_init 102 = .ok (.new 52, 3) := by decide +kernel
theorem dX4_init_105 : decode cX4_init 105 = .ok (.dup, 1) := by decide +kernel
theorem dX4_init_106 : decode cX4_init 106 = .ok (.aload_n 1, 1) := by decide +kernel
theorem dX4_init_107 : decode cX4_init 107 = .ok (.aload_n 0, 1) := by decide +kernel
theorem dX4_init_108 : decode cX4_init 108 = .ok (.getfield 22, 3) := by decide +kernel
theorem dX4_init_111 : decode cX4_init 111 = .ok (.invokespecial 54, 3) := by decide +kernel
theorem dX4_init_114 : decode cX4_init 114 = .ok (.putfield 57, 3) := by decide +kernel
theorem dX4_init_117 : decode cX4_init 117 = .ok (.aload_n 0, 1) := by decide +kernel
theorem dX4_init_118 : decode cX4_init 118 = .ok (.new 61, 3) := by decide +kernel
theorem dX4_init_121 : decode cX4_init 121 = .ok (.dup, 1) := by decide +kernel
theorem dX4_init_122 : decode cX4_init 122 = .ok (.aload_n 1, 1) := by decide +kernel
theorem dX4_init_123 : decode cX4_init 123 = .ok (.aload_n 0, 1) := by decide +kernel
theorem dX4_init_124 : decode cX4_init 124 = .ok (.getfield 22, 3) := by decide +kernel
theorem dX4_init_127 : decode cX4_init 127 = .ok (.invokespecial 63, 3) := by decide +kernel
theorem dX4_init_130 : decode cX4_init 130 = .ok (.putfield 64, 3) := by decide +kernel
theorem dX4_init_133 : decode cX4_init 133 = .ok (.return_, 1) := by decide +kernel
set_option maxRecDepth 20000 in
theorem ggX4_takeAll_X6_count : GoodIn wsX4_takeAll wsX6_count := goodIn_r _ [8, 9, 305, 306, 307] rfl (by decide +kernel)
set_option maxRecDepth 20000 in
theorem gX4_takeAll_X6_count : GoodIn wsX4_takeAll (wsV RX4 68 RX6 yX6_count wsX6_count) := goodIn_app (goodIn_of _ (by decide +kernel)) ggX4_takeAll_X6_count
set_option maxRecDepth 20000 in
theorem ggX4_takeAll_X4_behindWhite : GoodIn wsX4_takeAll wsX4_behindWhite := goodIn_r _ [14, 1, 4, 5, 6, 7, 8, 9, 15, 16, 17, 18, 19, 20, 21, 13, 22, 23, 24, 25, 26, 27, 28, 29, 30, 31, 32, 33, 294, 295, 296, 297, 298, 299, 300, 305, 306, 307] rfl (by decide +kernel)
set_option maxRecDepth 20000 in
theorem gX4_takeAll_X4_behindWhite : GoodIn wsX4_takeAll (wsV RX4 74 RX4 yX4_behindWhite wsX4_behindWhite) := goodIn_app (goodIn_of _ (by decide +kernel)) ggX4_takeAll_X4_behindWhite
set_option maxRecDepth 20000 in
theorem ggX4_takeAll_X6_isCutShort : GoodIn wsX4_takeAll wsX6_isCutShort := goodIn_r _ [37, 38, 305, 306, 307] rfl (by decide +kernel)
set_option maxRecDepth 20000 in
theorem gX4_takeAll_X6_isCutShort : GoodIn wsX4_takeAll (wsV RX4 78 RX6 yX6_isCutShort wsX6_isCutShort) := goodIn_app (goodIn_of _ (by decide +kernel)) ggX4_takeAll_X6_isCutShort
set_option maxRecDepth 20000 in
theorem ggX4_takeAll_X4_take : GoodIn wsX4_takeAll wsX4_take := goodIn_r _ [42, 1, 43, 44, 15, 16, 17, 7, 18, 9, 19, 45, 46, 13, 47, 48, 24, 49, 50, 51, 52, 53, 54, 55, 56, 57, 3, 4, 5, 6, 8, 58, 59, 60, 61, 62, 63, 64, 65, 66, 67, 68, 69, 70, 71, 72, 73, 74, 75, 76, 77, 78, 79, 80, 81, 82, 83, 84, 85, 86, 87, 88, 89, 90, 91, 92, 93, 94, 95, 96, 97, 98, 99, 100, 101, 102, 103, 104, 105, 106, 107, 108, 109, 110, 111, 112, 113, 114, 115, 116, 117, 118, 119, 120, 121, 122, 123, 124, 125, 126, 127, 128, 129, 130, 131, 132, 133, 134, 135, 136, 137, 138, 139, 140, 141, 142, 143, 144, 145, 146, 147, 148, 149, 150, 151, 152, 153, 154, 155, 156, 157, 158, 159, 160, 161, 162, 163, 164, 165, 166, 167, 168, 169, 170, 171, 172, 173, 174, 175, 176, 177, 178, 179, 180, 181, 182, 183, 184, 185, 186, 187, 188, 189, 190, 191, 192, 193, 194, 195, 196, 197, 198, 199, 200, 201, 202, 203, 204, 205, 206, 207, 208, 209, 210, 211, 212, 213, 214, 215, 216, 217, 218, 219, 220, 221, 222, 223, 224, 225, 226, 227, 228, 229, 230, 231, 232, 233, 234, 235, 236, 237, 238, 239, 240, 241, 242, 243, 244, 245, 246, 247, 248, 249, 250, 251, 252, 253, 254, 255, 256, 257, 258, 23, 25, 259, 260, 261, 262, 263, 264, 265, 266, 267, 268, 269, 270, 271, 272, 273, 274, 275, 276, 277, 278, 279, 280, 281, 282, 283, 294, 295, 296, 297, 298, 299, 300, 305, 306, 307, 308, 309, 310, 301, 302, 303, 304, 311, 312, 313, 314, 315, 316, 317, 318, 319, 320, 321, 322, 323, 324, 325, 326] rfl (by decide +kernel)
set_option maxRecDepth 20000 in
theorem gX4_takeAll_X4_take : GoodIn wsX4_takeAll (wsV RX4 82 RX4 yX4_take wsX4_take) := goodIn_app (goodIn_of _ (by decide +kernel)) ggX4_takeAll_X4_take
set_option maxRecDepth 20000 in
theorem ggX4_takeAll_X8_add : GoodIn wsX4_takeAll wsX8_add := goodIn_r _ [288, 289, 290, 291, 292, 293, 327, 328, 329, 330, 331, 301, 302, 303, 304] rfl (by decide +kernel)
set_option maxRecDepth 20000 in
theorem gX4_takeAll_X8_add : GoodIn wsX4_takeAll (wsV RX4 86 RX8 yX8_add wsX8_add) := goodIn_app (goodIn_of _ (by decide +kernel)) ggX4_takeAll_X8_add
theorem dX4_takeAll_0 : decode cX4_takeAll 0 = .ok (.iconst 0, 1) := by decide +kernel
theorem dX4_takeAll_1 : decode cX4_takeAll 1 = .ok (.istore_n 1, 1) := by decide +kernel
theorem dX4_takeAll_2 : decode cX4_takeAll 2 = .ok (.iconst 0, 1) := by decide +kernel
theorem dX4_takeAll_3 : decode cX4_takeAll 3 = .ok (.istore_n 2, 1) := by decide +kernel
theorem dX4_takeAll_4 : decode cX4_takeAll 4 = .ok (.iload_n 2, 1) := by decide +kernel
theorem dX4_takeAll_5 : decode cX4_takeAll 5 = .ok (.aload_n 0, 1) := by decide +kernel
theorem dX4_takeAll_6 : decode cX4_takeAll 6 = .ok (.getfield 9, 3) := by decide +kernel
theorem dX4_takeAll_9 : decode cX4_takeAll 9 = .ok (.invokevirtual 68, 3) := by decide +kernel
theorem dX4_takeAll_12 : decode cX4_takeAll 12 = .ok (.if_icmp .gt 92, 3) := by decide +kernel
theorem dX4_takeAll_15 : decode cX4_takeAll 15 = .ok (.aload_n 0, 1) := by decide +kernel
theorem dX4_takeAll_16 : decode cX4_takeAll 16 = .ok (.iload_n 1, 1) := by decide +kernel
theorem dX4_takeAll_17 : decode cX4_takeAll 17 = .ok (.invokevirtual 74, 3) := by decide +kernel
theorem dX4_takeAll_20 : decode cX4_takeAll 20 = .ok (.istore_n 3, 1) := by decide +kernel
theorem dX4_takeAll_21 : decode cX4_takeAll 21 = .ok (.iload_n 3, 1) := by decide +kernel
theorem dX4_takeAll_22 : decode cX4_takeAll 22 = .ok (.iconst (-1), 1) := by decide +kernel
theorem dX4_takeAll_23 : decode cX4_takeAll 23 = .ok (.if_icmp .ne 5, 3) := by decide +kernel
theorem dX4_takeAll_26 : decode cX4_takeAll 26 = .ok (.iconst 0, 1) := by decide +kernel
theorem dX4_takeAll_27 : decode cX4_takeAll 27 = .ok (.ireturn, 1) := by decide +kernel
theorem dX4_takeAll_28 : decode cX4_takeAll 28 = .ok (.iload_n 3, 1) := by decide +kernel
theorem dX4_takeAll_29 : decode cX4_takeAll 29 = .ok (.aload_n 0, 1) := by decide +kernel
theorem dX4_takeAll_30 : decode cX4_takeAll 30 = .ok (.getfield 9, 3) := by decide +kernel
theorem dX4_takeAll_33 : decode cX4_takeAll 33 = .ok (.invokevirtual 68, 3) := by decide +kernel
theorem dX4_takeAll_36 : decode cX4_takeAll 36 = .ok (.if_icmp .ne 19, 3) := by decide +kernel
theorem dX4_takeAll_39 : decode cX4_takeAll 39 = .ok (.aload_n 0, 1) := by decide +kernel
theorem dX4_takeAll_40 : decode cX4_takeAll 40 = .ok (.getfield 9, 3) := by decide +kernel
theorem dX4_takeAll_43 : decode cX4_takeAll 43 = .ok (.invokevirtual 78, 3) := by decide +kernel
theorem dX4_takeAll_46 : decode cX4_takeAll 46 = .ok (.ifCond .ne 7, 3) := by decide +kernel
theorem dX4_takeAll_49 : decode cX4_takeAll 49 = .ok (.iconst 1, 1) := by decide +kernel
theorem dX4_takeAll_50 : decode cX4_takeAll 50 = .ok (.goto 4, 3) := by decide +kernel
theorem dX4_takeAll_53 : decode cX4_takeAll 53 = .ok (.iconst 0, 1) := by decide +kernel
theorem dX4_takeAll_54 : decode cX4_takeAll 54 = .ok (.ireturn, 1) := by decide +kernel
theorem dX4_takeAll_55 : decode cX4_takeAll 55 = .ok (.aload_n 0, 1) := by decide +kernel
theorem dX4_takeAll_56 : decode cX4_takeAll 56 = .ok (.iload_n 3, 1) := by decide +kernel
theorem dX4_takeAll_57 : decode cX4_takeAll 57 = .ok (.invokevirtual 82, 3) := by decide +kernel
theorem dX4_takeAll_60 : decode cX4_takeAll 60 = .ok (.ifCond .ne 5, 3) := by decide +kernel
theorem dX4_takeAll_63 : decode cX4_takeAll 63 = .ok (.iconst 0, 1) := by decide +kernel
theorem dX4_takeAll_64 : decode cX4_takeAll 64 = .ok (.ireturn, 1) := by decide +kernel
theorem dX4_takeAll_65 : decode cX4_takeAll 65 = .ok (.aload_n 0, 1) := by decide +kernel
theorem dX4_takeAll_66 : decode cX4_takeAll 66 = .ok (.getfield 15, 3) := by decide +kernel
theorem dX4_takeAll_69 : decode cX4_takeAll 69 = .ok (.aload_n 0, 1) := by decide +kernel
theorem dX4_takeAll_70 : decode cX4_takeAll 70 = .ok (.getfield 22, 3) := by decide +kernel
theorem dX4_takeAll_73 : decode cX4_takeAll 73 = .ok (.iload_n 2, 1) := by decide +kernel
theorem dX4_takeAll_74 : decode cX4_takeAll 74 = .ok (.ifCond .le 12, 3) := by decide +kernel
theorem dX4_takeAll_77 : decode cX4_takeAll 77 = .ok (.iload_n 3, 1) := by decide +kernel
theorem dX4_takeAll_78 : decode cX4_takeAll 78 = .ok (.iload_n 1, 1) := by decide +kernel
theorem dX4_takeAll_79 : decode cX4_takeAll 79 = .ok (.if_icmp .ne 7, 3) := by decide +kernel
theorem dX4_takeAll_82 : decode cX4_takeAll 82 = .ok (.iconst 1, 1) := by decide +kernel
theorem dX4_takeAll_83 : decode cX4_takeAll 83 = .ok (.goto 4, 3) := by decide +kernel
theorem dX4_takeAll_86 : decode cX4_takeAll 86 = .ok (.iconst 0, 1) := by decide +kernel
theorem dX4_takeAll_87 : decode cX4_takeAll 87 = .ok (.invokevirtual 86, 3) := by decide +kernel
theorem dX4_takeAll_90 : decode cX4_takeAll 90 = .ok (.aload_n 0, 1) := by decide +kernel
theorem dX4_takeAll_91 : decode cX4_takeAll 91 = .ok (.getfield 22, 3) := by decide +kernel
theorem dX4_takeAll_94 : decode cX4_takeAll 94 = .ok (.getfield 92, 3) := by decide +kernel
theorem dX4_takeAll_97 : decode cX4_takeAll 97 = .ok (.istore_n 1, 1) := by decide +kernel
theorem dX4_takeAll_98 : decode cX4_takeAll 98 = .ok (.iinc 2 1, 3) := by decide +kernel
theorem dX4_takeAll_101 : decode cX4_takeAll 101 = .ok (.goto (-97), 3) := by decide +kernel
theorem dX4_takeAll_104 : decode cX4_takeAll 104 = .ok (.iconst 0, 1) := by decide +kernel
theorem dX4_takeAll_105 : decode cX4_takeAll 105 = .ok (.ireturn, 1) := by decide +kernel
set_option maxRecDepth 20000 in
theorem ggX4_behindWhite_X6_count : GoodIn wsX4_behindWhite wsX6_count := goodIn_r _ [6, 7, 35, 36, 37] rfl (by decide +kernel)
set_option maxRecDepth 20000 in
theorem gX4_behindWhite_X6_count : GoodIn wsX4_behindWhite (wsV RX4 68 RX6 yX6_count wsX6_count) := goodIn_app (goodIn_of _ (by decide +kernel)) ggX4_behindWhite_X6_count
set_option maxRecDepth 20000 in
theorem ggX4_behindWhite_X6_look : GoodIn wsX4_behindWhite wsX6_look := goodIn_r _ [11, 7, 12, 35, 36, 37] rfl (by decide +kernel)
set_option maxRecDepth 20000 in
theorem gX4_behindWhite_X6_look : GoodIn wsX4_behindWhite (wsV RX4 96 RX6 yX6_look wsX6_look) := goodIn_app (goodIn_of _ (by decide +kernel)) ggX4_behindWhite_X6_look
set_option maxRecDepth 20000 in
theorem ggX4_behindWhite_X4_isBlank : GoodIn wsX4_behindWhite wsX4_isBlank := goodIn_r _ [16, 17, 18, 19] rfl (by decide +kernel)
set_option maxRecDepth 20000 in
theorem gX4_behindWhite_X4_isBlank : GoodIn wsX4_behindWhite (va_wsS RX4 99 yX4_isBlank wsX4_isBlank) := goodIn_app (goodIn_of _ (by decide +kernel)) ggX4_behindWhite_X4_isBlank
set_option maxRecDepth 20000 in
theorem ggX4_behindWhite_X4_behindLine : GoodIn wsX4_behindWhite wsX4_behindLine := goodIn_r _ [23, 1, 2, 3, 4, 5, 6, 7, 8, 9, 10, 11, 12, 17, 18, 19, 28, 29, 30, 31, 32, 33, 34, 35, 36, 37] rfl (by decide +kernel)
set_option maxRecDepth 20000 in
theorem gX4_behindWhite_X4_behindLine : GoodIn wsX4_behindWhite (wsV RX4 102 RX4 yX4_behindLine wsX4_behindLine) := goodIn_app (goodIn_of _ (by decide +kernel)) ggX4_behindWhite_X4_behindLine
set_option maxRecDepth 20000 in
theorem ggX4_behindWhite_X4_behindStarAndSlash : GoodIn wsX4_behindWhite wsX4_behindStarAndSlash := goodIn_r _ [27, 1, 2, 3, 4, 5, 6, 7, 8, 9, 10, 11, 12, 28, 29, 30, 31, 32, 33, 34, 35, 36, 37] rfl (by decide +kernel)
set_option maxRecDepth 20000 in
theorem gX4_behindWhite_X4_behindStarAndSlash : GoodIn wsX4_behindWhite (wsV RX4 105 RX4 yX4_behindStarAndSlash wsX4_behindStarAndSlash) := goodIn_app (goodIn_of _ (by decide +kernel)) ggX4_behindWhite_X4_behindStarAndSlash
theorem dX4_behindWhite_0 : decode cX4_behindWhite 0 = .ok (.iload_n 1, 1) := by decide +kernel
theorem dX4_behindWhite_1 : decode cX4_behindWhite 1 = .ok (.istore_n 2, 1) := by decide +kernel
theorem dX4_behindWhite_2 : decode cX4_behindWhite 2 = .ok (.iload_n 2, 1) := by decide +kernel
theorem dX4_behindWhite_3 : decode cX4_behindWhite 3 = .ok (.iconst (-1), 1) := by decide +kernel
theorem dX4_behindWhite_4 : decode cX4_behindWhite 4 = .ok (.if_icmp .eq 101, 3) := by decide +kernel
theorem dX4_behindWhite_7 : decode cX4_behindWhite 7 = .ok (.iload_n 2, 1) := by decide +kernel
theorem dX4_behindWhite_8 : decode cX4_behindWhite 8 = .ok (.aload_n 0, 1) := by decide +kernel
theorem dX4_behindWhite_9 : decode cX4_behindWhite 9 = .ok (.getfield 9, 3) := by decide +kernel
theorem dX4_behindWhite_12 : decode cX4_behindWhite 12 = .ok (.invokevirtual 68, 3) := by decide +kernel
theorem dX4_behindWhite_15 : decode cX4_behindWhite 15 = .ok (.if_icmp .ge 90, 3) := by decide +kernel
theorem dX4_behindWhite_18 : decode cX4_behindWhite 18 = .ok (.aload_n 0, 1) := by decide +kernel
theorem dX4_behindWhite_19 : decode cX4_behindWhite 19 = .ok (.getfield 9, 3) := by decide +kernel
theorem dX4_behindWhite_22 : decode cX4_behindWhite 22 = .ok (.iload_n 2, 1) := by decide +kernel
theorem dX4_behindWhite_23 : decode cX4_behindWhite 23 = .ok (.invokevirtual 96, 3) := by decide +kernel
theorem dX4_behindWhite_26 : decode cX4_behindWhite 26 = .ok (.istore_n 3, 1) := by decide +kernel
theorem dX4_behindWhite_27 : decode cX4_behindWhite 27 = .ok (.aload_n 0, 1) := by decide +kernel
theorem dX4_behindWhite_28 : decode cX4_behindWhite 28 = .ok (.getfield 9, 3) := by decide +kernel
theorem dX4_behindWhite_31 : decode cX4_behindWhite 31 = .ok (.iload_n 2, 1) := by decide +kernel
theorem dX4_behindWhite_32 : decode cX4_behindWhite 32 = .ok (.iconst 1, 1) := by decide +kernel
theorem dX4_behindWhite_33 : decode cX4_behindWhite 33 = .ok (.iadd, 1) := by decide +kernel
theorem dX4_behindWhite_34 : decode cX4_behindWhite 34 = .ok (.invokevirtual 96, 3) := by decide +kernel
theorem dX4_behindWhite_37 : decode cX4_behindWhite 37 = .ok (.istore 4, 2) := by decide +kernel
theorem dX4_behindWhite_39 : decode cX4_behindWhite 39 = .ok (.iload_n 3, 1) := by decide +kernel
theorem dX4_behindWhite_40 : decode cX4_behindWhite 40 = .ok (.invokestatic 99, 3) := by decide +kernel
theorem dX4_behindWhite_43 : decode cX4_behindWhite 43 = .ok (.ifCond .eq 9, 3) := by decide +kernel
theorem dX4_behindWhite_46 : decode cX4_behindWhite 46 = .ok (.iinc 2 1, 3) := by decide +kernel
theorem dX4_behindWhite_49 : decode cX4_behindWhite 49 = .ok (.goto 53, 3) := by decide +kernel
theorem dX4_behindWhite_52 : decode cX4_behindWhite 52 = .ok (.iload_n 3, 1) := by decide +kernel
theorem dX4_behindWhite_53 : decode cX4_behindWhite 53 = .ok (.bipush 47, 2) := by decide +kernel
theorem dX4_behindWhite_55 : decode cX4_behindWhite 55 = .ok (.if_icmp .ne 21, 3) := by decide +kernel
theorem dX4_behindWhite_58 : decode cX4_behindWhite 58 = .ok (.iload 4, 2) := by decide +kernel
theorem dX4_behindWhite_60 : decode cX4_behindWhite 60 = .ok (.bipush 47, 2) := by decide +kernel
theorem dX4_behindWhite_62 : decode cX4_behindWhite 62 = .ok (.if_icmp .ne 14, 3) := by decide +kernel
theorem dX4_behindWhite_65 : decode cX4_behindWhite 65 = .ok (.aload_n 0, 1) := by decide +kernel
theorem dX4_behindWhite_66 : decode cX4_behindWhite 66 = .ok (.iload_n 2, 1) := by decide +kernel
theorem dX4_behindWhite_67 : decode cX4_behindWhite 67 = .ok (.iconst 2, 1) := by decide +kernel
theorem dX4_behindWhite_68 : decode cX4_behindWhite 68 = .ok (.iadd, 1) := by decide +kernel
theorem dX4_behindWhite_69 : decode cX4_behindWhite 69 = .ok (.invokevirtual 102, 3) := by decide +kernel
theorem dX4_behindWhite_72 : decode cX4_behindWhite 72 = .ok (.istore_n 2, 1) := by decide +kernel
theorem dX4_behindWhite_73 : decode cX4_behindWhite 73 = .ok (.goto 29, 3) := by decide +kernel
theorem dX4_behindWhite_76 : decode cX4_behindWhite 76 = .ok (.iload_n 3, 1) := by decide +kernel
theorem dX4_behindWhite_77 : decode cX4_behindWhite 77 = .ok (.bipush 47, 2) := by decide +kernel
theorem dX4_behindWhite_79 : decode cX4_behindWhite 79 = .ok (.if_icmp .ne 21, 3) := by decide +kernel
theorem dX4_behindWhite_82 : decode cX4_behindWhite 82 = .ok (.iload 4, 2) := by decide +kernel
theorem dX4_behindWhite_84 : decode cX4_behindWhite 84 = .ok (.bipush 42, 2) := by decide +kernel
theorem dX4_behindWhite_86 : decode cX4_behindWhite 86 = .ok (.if_icmp .ne 14, 3) := by decide +kernel
theorem dX4_behindWhite_89 : decode cX4_behindWhite 89 = .ok (.aload_n 0, 1) := by decide +kernel
theorem dX4_behindWhite_90 : decode cX4_behindWhite 90 = .ok (.iload_n 2, 1) := by decide +kernel
theorem dX4_behindWhite_91 : decode cX4_behindWhite 91 = .ok (.iconst 2, 1) := by decide +kernel
theorem dX4_behindWhite_92 : decode cX4_behindWhite 92 = .ok (.iadd, 1) := by decide +kernel
theorem dX4_behindWhite_93 : decode cX4_behindWhite 93 = .ok (.invokevirtual 105, 3) := by decide +kernel
theorem dX4_behindWhite_96 : decode cX4_behindWhite 96 = .ok (.istore_n 2, 1) := by decide +kernel
theorem dX4_behindWhite_97 : decode cX4_behindWhite 97 = .ok (.goto 5, 3) := by decide +kernel
theorem dX4_behindWhite_100 : decode cX4_behindWhite 100 = .ok (.iload_n 2, 1) := by decide +kernel
theorem dX4_behindWhite_101 : decode cX4_behindWhite 101 = .ok (.ireturn, 1) := by decide +kernel
theorem dX4_behindWhite_102 : decode cX4_behindWhite 102 = .ok (.goto (-100), 3) := by decide +kernel
theorem dX4_behindWhite_105 : decode cX4_behindWhite 105 = .ok (.iload_n 2, 1) := by decide +kernel
theorem dX4_behindWhite_106 : decode cX4_behindWhite 106 = .ok (.ireturn, 1) := by decide +kernel
set_option maxRecDepth 20000 in
theorem ggX4_behindLine_X6_count : GoodIn wsX4_behindLine wsX6_count := goodIn_r _ [6, 7, 23, 24, 25] rfl (by decide +kernel)
set_option maxRecDepth 20000 in
theorem gX4_behindLine_X6_count : GoodIn wsX4_behindLine (wsV RX4 68 RX6 yX6_count wsX6_count) := goodIn_app (goodIn_of _ (by decide +kernel)) ggX4_behindLine_X6_count
set_option maxRecDepth 20000 in
theorem ggX4_behindLine_X6_look : GoodIn wsX4_behindLine wsX6_look := goodIn_r _ [11, 7, 12, 23, 24, 25] rfl (by decide +kernel)
set_option maxRecDepth 20000 in
theorem gX4_behindLine_X6_look : GoodIn wsX4_behindLine (wsV RX4 96 RX6 yX6_look wsX6_look) := goodIn_app (goodIn_of _ (by decide +kernel)) ggX4_behindLine_X6_look
set_option maxRecDepth 20000 in
theorem ggX4_behindLine_X9_isLineEnd : GoodIn wsX4_behindLine wsX9_isLineEnd := goodIn_r _ [15] rfl (by decide +kernel)
set_option maxRecDepth 20000 in
theorem gX4_behindLine_X9_isLineEnd_n108 : GoodIn wsX4_behindLine (wsX9_isLineEnd) := ggX4_behindLine_X9_isLineEnd
theorem dX4_behindLine_0 : decode cX4_behindLine 0 = .ok (.iload_n 1, 1) := by decide +kernel
theorem dX4_behindLine_1 : decode cX4_behindLine 1 = .ok (.istore_n 2, 1) := by decide +kernel
theorem dX4_behindLine_2 : decode cX4_behindLine 2 = .ok (.iload_n 2, 1) := by decide +kernel
theorem dX4_behindLine_3 : decode cX4_behindLine 3 = .ok (.aload_n 0, 1) := by decide +kernel
theorem dX4_behindLine_4 : decode cX4_behindLine 4 = .ok (.getfield 9, 3) := by decide +kernel
theorem dX4_behindLine_7 : decode cX4_behindLine 7 = .ok (.invokevirtual 68, 3) := by decide +kernel
theorem dX4_behindLine_10 : decode cX4_behindLine 10 = .ok (.if_icmp .ge 23, 3) := by decide +kernel
theorem dX4_behindLine_13 : decode cX4_behindLine 13 = .ok (.aload_n 0, 1) := by decide +kernel
theorem dX4_behindLine_14 : decode cX4_behindLine 14 = .ok (.getfield 9, 3) := by decide +kernel
theorem dX4_behindLine_17 : decode cX4_behindLine 17 = .ok (.iload_n 2, 1) := by decide +kernel
theorem dX4_behindLine_18 : decode cX4_behindLine 18 = .ok (.invokevirtual 96, 3) := by decide +kernel
theorem dX4_behindLine_21 : decode cX4_behindLine 21 = .ok (.invokestatic 108, 3) := by decide +kernel
theorem dX4_behindLine_24 : decode cX4_behindLine 24 = .ok (.ifCond .ne 9, 3) := by decide +kernel
theorem dX4_behindLine_27 : decode cX4_behindLine 27 = .ok (.iinc 2 1, 3) := by decide +kernel
theorem dX4_behindLine_30 : decode cX4_behindLine 30 = .ok (.goto (-28), 3) := by decide +kernel
theorem dX4_behindLine_33 : decode cX4_behindLine 33 = .ok (.iload_n 2, 1) := by decide +kernel
theorem dX4_behindLine_34 : decode cX4_behindLine 34 = .ok (.ireturn, 1) := by decide +kernel
set_option maxRecDepth 20000 in
theorem ggX4_behindStarAndSlash_X6_count : GoodIn wsX4_behindStarAndSlash wsX6_count := goodIn_r _ [6, 7, 20, 21, 22] rfl (by decide +kernel)
set_option maxRecDepth 20000 in
theorem gX4_behindStarAndSlash_X6_count : GoodIn wsX4_behindStarAndSlash (wsV RX4 68 RX6 yX6_count wsX6_count) := goodIn_app (goodIn_of _ (by decide +kernel)) ggX4_behindStarAndSlash_X6_count
set_option maxRecDepth 20000 in
theorem ggX4_behindStarAndSlash_X6_look : GoodIn wsX4_behindStarAndSlash wsX6_look := goodIn_r _ [11, 7, 12, 20, 21, 22] rfl (by decide +kernel)
set_option maxRecDepth 20000 in
theorem gX4_behindStarAndSlash_X6_look : GoodIn wsX4_behindStarAndSlash (wsV RX4 96 RX6 yX6_look wsX6_look) := goodIn_app (goodIn_of _ (by decide +kernel)) ggX4_behindStarAndSlash_X6_look
theorem dX4_behindStarAndSlash_0 : decode cX4_behindStarAndSlash 0 = .ok (.iload_n 1, 1) := by decide +kernel
theorem dX4_behindStarAndSlash_1 : decode cX4_behindStarAndSlash 1 = .ok (.istore_n 2, 1) := by decide +kernel
theorem dX4_behindStarAndSlash_2 : decode cX4_behindStarAndSlash 2 = .ok (.iload_n 2, 1) := by decide +kernel
theorem dX4_behindStarAndSlash_3 : decode cX4_behindStarAndSlash 3 = .ok (.aload_n 0, 1) := by decide +kernel
theorem dX4_behindStarAndSlash_4 : decode cX4_behindStarAndSlash 4 = .ok (.getfield 9, 3) := by decide +kernel
theorem dX4_behindStarAndSlash_7 : decode cX4_behindStarAndSlash 7 = .ok (.invokevirtual 68, 3) := by decide +kernel
theorem dX4_behindStarAndSlash_10 : decode cX4_behindStarAndSlash 10 = .ok (.if_icmp .ge 41, 3) := by decide +kernel
theorem dX4_behindStarAndSlash_13 : decode cX4_behindStarAndSlash 13 = .ok (.aload_n 0, 1) := by decide +kernel
theorem dX4_behindStarAndSlash_14 : decode cX4_behindStarAndSlash 14 = .ok (.getfield 9, 3) := by decide +kernel
theorem dX4_behindStarAndSlash_17 : decode cX4_behindStarAndSlash 17 = .ok (.iload_n 2, 1) := by decide +kernel
theorem dX4_behindStarAndSlash_18 : decode cX4_behindStarAndSlash 18 = .ok (.invokevirtual 96, 3) := by decide +kernel
theorem dX4_behindStarAndSlash_21 : decode cX4_behindStarAndSlash 21 = .ok (.bipush 42, 2) := by decide +kernel
theorem dX4_behindStarAndSlash_23 : decode cX4_behindStarAndSlash 23 = .ok (.if_icmp .ne 22, 3) := by decide +kernel
theorem dX4_behindStarAndSlash_26 : decode cX4_behindStarAndSlash 26 = .ok (.aload_n 0, 1) := by decide +kernel
theorem dX4_behindStarAndSlash_27 : decode cX4_behindStarAndSlash 27 = .ok (.getfield 9, 3) := by decide +kernel
theorem dX4_behindStarAndSlash_30 : decode cX4_behindStarAndSlash 30 = .ok (.iload_n 2, 1) := by decide +kernel
theorem dX4_behindStarAndSlash_31 : decode cX4_behindStarAndSlash 31 = .ok (.iconst 1, 1) := by decide +kernel
theorem dX4_behindStarAndSlash_32 : decode cX4_behindStarAndSlash 32 = .ok (.iadd, 1) := by decide +kernel
theorem dX4_behindStarAndSlash_33 : decode cX4_behindStarAndSlash 33 = .ok (.invokevirtual 96, 3) := by decide +kernel
theorem dX4_behindStarAndSlash_36 : decode cX4_behindStarAndSlash 36 = .ok (.bipush 47, 2) := by decide +kernel
theorem dX4_behindStarAndSlash_38 : decode cX4_behindStarAndSlash 38 = .ok (.if_icmp .ne 7, 3) := by decide +kernel
theorem dX4_behindStarAndSlash_41 : decode cX4_behindStarAndSlash 41 = .ok (.iload_n 2, 1) := by decide +kernel
theorem dX4_behindStarAndSlash_42 : decode cX4_behindStarAndSlash 42 = .ok (.iconst 2, 1) := by decide +kernel
theorem dX4_behindStarAndSlash_43 : decode cX4_behindStarAndSlash 43 = .ok (.iadd, 1) := by decide +kernel
theorem dX4_behindStarAndSlash_44 : decode cX4_behindStarAndSlash 44 = .ok (.ireturn, 1) := by decide +kernel
theorem dX4_behindStarAndSlash_45 : decode cX4_behindStarAndSlash 45 = .ok (.iinc 2 1, 3) := by decide +kernel
theorem dX4_behindStarAndSlash_48 : decode cX4_behindStarAndSlash 48 = .ok (.goto (-46), 3) := by decide +kernel
theorem dX4_behindStarAndSlash_51 : decode cX4_behindStarAndSlash 51 = .ok (.iconst (-1), 1) := by decide +kernel
theorem dX4_behindStarAndSlash_52 : decode cX4_behindStarAndSlash 52 = .ok (.ireturn, 1) := by decide +kernel
set_option maxRecDepth 20000 in
theorem ggX4_take_X6_look : GoodIn wsX4_take wsX6_look := goodIn_r _ [8, 9, 10, 266, 267, 268] rfl (by decide +kernel)
set_option maxRecDepth 20000 in
theorem gX4_take_X6_look : GoodIn wsX4_take (wsV RX4 96 RX6 yX6_look wsX6_look) := goodIn_app (goodIn_of _ (by decide +kernel)) ggX4_take_X6_look
set_option maxRecDepth 20000 in
theorem ggX4_take_X4_isNamePart : GoodIn wsX4_take wsX4_isNamePart := goodIn_r _ [14, 15, 16, 17, 18, 19, 20] rfl (by decide +kernel)
set_option maxRecDepth 20000 in
theorem gX4_take_X4_isNamePart : GoodIn wsX4_take (va_wsS RX4 111 yX4_isNamePart wsX4_isNamePart) := goodIn_app (goodIn_of _ (by decide +kernel)) ggX4_take_X4_isNamePart
set_option maxRecDepth 20000 in
theorem ggX4_take_X9_isDecimal : GoodIn wsX4_take wsX9_isDecimal := goodIn_r _ [17, 18, 19, 16, 20] rfl (by decide +kernel)
set_option maxRecDepth 20000 in
theorem gX4_take_X9_isDecimal_n114 : GoodIn wsX4_take (wsX9_isDecimal) := ggX4_take_X9_isDecimal
set_option maxRecDepth 20000 in
theorem ggX4_take_X4_takeName : GoodIn wsX4_take wsX4_takeName := goodIn_r _ [24, 1, 25, 26, 27, 28, 29, 7, 30, 9, 4, 5, 6, 8, 10, 11, 12, 13, 14, 15, 16, 17, 18, 19, 20, 31, 32, 33, 34, 35, 36, 37, 38, 39, 40, 41, 42, 43, 44, 45, 46, 47, 48, 49, 50, 51, 52, 53, 54, 55, 56, 57, 259, 260, 261, 262, 263, 264, 265, 266, 267, 268, 269, 270, 271, 272, 273, 274, 275] rfl (by decide +kernel)
set_option maxRecDepth 20000 in
theorem gX4_take_X4_takeName : GoodIn wsX4_take (wsV RX4 117 RX4 yX4_takeName wsX4_takeName) := goodIn_app (goodIn_of _ (by decide +kernel)) ggX4_take_X4_takeName
set_option maxRecDepth 20000 in
theorem ggX4_take_X2_measureBroken : GoodIn wsX4_take wsX2_measureBroken := goodIn_r _ [62, 63, 64, 65, 66, 67, 68, 69, 70, 61, 71, 72, 5, 6, 7, 8, 9, 10, 73, 74, 75, 76, 77, 78, 79, 80, 81, 28, 29, 30, 19, 16, 20, 82, 83, 84, 85, 86, 87, 88, 89, 90, 91, 92, 93, 276, 277, 278, 279, 280, 281, 282, 283, 266, 267, 268] rfl (by decide +kernel)
set_option maxRecDepth 20000 in
theorem gX4_take_X2_measureBroken : GoodIn wsX4_take (wsV RX4 120 RX2 yX2_measureBroken wsX2_measureBroken) := goodIn_app (goodIn_of _ (by decide +kernel)) ggX4_take_X2_measureBroken
set_option maxRecDepth 20000 in
theorem ggX4_take_X2_takeBroken : GoodIn wsX4_take wsX2_takeBroken := goodIn_r _ [97, 67, 64, 66, 63, 98, 99, 86, 87, 88, 61, 89, 73, 74, 75, 76, 65, 72, 5, 6, 7, 8, 9, 10, 90, 91, 92, 93, 100, 101, 102, 103, 104, 105, 106, 107, 108, 109, 110, 111, 19, 16, 20, 112, 113, 114, 115, 116, 117, 118, 119, 120, 121, 15, 17, 18, 122, 123, 124, 125, 126, 127, 128, 129, 130, 131, 132, 133, 134, 135, 136, 137, 138, 139, 140, 141, 142, 143, 144, 145, 146, 147, 148, 149, 150, 151, 152, 153, 154, 155, 156, 157, 158, 159, 160, 161, 162, 163, 164, 165, 166, 167, 168, 169, 170, 171, 172, 173, 174, 175, 176, 177, 178, 179, 180, 181, 182, 183, 184, 185, 186, 187, 188, 189, 190, 191, 192, 193, 194, 195, 196, 197, 198, 199, 200, 50, 51, 52, 53, 54, 55, 56, 57, 276, 277, 278, 279, 280, 281, 282, 283, 266, 267, 268, 284, 285, 286, 287, 288, 272, 273, 274, 275] rfl (by decide +kernel)
set_option maxRecDepth 20000 in
theorem gX4_take_X2_takeBroken : GoodIn wsX4_take (wsV RX4 123 RX2 yX2_takeBroken wsX2_takeBroken) := goodIn_app (goodIn_of _ (by decide +kernel)) ggX4_take_X2_takeBroken
set_option maxRecDepth 20000 in
theorem ggX4_take_X2_takeWhole : GoodIn wsX4_take wsX2_takeWhole := goodIn_r _ [204, 64, 63, 104, 99, 205, 206, 207, 61, 208, 65, 68, 69, 70, 71, 72, 5, 6, 7, 8, 9, 10, 73, 74, 75, 76, 19, 16, 20, 77, 78, 79, 80, 81, 28, 29, 30, 100, 101, 102, 103, 105, 106, 107, 108, 109, 110, 111, 112, 113, 114, 115, 116, 209, 210, 211, 212, 200, 50, 51, 52, 53, 54, 55, 56, 57, 213, 161, 162, 163, 164, 165, 166, 167, 168, 214, 215, 216, 217, 218, 276, 277, 278, 279, 280, 281, 282, 283, 266, 267, 268, 284, 285, 272, 273, 274, 275] rfl (by decide +kernel)
set_option maxRecDepth 20000 in
theorem gX4_take_X2_takeWhole : GoodIn wsX4_take (wsV RX4 126 RX2 yX2_takeWhole wsX2_takeWhole) := goodIn_app (goodIn_of _ (by decide +kernel)) ggX4_take_X2_takeWhole
set_option maxRecDepth 20000 in
theorem ggX4_take_X3_takeCharacter : GoodIn wsX4_take wsX3_takeCharacter := goodIn_r _ [223, 224, 225, 226, 227, 5, 6, 7, 8, 9, 10, 228, 229, 230, 222, 231, 232, 16, 233, 234, 235, 236, 237, 19, 20, 238, 239, 240, 241, 242, 243, 244, 245, 50, 51, 52, 53, 54, 55, 56, 57, 289, 290, 291, 266, 267, 268, 272, 273, 274, 275] rfl (by decide +kernel)
set_option maxRecDepth 20000 in
theorem gX4_take_X3_takeCharacter : GoodIn wsX4_take (wsV RX4 129 RX3 yX3_takeCharacter wsX3_takeCharacter) := goodIn_app (goodIn_of _ (by decide +kernel)) ggX4_take_X3_takeCharacter
set_option maxRecDepth 20000 in
theorem ggX4_take_X3_takeString : GoodIn wsX4_take wsX3_takeString := goodIn_r _ [249, 224, 225, 226, 227, 5, 6, 7, 8, 9, 10, 245, 50, 51, 52, 53, 54, 55, 56, 57, 228, 229, 230, 222, 231, 232, 16, 233, 234, 235, 236, 237, 19, 20, 238, 239, 240, 241, 242, 243, 244, 250, 251, 252, 253, 289, 290, 291, 266, 267, 268, 272, 273, 274, 275] rfl (by decide +kernel)
set_option maxRecDepth 20000 in
theorem gX4_take_X3_takeString : GoodIn wsX4_take (wsV RX4 132 RX3 yX3_takeString wsX3_takeString) := goodIn_app (goodIn_of _ (by decide +kernel)) ggX4_take_X3_takeString
set_option maxRecDepth 20000 in
theorem ggX4_take_X4_takeSign : GoodIn wsX4_take wsX4_takeSign := goodIn_r _ [257, 258, 1, 26, 31, 32, 33, 34, 35, 36, 37, 38, 39, 5, 6, 7, 8, 9, 10, 40, 41, 42, 43, 44, 45, 46, 47, 48, 49, 50, 51, 52, 53, 54, 55, 56, 57, 259, 260, 261, 262, 263, 264, 265, 269, 270, 271, 266, 267, 268, 272, 273, 274, 275] rfl (by decide +kernel)
set_option maxRecDepth 20000 in
theorem gX4_take_X4_takeSign : GoodIn wsX4_take (wsV RX4 135 RX4 yX4_takeSign wsX4_takeSign) := goodIn_app (goodIn_of _ (by decide +kernel)) ggX4_take_X4_takeSign
theorem dX4_take_0 : decode cX4_take 0 = .ok (.aload_n 0, 1) := by decide +kernel
theorem dX4_take_1 : decode cX4_take 1 = .ok (.getfield 9, 3) := by decide +kernel
theorem dX4_take_4 : decode cX4_take 4 = .ok (.iload_n 1, 1) := by decide +kernel
theorem dX4_take_5 : decode cX4_take 5 = .ok (.invokevirtual 96, 3) := by decide +kernel
theorem dX4_take_8 : decode cX4_take 8 = .ok (.istore_n 2, 1) := by decide +kernel
theorem dX4_take_9 : decode cX4_take 9 = .ok (.iload_n 2, 1) := by decide +kernel
theorem dX4_take_10 : decode cX4_take 10 = .ok (.invokestatic 111, 3) := by decide +kernel
theorem dX4_take_13 : decode cX4_take 13 = .ok (.ifCond .eq 16, 3) := by decide +kernel
theorem dX4_take_16 : decode cX4_take 16 = .ok (.iload_n 2, 1) := by decide +kernel
theorem dX4_take_17 : decode cX4_take 17 = .ok (.invokestatic 114, 3) := by decide +kernel
theorem dX4_take_20 : decode cX4_take 20 = .ok (.ifCond .ne 9, 3) := by decide +kernel
theorem dX4_take_23 : decode cX4_take 23 = .ok (.aload_n 0, 1) := by decide +kernel
theorem dX4_take_24 : decode cX4_take 24 = .ok (.iload_n 1, 1) := by decide +kernel
theorem dX4_take_25 : decode cX4_take 25 = .ok (.invokevirtual 117, 3) := by decide +kernel
theorem dX4_take_28 : decode cX4_take 28 = .ok (.ireturn, 1) := by decide +kernel
theorem dX4_take_29 : decode cX4_take 29 = .ok (.iload_n 2, 1) := by decide +kernel
theorem dX4_take_30 : decode cX4_take 30 = .ok (.invokestatic 114, 3) := by decide +kernel
theorem dX4_take_33 : decode cX4_take 33 = .ok (.ifCond .ne 25, 3) := by decide +kernel
theorem dX4_take_36 : decode cX4_take 36 = .ok (.iload_n 2, 1) := by decide +kernel
theorem dX4_take_37 : decode cX4_take 37 = .ok (.bipush 46, 2) := by decide +kernel
theorem dX4_take_39 : decode cX4_take 39 = .ok (.if_icmp .ne 50, 3) := by decide +kernel
theorem dX4_take_42 : decode cX4_take 42 = .ok (.aload_n 0, 1) := by decide +kernel
theorem dX4_take_43 : decode cX4_take 43 = .ok (.getfield 9, 3) := by decide +kernel
theorem dX4_take_46 : decode cX4_take 46 = .ok (.iload_n 1, 1) := by decide +kernel
theorem dX4_take_47 : decode cX4_take 47 = .ok (.iconst 1, 1) := by decide +kernel
theorem dX4_take_48 : decode cX4_take 48 = .ok (.iadd, 1) := by decide +kernel
theorem dX4_take_49 : decode cX4_take 49 = .ok (.invokevirtual 96, 3) := by decide +kernel
theorem dX4_take_52 : decode cX4_take 52 = .ok (.invokestatic 114, 3) := by decide +kernel
theorem dX4_take_55 : decode cX4_take 55 = .ok (.ifCond .eq 34, 3) := by decide +kernel
theorem dX4_take_58 : decode cX4_take 58 = .ok (.aload_n 0, 1) := by decide +kernel
theorem dX4_take_59 : decode cX4_take 59 = .ok (.getfield 57, 3) := by decide +kernel
theorem dX4_take_62 : decode cX4_take 62 = .ok (.iload_n 1, 1) := by decide +kernel
theorem dX4_take_63 : decode cX4_take 63 = .ok (.invokevirtual 120, 3) := by decide +kernel
theorem dX4_take_66 : decode cX4_take 66 = .ok (.ifCond .eq 14, 3) := by decide +kernel
theorem dX4_take_69 : decode cX4_take 69 = .ok (.aload_n 0, 1) := by decide +kernel
theorem dX4_take_70 : decode cX4_take 70 = .ok (.getfield 57, 3) := by decide +kernel
theorem dX4_take_73 : decode cX4_take 73 = .ok (.iload_n 1, 1) := by decide +kernel
theorem dX4_take_74 : decode cX4_take 74 = .ok (.invokevirtual 123, 3) := by decide +kernel
theorem dX4_take_77 : decode cX4_take 77 = .ok (.goto 11, 3) := by decide +kernel
theorem dX4_take_80 : decode cX4_take 80 = .ok (.aload_n 0, 1) := by decide +kernel
theorem dX4_take_81 : decode cX4_take 81 = .ok (.getfield 57, 3) := by decide +kernel
theorem dX4_take_84 : decode cX4_take 84 = .ok (.iload_n 1, 1) := by decide +kernel
theorem dX4_take_85 : decode cX4_take 85 = .ok (.invokevirtual 126, 3) := by decide +kernel
theorem dX4_take_88 : decode cX4_take 88 = .ok (.ireturn, 1) := by decide +kernel
theorem dX4_take_89 : decode cX4_take 89 = .ok (.iload_n 2, 1) := by decide +kernel
theorem dX4_take_90 : decode cX4_take 90 = .ok (.bipush 39, 2) := by decide +kernel
theorem dX4_take_92 : decode cX4_take 92 = .ok (.if_icmp .ne 12, 3) := by decide +kernel
theorem dX4_take_95 : decode cX4_take 95 = .ok (.aload_n 0, 1) := by decide +kernel
theorem dX4_take_96 : decode cX4_take 96 = .ok (.getfield 64, 3) := by decide +kernel
theorem dX4_take_99 : decode cX4_take 99 = .ok (.iload_n 1, 1) := by decide +kernel
theorem dX4_take_100 : decode cX4_take 100 = .ok (.invokevirtual 129, 3) := by decide +kernel
theorem dX4_take_103 : decode cX4_take 103 = .ok (.ireturn, 1) := by decide +kernel
theorem dX4_take_104 : decode cX4_take 104 = .ok (.iload_n 2, 1) := by decide +kernel
theorem dX4_take_105 : decode cX4_take 105 = .ok (.bipush 34, 2) := by decide +kernel
theorem dX4_take_107 : decode cX4_take 107 = .ok (.if_icmp .ne 12, 3) := by decide +kernel
theorem dX4_take_110 : decode cX4_take 110 = .ok (.aload_n 0, 1) := by decide +kernel
theorem dX4_take_111 : decode cX4_take 111 = .ok (.getfield 64, 3) := by decide +kernel
theorem dX4_take_114 : decode cX4_take 114 = .ok (.iload_n 1, 1) := by decide +kernel
theorem dX4_take_115 : decode cX4_take 115 = .ok (.invokevirtual 132, 3) := by decide +kernel
theorem dX4_take_118 : decode cX4_take 118 = .ok (.ireturn, 1) := by decide +kernel
theorem dX4_take_119 : decode cX4_take 119 = .ok (.aload_n 0, 1) := by decide +kernel
theorem dX4_take_120 : decode cX4_take 120 = .ok (.iload_n 1, 1) := by decide +kernel
theorem dX4_take_121 : decode cX4_take 121 = .ok (.invokevirtual 135, 3) := by decide +kernel
theorem dX4_take_124 : decode cX4_take 124 = .ok (.ireturn, 1) := by decide +kernel
set_option maxRecDepth 20000 in
theorem ggX4_takeName_X6_count : GoodIn wsX4_takeName wsX6_count := goodIn_r _ [8, 9, 59, 60, 61] rfl (by decide +kernel)
set_option maxRecDepth 20000 in
theorem gX4_takeName_X6_count : GoodIn wsX4_takeName (wsV RX4 68 RX6 yX6_count wsX6_count) := goodIn_app (goodIn_of _ (by decide +kernel)) ggX4_takeName_X6_count
set_option maxRecDepth 20000 in
theorem ggX4_takeName_X6_look : GoodIn wsX4_takeName wsX6_look := goodIn_r _ [13, 9, 14, 59, 60, 61] rfl (by decide +kernel)
set_option maxRecDepth 20000 in
theorem gX4_takeName_X6_look : GoodIn wsX4_takeName (wsV RX4 96 RX6 yX6_look wsX6_look) := goodIn_app (goodIn_of _ (by decide +kernel)) ggX4_takeName_X6_look
set_option maxRecDepth 20000 in
theorem ggX4_takeName_X4_isNamePart : GoodIn wsX4_takeName wsX4_isNamePart := goodIn_r _ [18, 19, 20, 21, 22, 23, 24] rfl (by decide +kernel)
set_option maxRecDepth 20000 in
theorem gX4_takeName_X4_isNamePart : GoodIn wsX4_takeName (va_wsS RX4 111 yX4_isNamePart wsX4_isNamePart) := goodIn_app (goodIn_of _ (by decide +kernel)) ggX4_takeName_X4_isNamePart
set_option maxRecDepth 20000 in
theorem ggX4_takeName_X7_longest : GoodIn wsX4_takeName wsX7_longest := goodIn_r _ [29, 30, 31, 32, 33, 11, 12, 7, 13, 9, 14, 34, 35, 36, 28, 37, 38, 39, 40, 41, 62, 63, 64, 59, 60, 61] rfl (by decide +kernel)
set_option maxRecDepth 20000 in
theorem gX4_takeName_X7_longest : GoodIn wsX4_takeName (wsV RX4 138 RX7 yX7_longest wsX7_longest) := goodIn_app (goodIn_of _ (by decide +kernel)) ggX4_takeName_X7_longest
set_option maxRecDepth 20000 in
theorem ggX4_takeName_X7_lengthOf : GoodIn wsX4_takeName wsX7_lengthOf := goodIn_r _ [41, 32, 62, 63, 64] rfl (by decide +kernel)
set_option maxRecDepth 20000 in
theorem gX4_takeName_X7_lengthOf : GoodIn wsX4_takeName (wsV RX4 142 RX7 yX7_lengthOf wsX7_lengthOf) := goodIn_app (goodIn_of _ (by decide +kernel)) ggX4_takeName_X7_lengthOf
set_option maxRecDepth 20000 in
theorem ggX4_takeName_X1_set : GoodIn wsX4_takeName wsX1_set := goodIn_r _ [47, 48, 49, 50, 51, 65, 66, 67, 68] rfl (by decide +kernel)
set_option maxRecDepth 20000 in
theorem gX4_takeName_X1_set : GoodIn wsX4_takeName (wsV RX4 145 RX1 yX1_set wsX1_set) := goodIn_app (goodIn_of _ (by decide +kernel)) ggX4_takeName_X1_set
theorem dX4_takeName_0 : decode cX4_takeName 0 = .ok (.iload_n 1, 1) := by decide +kernel
theorem dX4_takeName_1 : decode cX4_takeName 1 = .ok (.istore_n 2, 1) := by decide +kernel
theorem dX4_takeName_2 : decode cX4_takeName 2 = .ok (.iload_n 2, 1) := by decide +kernel
theorem dX4_takeName_3 : decode cX4_takeName 3 = .ok (.aload_n 0, 1) := by decide +kernel
theorem dX4_takeName_4 : decode cX4_takeName 4 = .ok (.getfield 9, 3) := by decide +kernel
theorem dX4_takeName_7 : decode cX4_takeName 7 = .ok (.invokevirtual 68, 3) := by decide +kernel
theorem dX4_takeName_10 : decode cX4_takeName 10 = .ok (.if_icmp .ge 23, 3) := by decide +kernel
theorem dX4_takeName_13 : decode cX4_takeName 13 = .ok (.aload_n 0, 1) := by decide +kernel
theorem dX4_takeName_14 : decode cX4_takeName 14 = .ok (.getfield 9, 3) := by decide +kernel
theorem dX4_takeName_17 : decode cX4_takeName 17 = .ok (.iload_n 2, 1) := by decide +kernel
theorem dX4_takeName_18 : decode cX4_takeName 18 = .ok (.invokevirtual 96, 3) := by decide +kernel
theorem dX4_takeName_21 : decode cX4_takeName 21 = .ok (.invokestatic 111, 3) := by decide +kernel
theorem dX4_takeName_24 : decode cX4_takeName 24 = .ok (.ifCond .eq 9, 3) := by decide +kernel
theorem dX4_takeName_27 : decode cX4_takeName 27 = .ok (.iinc 2 1, 3) := by decide +kernel
theorem dX4_takeName_30 : decode cX4_takeName 30 = .ok (.goto (-28), 3) := by decide +kernel
theorem dX4_takeName_33 : decode cX4_takeName 33 = .ok (.iload_n 2, 1) := by decide +kernel
theorem dX4_takeName_34 : decode cX4_takeName 34 = .ok (.iload_n 1, 1) := by decide +kernel
theorem dX4_takeName_35 : decode cX4_takeName 35 = .ok (.isub, 1) := by decide +kernel
theorem dX4_takeName_36 : decode cX4_takeName 36 = .ok (.istore_n 3, 1) := by decide +kernel
theorem dX4_takeName_37 : decode cX4_takeName 37 = .ok (.aload_n 0, 1) := by decide +kernel
theorem dX4_takeName_38 : decode cX4_takeName 38 = .ok (.getfield 29, 3) := by decide +kernel
theorem dX4_takeName_41 : decode cX4_takeName 41 = .ok (.aload_n 0, 1) := by decide +kernel
theorem dX4_takeName_42 : decode cX4_takeName 42 = .ok (.getfield 9, 3) := by decide +kernel
theorem dX4_takeName_45 : decode cX4_takeName 45 = .ok (.iload_n 1, 1) := by decide +kernel
theorem dX4_takeName_46 : decode cX4_takeName 46 = .ok (.invokevirtual 138, 3) := by decide +kernel
theorem dX4_takeName_49 : decode cX4_takeName 49 = .ok (.istore 4, 2) := by decide +kernel
theorem dX4_takeName_51 : decode cX4_takeName 51 = .ok (.iload 4, 2) := by decide +kernel
theorem dX4_takeName_53 : decode cX4_takeName 53 = .ok (.iconst (-1), 1) := by decide +kernel
theorem dX4_takeName_54 : decode cX4_takeName 54 = .ok (.if_icmp .eq 20, 3) := by decide +kernel
theorem dX4_takeName_57 : decode cX4_takeName 57 = .ok (.aload_n 0, 1) := by decide +kernel
theorem dX4_takeName_58 : decode cX4_takeName 58 = .ok (.getfield 29, 3) := by decide +kernel
theorem dX4_takeName_61 : decode cX4_takeName 61 = .ok (.iload 4, 2) := by decide +kernel
theorem dX4_takeName_63 : decode cX4_takeName 63 = .ok (.invokevirtual 142, 3) := by decide +kernel
theorem dX4_takeName_66 : decode cX4_takeName 66 = .ok (.iload_n 3, 1) := by decide +kernel
theorem dX4_takeName_67 : decode cX4_takeName 67 = .ok (.if_icmp .ne 7, 3) := by decide +kernel
theorem dX4_takeName_70 : decode cX4_takeName 70 = .ok (.iconst 1, 1) := by decide +kernel
theorem dX4_takeName_71 : decode cX4_takeName 71 = .ok (.goto 4, 3) := by decide +kernel
theorem dX4_takeName_74 : decode cX4_takeName 74 = .ok (.iconst 0, 1) := by decide +kernel
theorem dX4_takeName_75 : decode cX4_takeName 75 = .ok (.istore 5, 2) := by decide +kernel
theorem dX4_takeName_77 : decode cX4_takeName 77 = .ok (.aload_n 0, 1) := by decide +kernel
theorem dX4_takeName_78 : decode cX4_takeName 78 = .ok (.getfield 22, 3) := by decide +kernel
theorem dX4_takeName_81 : decode cX4_takeName 81 = .ok (.iload 5, 2) := by decide +kernel
theorem dX4_takeName_83 : decode cX4_takeName 83 = .ok (.ifCond .eq 10, 3) := by decide +kernel
theorem dX4_takeName_86 : decode cX4_takeName 86 = .ok (.iconst 1, 1) := by decide +kernel
theorem dX4_takeName_87 : decode cX4_takeName 87 = .ok (.iload 4, 2) := by decide +kernel
theorem dX4_takeName_89 : decode cX4_takeName 89 = .ok (.iadd, 1) := by decide +kernel
theorem dX4_takeName_90 : decode cX4_takeName 90 = .ok (.goto 5, 3) := by decide +kernel
theorem dX4_takeName_93 : decode cX4_takeName 93 = .ok (.bipush 60, 2) := by decide +kernel
theorem dX4_takeName_95 : decode cX4_takeName 95 = .ok (.iload_n 3, 1) := by decide +kernel
theorem dX4_takeName_96 : decode cX4_takeName 96 = .ok (.i2l, 1) := by decide +kernel
theorem dX4_takeName_97 : decode cX4_takeName 97 = .ok (.iload_n 1, 1) := by decide +kernel
theorem dX4_takeName_98 : decode cX4_takeName 98 = .ok (.iload_n 2, 1) := by decide +kernel
theorem dX4_takeName_99 : decode cX4_takeName 99 = .ok (.invokevirtual 145, 3) := by decide +kernel
theorem dX4_takeName_102 : decode cX4_takeName 102 = .ok (.iload_n 3, 1) := by decide +kernel
theorem dX4_takeName_103 : decode cX4_takeName 103 = .ok (.sipush 200, 3) := by decide +kernel
theorem dX4_takeName_106 : decode cX4_takeName 106 = .ok (.if_icmp .gt 7, 3) := by decide +kernel
theorem dX4_takeName_109 : decode cX4_takeName 109 = .ok (.iconst 1, 1) := by decide +kernel
theorem dX4_takeName_110 : decode cX4_takeName 110 = .ok (.goto 4, 3) := by decide +kernel
theorem dX4_takeName_113 : decode cX4_takeName 113 = .ok (.iconst 0, 1) := by decide +kernel
theorem dX4_takeName_114 : decode cX4_takeName 114 = .ok (.ireturn, 1) := by decide +kernel
set_option maxRecDepth 20000 in
theorem ggX4_takeSign_X7_longest : GoodIn wsX4_takeSign wsX7_longest := goodIn_r _ [8, 9, 10, 11, 12, 13, 14, 15, 16, 17, 18, 19, 20, 21, 7, 22, 23, 24, 25, 26, 44, 45, 46, 47, 48, 49] rfl (by decide +kernel)
set_option maxRecDepth 20000 in
theorem gX4_takeSign_X7_longest : GoodIn wsX4_takeSign (wsV RX4 138 RX7 yX7_longest wsX7_longest) := goodIn_app (goodIn_of _ (by decide +kernel)) ggX4_takeSign_X7_longest
set_option maxRecDepth 20000 in
theorem ggX4_takeSign_X7_lengthOf : GoodIn wsX4_takeSign wsX7_lengthOf := goodIn_r _ [26, 11, 44, 45, 46] rfl (by decide +kernel)
set_option maxRecDepth 20000 in
theorem gX4_takeSign_X7_lengthOf : GoodIn wsX4_takeSign (wsV RX4 142 RX7 yX7_lengthOf wsX7_lengthOf) := goodIn_app (goodIn_of _ (by decide +kernel)) ggX4_takeSign_X7_lengthOf
set_option maxRecDepth 20000 in
theorem ggX4_takeSign_X1_set : GoodIn wsX4_takeSign wsX1_set := goodIn_r _ [32, 33, 34, 35, 36, 50, 51, 52, 53] rfl (by decide +kernel)
set_option maxRecDepth 20000 in
theorem gX4_takeSign_X1_set : GoodIn wsX4_takeSign (wsV RX4 145 RX1 yX1_set wsX1_set) := goodIn_app (goodIn_of _ (by decide +kernel)) ggX4_takeSign_X1_set
theorem dX4_takeSign_0 : decode cX4_takeSign 0 = .ok (.aload_n 0, 1) := by decide +kernel
theorem dX4_takeSign_1 : decode cX4_takeSign 1 = .ok (.getfield 45, 3) := by decide +kernel
theorem dX4_takeSign_4 : decode cX4_takeSign 4 = .ok (.aload_n 0, 1) := by decide +kernel
theorem dX4_takeSign_5 : decode cX4_takeSign 5 = .ok (.getfield 9, 3) := by decide +kernel
theorem dX4_takeSign_8 : decode cX4_takeSign 8 = .ok (.iload_n 1, 1) := by decide +kernel
theorem dX4_takeSign_9 : decode cX4_takeSign 9 = .ok (.invokevirtual 138, 3) := by decide +kernel
theorem dX4_takeSign_12 : decode cX4_takeSign 12 = .ok (.istore_n 2, 1) := by decide +kernel
theorem dX4_takeSign_13 : decode cX4_takeSign 13 = .ok (.iload_n 2, 1) := by decide +kernel
theorem dX4_takeSign_14 : decode cX4_takeSign 14 = .ok (.iconst (-1), 1) := by decide +kernel
theorem dX4_takeSign_15 : decode cX4_takeSign 15 = .ok (.if_icmp .ne 5, 3) := by decide +kernel
theorem dX4_takeSign_18 : decode cX4_takeSign 18 = .ok (.iconst 0, 1) := by decide +kernel
theorem dX4_takeSign_19 : decode cX4_takeSign 19 = .ok (.ireturn, 1) := by decide +kernel
theorem dX4_takeSign_20 : decode cX4_takeSign 20 = .ok (.aload_n 0, 1) := by decide +kernel
theorem dX4_takeSign_21 : decode cX4_takeSign 21 = .ok (.getfield 22, 3) := by decide +kernel
theorem dX4_takeSign_24 : decode cX4_takeSign 24 = .ok (.bipush 70, 2) := by decide +kernel
theorem dX4_takeSign_26 : decode cX4_takeSign 26 = .ok (.iload_n 2, 1) := by decide +kernel
theorem dX4_takeSign_27 : decode cX4_takeSign 27 = .ok (.iadd, 1) := by decide +kernel
theorem dX4_takeSign_28 : decode cX4_takeSign 28 = .ok (.lconst 0, 1) := by decide +kernel
theorem dX4_takeSign_29 : decode cX4_takeSign 29 = .ok (.iload_n 1, 1) := by decide +kernel
theorem dX4_takeSign_30 : decode cX4_takeSign 30 = .ok (.iload_n 1, 1) := by decide +kernel
theorem dX4_takeSign_31 : decode cX4_takeSign 31 = .ok (.aload_n 0, 1) := by decide +kernel
theorem dX4_takeSign_32 : decode cX4_takeSign 32 = .ok (.getfield 45, 3) := by decide +kernel
theorem dX4_takeSign_35 : decode cX4_takeSign 35 = .ok (.iload_n 2, 1) := by decide +kernel
theorem dX4_takeSign_36 : decode cX4_takeSign 36 = .ok (.invokevirtual 142, 3) := by decide +kernel
theorem dX4_takeSign_39 : decode cX4_takeSign 39 = .ok (.iadd, 1) := by decide +kernel
theorem dX4_takeSign_40 : decode cX4_takeSign 40 = .ok (.invokevirtual 145, 3) := by decide +kernel
theorem dX4_takeSign_43 : decode cX4_takeSign 43 = .ok (.iconst 1, 1) := by decide +kernel
theorem dX4_takeSign_44 : decode cX4_takeSign 44 = .ok (.ireturn, 1) := by decide +kernel
set_option maxRecDepth 20000 in
theorem ggX4_isBlank_X9_isLineEnd : GoodIn wsX4_isBlank wsX9_isLineEnd := goodIn_r _ [3] rfl (by decide +kernel)
set_option maxRecDepth 20000 in
theorem gX4_isBlank_X9_isLineEnd_n108 : GoodIn wsX4_isBlank (wsX9_isLineEnd) := ggX4_isBlank_X9_isLineEnd
theorem dX4_isBlank_0 : decode cX4_isBlank 0 = .ok (.iload_n 0, 1) := by decide +kernel
theorem dX4_isBlank_1 : decode cX4_isBlank 1 = .ok (.bipush 32, 2) := by decide +kernel
theorem dX4_isBlank_3 : decode cX4_isBlank 3 = .ok (.if_icmp .eq 22, 3) := by decide +kernel
theorem dX4_isBlank_6 : decode cX4_isBlank 6 = .ok (.iload_n 0, 1) := by decide +kernel
theorem dX4_isBlank_7 : decode cX4_isBlank 7 = .ok (.bipush 9, 2) := by decide +kernel
theorem dX4_isBlank_9 : decode cX4_isBlank 9 = .ok (.if_icmp .eq 16, 3) := by decide +kernel
theorem dX4_isBlank_12 : decode cX4_isBlank 12 = .ok (.iload_n 0, 1) := by decide +kernel
theorem dX4_isBlank_13 : decode cX4_isBlank 13 = .ok (.bipush 12, 2) := by decide +kernel
theorem dX4_isBlank_15 : decode cX4_isBlank 15 = .ok (.if_icmp .eq 10, 3) := by decide +kernel
theorem dX4_isBlank_18 : decode cX4_isBlank 18 = .ok (.iload_n 0, 1) := by decide +kernel
theorem dX4_isBlank_19 : decode cX4_isBlank 19 = .ok (.invokestatic 108, 3) := by decide +kernel
theorem dX4_isBlank_22 : decode cX4_isBlank 22 = .ok (.ifCond .eq 7, 3) := by decide +kernel
theorem dX4_isBlank_25 : decode cX4_isBlank 25 = .ok (.iconst 1, 1) := by decide +kernel
theorem dX4_isBlank_26 : decode cX4_isBlank 26 = .ok (.goto 4, 3) := by decide +kernel
theorem dX4_isBlank_29 : decode cX4_isBlank 29 = .ok (.iconst 0, 1) := by decide +kernel
theorem dX4_isBlank_30 : decode cX4_isBlank 30 = .ok (.ireturn, 1) := by decide +kernel
set_option maxRecDepth 20000 in
theorem ggX4_isNamePart_X9_isDecimal : GoodIn wsX4_isNamePart wsX9_isDecimal := goodIn_r _ [3, 4, 5, 2, 6] rfl (by decide +kernel)
set_option maxRecDepth 20000 in
theorem gX4_isNamePart_X9_isDecimal_n114 : GoodIn wsX4_isNamePart (wsX9_isDecimal) := ggX4_isNamePart_X9_isDecimal
theorem dX4_isNamePart_0 : decode cX4_isNamePart 0 = .ok (.iload_n 0, 1) := by decide +kernel
theorem dX4_isNamePart_1 : decode cX4_isNamePart 1 = .ok (.bipush 97, 2) := by decide +kernel
theorem dX4_isNamePart_3 : decode cX4_isNamePart 3 = .ok (.if_icmp .lt 9, 3) := by decide +kernel
theorem dX4_isNamePart_6 : decode cX4_isNamePart 6 = .ok (.iload_n 0, 1) := by decide +kernel
theorem dX4_isNamePart_7 : decode cX4_isNamePart 7 = .ok (.bipush 122, 2) := by decide +kernel
theorem dX4_isNamePart_9 : decode cX4_isNamePart 9 = .ok (.if_icmp .le 34, 3) := by decide +kernel
theorem dX4_isNamePart_12 : decode cX4_isNamePart 12 = .ok (.iload_n 0, 1) := by decide +kernel
theorem dX4_isNamePart_13 : decode cX4_isNamePart 13 = .ok (.bipush 65, 2) := by decide +kernel
theorem dX4_isNamePart_15 : decode cX4_isNamePart 15 = .ok (.if_icmp .lt 9, 3) := by decide +kernel
theorem dX4_isNamePart_18 : decode cX4_isNamePart 18 = .ok (.iload_n 0, 1) := by decide +kernel
theorem dX4_isNamePart_19 : decode cX4_isNamePart 19 = .ok (.bipush 90, 2) := by decide +kernel
theorem dX4_isNamePart_21 : decode cX4_isNamePart 21 = .ok (.if_icmp .le 22, 3) := by decide +kernel
theorem dX4_isNamePart_24 : decode cX4_isNamePart 24 = .ok (.iload_n 0, 1) := by decide +kernel
theorem dX4_isNamePart_25 : decode cX4_isNamePart 25 = .ok (.bipush 95, 2) := by decide +kernel
theorem dX4_isNamePart_27 : decode cX4_isNamePart 27 = .ok (.if_icmp .eq 16, 3) := by decide +kernel
theorem dX4_isNamePart_30 : decode cX4_isNamePart 30 = .ok (.iload_n 0, 1) := by decide +kernel
theorem dX4_isNamePart_31 : decode cX4_isNamePart 31 = .ok (.bipush 36, 2) := by decide +kernel
theorem dX4_isNamePart_33 : decode cX4_isNamePart 33 = .ok (.if_icmp .eq 10, 3) := by decide +kernel
theorem dX4_isNamePart_36 : decode cX4_isNamePart 36 = .ok (.iload_n 0, 1) := by decide +kernel
theorem dX4_isNamePart_37 : decode cX4_isNamePart 37 = .ok (.invokestatic 114, 3) := by decide +kernel
theorem dX4_isNamePart_40 : decode cX4_isNamePart 40 = .ok (.ifCond .eq 7, 3) := by decide +kernel
theorem dX4_isNamePart_43 : decode cX4_isNamePart 43 = .ok (.iconst 1, 1) := by decide +kernel
theorem dX4_isNamePart_44 : decode cX4_isNamePart 44 = .ok (.goto 4, 3) := by decide +kernel
theorem dX4_isNamePart_47 : decode cX4_isNamePart 47 = .ok (.iconst 0, 1) := by decide +kernel
theorem dX4_isNamePart_48 : decode cX4_isNamePart 48 = .ok (.ireturn, 1) := by decide +kernel
set_option maxRecDepth 20000 in
theorem ggX5_init_X0_init : GoodIn wsX5_init wsX0_init := goodIn_r _ [10, 11, 2, 3, 12, 13, 17, 18] rfl (by decide +kernel)
set_option maxRecDepth 20000 in
theorem gX5_init_X0_init_n15 : GoodIn wsX5_init (wsX0_init) := ggX5_init_X0_init
theorem dX5_init_0 : decode cX5_init 0 = .ok (.aload_n 0, 1) := by decide +kernel
theorem dX5_init_1 : decode cX5_init 1 = .ok (.invokespecial 1, 3) := by decide +kernel
theorem dX5_init_4 : decode cX5_init 4 = .ok (.aload_n 0, 1) := by decide +kernel
theorem dX5_init_5 : decode cX5_init 5 = .ok (.aload_n 1, 1) := by decide +kernel
theorem dX5_init_6 : decode cX5_init 6 = .ok (.putfield 7, 3) := by decide +kernel
theorem dX5_init_9 : decode cX5_init 9 = .ok (.aload_n 0, 1) := by decide +kernel
theorem dX5_init_10 : decode cX5_init 10 = .ok (.new 13, 3) := by decide +kernel
theorem dX5_init_13 : decode cX5_init 13 = .ok (.dup, 1) := by decide +kernel
theorem dX5_init_14 : decode cX5_init 14 = .ok (.invokespecial 15, 3) := by decide +kernel
theorem dX5_init_17 : decode cX5_init 17 = .ok (.putfield 16, 3) := by decide +kernel
theorem dX5_init_20 : decode cX5_init 20 = .ok (.return_, 1) := by decide +kernel
theorem dX5_bits_0 : decode cX5_bits 0 = .ok (.aload_n 0, 1) := by decide +kernel
theorem dX5_bits_1 : decode cX5_bits 1 = .ok (.getfield 19, 3) := by decide +kernel
theorem dX5_bits_4 : decode cX5_bits 4 = .ok (.lreturn, 1) := by decide +kernel
set_option maxRecDepth 20000 in
theorem ggX5_scaleByFive_X0_set : GoodIn wsX5_scaleByFive wsX0_set := goodIn_r _ [7, 8, 9, 23, 24] rfl (by decide +kernel)
set_option maxRecDepth 20000 in
theorem gX5_scaleByFive_X0_set : GoodIn wsX5_scaleByFive (wsV RX5 23 RX0 yX0_set wsX0_set) := goodIn_app (goodIn_of _ (by decide +kernel)) ggX5_scaleByFive_X0_set
set_option maxRecDepth 20000 in
theorem ggX5_scaleByFive_X0_timesPowerOfFive : GoodIn wsX5_scaleByFive wsX0_timesPowerOfFive := goodIn_r _ [13, 14, 15, 16, 17, 6, 18, 9, 8, 19, 23, 24] rfl (by decide +kernel)
set_option maxRecDepth 20000 in
theorem gX5_scaleByFive_X0_timesPowerOfFive : GoodIn wsX5_scaleByFive (wsV RX5 27 RX0 yX0_timesPowerOfFive wsX0_timesPowerOfFive) := goodIn_app (goodIn_of _ (by decide +kernel)) ggX5_scaleByFive_X0_timesPowerOfFive
theorem dX5_scaleByFive_0 : decode cX5_scaleByFive 0 = .ok (.aload_n 0, 1) := by decide +kernel
theorem dX5_scaleByFive_1 : decode cX5_scaleByFive 1 = .ok (.getfield 16, 3) := by decide +kernel
theorem dX5_scaleByFive_4 : decode cX5_scaleByFive 4 = .ok (.iconst 1, 1) := by decide +kernel
theorem dX5_scaleByFive_5 : decode cX5_scaleByFive 5 = .ok (.invokevirtual 23, 3) := by decide +kernel
theorem dX5_scaleByFive_8 : decode cX5_scaleByFive 8 = .ok (.iload_n 1, 1) := by decide +kernel
theorem dX5_scaleByFive_9 : decode cX5_scaleByFive 9 = .ok (.ifCond .lt 14, 3) := by decide +kernel
theorem dX5_scaleByFive_12 : decode cX5_scaleByFive 12 = .ok (.aload_n 0, 1) := by decide +kernel
theorem dX5_scaleByFive_13 : decode cX5_scaleByFive 13 = .ok (.getfield 7, 3) := by decide +kernel
theorem dX5_scaleByFive_16 : decode cX5_scaleByFive 16 = .ok (.iload_n 1, 1) := by decide +kernel
theorem dX5_scaleByFive_17 : decode cX5_scaleByFive 17 = .ok (.invokevirtual 27, 3) := by decide +kernel
theorem dX5_scaleByFive_20 : decode cX5_scaleByFive 20 = .ok (.goto 12, 3) := by decide +kernel
theorem dX5_scaleByFive_23 : decode cX5_scaleByFive 23 = .ok (.aload_n 0, 1) := by decide +kernel
theorem dX5_scaleByFive_24 : decode cX5_scaleByFive 24 = .ok (.getfield 16, 3) := by decide +kernel
theorem dX5_scaleByFive_27 : decode cX5_scaleByFive 27 = .ok (.iload_n 1, 1) := by decide +kernel
theorem dX5_scaleByFive_28 : decode cX5_scaleByFive 28 = .ok (.ineg, 1) := by decide +kernel
theorem dX5_scaleByFive_29 : decode cX5_scaleByFive 29 = .ok (.invokevirtual 27, 3) := by decide +kernel
theorem dX5_scaleByFive_32 : decode cX5_scaleByFive 32 = .ok (.return_, 1) := by decide +kernel
set_option maxRecDepth 20000 in
theorem ggX5_round_X0_isZero : GoodIn wsX5_round wsX0_isZero := goodIn_r _ [11, 12, 65, 66] rfl (by decide +kernel)
set_option maxRecDepth 20000 in
theorem gX5_round_X0_isZero : GoodIn wsX5_round (wsV RX5 30 RX0 yX0_isZero wsX0_isZero) := goodIn_app (goodIn_of _ (by decide +kernel)) ggX5_round_X0_isZero
set_option maxRecDepth 20000 in
theorem ggX5_round_X5_align : GoodIn wsX5_round wsX5_align := goodIn_r _ [17, 18, 2, 3, 4, 5, 6, 19, 20, 21, 10, 22, 12, 23, 24, 25, 26, 27, 28, 29, 30, 31, 32, 33, 34, 35, 36, 37, 38, 39, 40, 41, 42, 43, 44, 45, 46, 47, 48, 62, 63, 64, 65, 66] rfl (by decide +kernel)
set_option maxRecDepth 20000 in
theorem gX5_round_X5_align : GoodIn wsX5_round (wsV RX5 34 RX5 yX5_align wsX5_align) := goodIn_app (goodIn_of _ (by decide +kernel)) ggX5_round_X5_align
set_option maxRecDepth 20000 in
theorem ggX5_round_X5_divide : GoodIn wsX5_round wsX5_divide := goodIn_r _ [52, 53, 2, 18, 45, 46, 47, 10, 48, 12, 23, 40, 54, 55, 56, 57, 41, 42, 43, 44, 58, 59, 60, 61, 62, 63, 64, 65, 66] rfl (by decide +kernel)
set_option maxRecDepth 20000 in
theorem gX5_round_X5_divide : GoodIn wsX5_round (wsV RX5 44 RX5 yX5_divide wsX5_divide) := goodIn_app (goodIn_of _ (by decide +kernel)) ggX5_round_X5_divide
theorem dX5_round_0 : decode cX5_round 0 = .ok (.aload_n 0, 1) := by decide +kernel
theorem dX5_round_1 : decode cX5_round 1 = .ok (.lconst 0, 1) := by decide +kernel
theorem dX5_round_2 : decode cX5_round 2 = .ok (.putfield 19, 3) := by decide +kernel
theorem dX5_round_5 : decode cX5_round 5 = .ok (.aload_n 0, 1) := by decide +kernel
theorem dX5_round_6 : decode cX5_round 6 = .ok (.getfield 7, 3) := by decide +kernel
theorem dX5_round_9 : decode cX5_round 9 = .ok (.invokevirtual 30, 3) := by decide +kernel
theorem dX5_round_12 : decode cX5_round 12 = .ok (.ifCond .eq 5, 3) := by decide +kernel
theorem dX5_round_15 : decode cX5_round 15 = .ok (.iconst 1, 1) := by decide +kernel
theorem dX5_round_16 : decode cX5_round 16 = .ok (.ireturn, 1) := by decide +kernel
theorem dX5_round_17 : decode cX5_round 17 = .ok (.iload_n 2, 1) := by decide +kernel
theorem dX5_round_18 : decode cX5_round 18 = .ok (.ifCond .eq 8, 3) := by decide +kernel
theorem dX5_round_21 : decode cX5_round 21 = .ok (.bipush 24, 2) := by decide +kernel
theorem dX5_round_23 : decode cX5_round 23 = .ok (.goto 5, 3) := by decide +kernel
theorem dX5_round_26 : decode cX5_round 26 = .ok (.bipush 53, 2) := by decide +kernel
theorem dX5_round_28 : decode cX5_round 28 = .ok (.istore_n 3, 1) := by decide +kernel
theorem dX5_round_29 : decode cX5_round 29 = .ok (.iload_n 2, 1) := by decide +kernel
theorem dX5_round_30 : decode cX5_round 30 = .ok (.ifCond .eq 8, 3) := by decide +kernel
theorem dX5_round_33 : decode cX5_round 33 = .ok (.bipush (-126), 2) := by decide +kernel
theorem dX5_round_35 : decode cX5_round 35 = .ok (.goto 6, 3) := by decide +kernel
theorem dX5_round_38 : decode cX5_round 38 = .ok (.sipush (-1022), 3) := by decide +kernel
theorem dX5_round_41 : decode cX5_round 41 = .ok (.istore 4, 2) := by decide +kernel
theorem dX5_round_43 : decode cX5_round 43 = .ok (.iconst 1, 1) := by decide +kernel
theorem dX5_round_44 : decode cX5_round 44 = .ok (.iload 4, 2) := by decide +kernel
theorem dX5_round_46 : decode cX5_round 46 = .ok (.isub, 1) := by decide +kernel
theorem dX5_round_47 : decode cX5_round 47 = .ok (.istore 5, 2) := by decide +kernel
theorem dX5_round_49 : decode cX5_round 49 = .ok (.iload_n 1, 1) := by decide +kernel
theorem dX5_round_50 : decode cX5_round 50 = .ok (.aload_n 0, 1) := by decide +kernel
theorem dX5_round_51 : decode cX5_round 51 = .ok (.invokevirtual 34, 3) := by decide +kernel
theorem dX5_round_54 : decode cX5_round 54 = .ok (.isub, 1) := by decide +kernel
theorem dX5_round_55 : decode cX5_round 55 = .ok (.istore 6, 2) := by decide +kernel
theorem dX5_round_57 : decode cX5_round 57 = .ok (.iload_n 3, 1) := by decide +kernel
theorem dX5_round_58 : decode cX5_round 58 = .ok (.iload 4, 2) := by decide +kernel
theorem dX5_round_60 : decode cX5_round 60 = .ok (.iload 6, 2) := by decide +kernel
theorem dX5_round_62 : decode cX5_round 62 = .ok (.isub, 1) := by decide +kernel
theorem dX5_round_63 : decode cX5_round 63 = .ok (.iconst 0, 1) := by decide +kernel
theorem dX5_round_64 : decode cX5_round 64 = .ok (.invokestatic 38, 3) := by decide +kernel
theorem dX5_round_67 : decode cX5_round 67 = .ok (.isub, 1) := by decide +kernel
theorem dX5_round_68 : decode cX5_round 68 = .ok (.istore 7, 2) := by decide +kernel
theorem dX5_round_70 : decode cX5_round 70 = .ok (.iload 6, 2) := by decide +kernel
theorem dX5_round_72 : decode cX5_round 72 = .ok (.iload 5, 2) := by decide +kernel
theorem dX5_round_74 : decode cX5_round 74 = .ok (.if_icmp .gt 8, 3) := by decide +kernel
theorem dX5_round_77 : decode cX5_round 77 = .ok (.iload 7, 2) := by decide +kernel
theorem dX5_round_79 : decode cX5_round 79 = .ok (.ifCond .ge 5, 3) := by decide +kernel
theorem dX5_round_82 : decode cX5_round 82 = .ok (.iconst 0, 1) := by decide +kernel
theorem dX5_round_83 : decode cX5_round 83 = .ok (.ireturn, 1) := by decide +kernel
theorem dX5_round_84 : decode cX5_round 84 = .ok (.aload_n 0, 1) := by decide +kernel
theorem dX5_round_85 : decode cX5_round 85 = .ok (.aload_n 0, 1) := by decide +kernel
theorem dX5_round_86 : decode cX5_round 86 = .ok (.iload 7, 2) := by decide +kernel
theorem dX5_round_88 : decode cX5_round 88 = .ok (.invokevirtual 44, 3) := by decide +kernel
theorem dX5_round_91 : decode cX5_round 91 = .ok (.iload 6, 2) := by decide +kernel
theorem dX5_round_93 : decode cX5_round 93 = .ok (.iload 4, 2) := by decide +kernel
theorem dX5_round_95 : decode cX5_round 95 = .ok (.isub, 1) := by decide +kernel
theorem dX5_round_96 : decode cX5_round 96 = .ok (.iconst 0, 1) := by decide +kernel
theorem dX5_round_97 : decode cX5_round 97 = .ok (.invokestatic 38, 3) := by decide +kernel
theorem dX5_round_100 : decode cX5_round 100 = .ok (.i2l, 1) := by decide +kernel
theorem dX5_round_101 : decode cX5_round 101 = .ok (.iload_n 3, 1) := by decide +kernel
theorem dX5_round_102 : decode cX5_round 102 = .ok (.iconst 1, 1) := by decide +kernel
theorem dX5_round_103 : decode cX5_round 103 = .ok (.isub, 1) := by decide +kernel
theorem dX5_round_104 : decode cX5_round 104 = .ok (.lshl, 1) := by decide +kernel
theorem dX5_round_105 : decode cX5_round 105 = .ok (.ladd, 1) := by decide +kernel
theorem dX5_round_106 : decode cX5_round 106 = .ok (.putfield 19, 3) := by decide +kernel
theorem dX5_round_109 : decode cX5_round 109 = .ok (.aload_n 0, 1) := by decide +kernel
theorem dX5_round_110 : decode cX5_round 110 = .ok (.getfield 19, 3) := by decide +kernel
theorem dX5_round_113 : decode cX5_round 113 = .ok (.lconst 0, 1) := by decide +kernel
theorem dX5_round_114 : decode cX5_round 114 = .ok (.lcmp, 1) := by decide +kernel
theorem dX5_round_115 : decode cX5_round 115 = .ok (.ifCond .eq 27, 3) := by decide +kernel
theorem dX5_round_118 : decode cX5_round 118 = .ok (.aload_n 0, 1) := by decide +kernel
theorem dX5_round_119 : decode cX5_round 119 = .ok (.getfield 19, 3) := by decide +kernel
theorem dX5_round_122 : decode cX5_round 122 = .ok (.iload_n 3, 1) := by decide +kernel
theorem dX5_round_123 : decode cX5_round 123 = .ok (.iconst 1, 1) := by decide +kernel
theorem dX5_round_124 : decode cX5_round 124 = .ok (.isub, 1) := by decide +kernel
theorem dX5_round_125 : decode cX5_round 125 = .ok (.lshr, 1) := by decide +kernel
theorem dX5_round_126 : decode cX5_round 126 = .ok (.iload 5, 2) := by decide +kernel
theorem dX5_round_128 : decode cX5_round 128 = .ok (.iload 4, 2) := by decide +kernel
theorem dX5_round_130 : decode cX5_round 130 = .ok (.isub, 1) := by decide +kernel
theorem dX5_round_131 : decode cX5_round 131 = .ok (.iconst 2, 1) := by decide +kernel
theorem dX5_round_132 : decode cX5_round 132 = .ok (.iadd, 1) := by decide +kernel
theorem dX5_round_133 : decode cX5_round 133 = .ok (.i2l, 1) := by decide +kernel
theorem dX5_round_134 : decode cX5_round 134 = .ok (.lcmp, 1) := by decide +kernel
theorem dX5_round_135 : decode cX5_round 135 = .ok (.ifCond .ge 7, 3) := by decide +kernel
theorem dX5_round_138 : decode cX5_round 138 = .ok (.iconst 1, 1) := by decide +kernel
theorem dX5_round_139 : decode cX5_round 139 = .ok (.goto 4, 3) := by decide +kernel
theorem dX5_round_142 : decode cX5_round 142 = .ok (.iconst 0, 1) := by decide +kernel
theorem dX5_round_143 : decode cX5_round 143 = .ok (.ireturn, 1) := by decide +kernel
set_option maxRecDepth 20000 in
theorem ggX5_align_X0_bitLength : GoodIn wsX5_align wsX0_bitLength := goodIn_r _ [11, 12, 13, 14, 15, 16, 17, 18, 42, 43] rfl (by decide +kernel)
set_option maxRecDepth 20000 in
theorem gX5_align_X0_bitLength : GoodIn wsX5_align (wsV RX5 48 RX0 yX0_bitLength wsX0_bitLength) := goodIn_app (goodIn_of _ (by decide +kernel)) ggX5_align_X0_bitLength
set_option maxRecDepth 20000 in
theorem ggX5_align_X0_shiftLeft : GoodIn wsX5_align wsX0_shiftLeft := goodIn_r _ [22, 12, 23, 24, 5, 25, 13, 26, 27, 28, 10, 29, 30, 31, 32, 33, 34, 42, 43] rfl (by decide +kernel)
set_option maxRecDepth 20000 in
theorem gX5_align_X0_shiftLeft : GoodIn wsX5_align (wsV RX5 51 RX0 yX0_shiftLeft wsX0_shiftLeft) := goodIn_app (goodIn_of _ (by decide +kernel)) ggX5_align_X0_shiftLeft
set_option maxRecDepth 20000 in
theorem ggX5_align_X0_compareWith : GoodIn wsX5_align wsX0_compareWith := goodIn_r _ [38, 12, 13, 30, 42, 43] rfl (by decide +kernel)
set_option maxRecDepth 20000 in
theorem gX5_align_X0_compareWith : GoodIn wsX5_align (wsV RX5 54 RX0 yX0_compareWith wsX0_compareWith) := goodIn_app (goodIn_of _ (by decide +kernel)) ggX5_align_X0_compareWith
theorem dX5_align_0 : decode cX5_align 0 = .ok (.aload_n 0, 1) := by decide +kernel
theorem dX5_align_1 : decode cX5_align 1 = .ok (.getfield 16, 3) := by decide +kernel
theorem dX5_align_4 : decode cX5_align 4 = .ok (.invokevirtual 48, 3) := by decide +kernel
theorem dX5_align_7 : decode cX5_align 7 = .ok (.aload_n 0, 1) := by decide +kernel
theorem dX5_align_8 : decode cX5_align 8 = .ok (.getfield 7, 3) := by decide +kernel
theorem dX5_align_11 : decode cX5_align 11 = .ok (.invokevirtual 48, 3) := by decide +kernel
theorem dX5_align_14 : decode cX5_align 14 = .ok (.isub, 1) := by decide +kernel
theorem dX5_align_15 : decode cX5_align 15 = .ok (.istore_n 1, 1) := by decide +kernel
theorem dX5_align_16 : decode cX5_align 16 = .ok (.aload_n 0, 1) := by decide +kernel
theorem dX5_align_17 : decode cX5_align 17 = .ok (.getfield 7, 3) := by decide +kernel
theorem dX5_align_20 : decode cX5_align 20 = .ok (.iload_n 1, 1) := by decide +kernel
theorem dX5_align_21 : decode cX5_align 21 = .ok (.iconst 0, 1) := by decide +kernel
theorem dX5_align_22 : decode cX5_align 22 = .ok (.invokestatic 38, 3) := by decide +kernel
theorem dX5_align_25 : decode cX5_align 25 = .ok (.invokevirtual 51, 3) := by decide +kernel
theorem dX5_align_28 : decode cX5_align 28 = .ok (.aload_n 0, 1) := by decide +kernel
theorem dX5_align_29 : decode cX5_align 29 = .ok (.getfield 16, 3) := by decide +kernel
theorem dX5_align_32 : decode cX5_align 32 = .ok (.iload_n 1, 1) := by decide +kernel
theorem dX5_align_33 : decode cX5_align 33 = .ok (.ineg, 1) := by decide +kernel
theorem dX5_align_34 : decode cX5_align 34 = .ok (.iconst 0, 1) := by decide +kernel
theorem dX5_align_35 : decode cX5_align 35 = .ok (.invokestatic 38, 3) := by decide +kernel
theorem dX5_align_38 : decode cX5_align 38 = .ok (.invokevirtual 51, 3) := by decide +kernel
theorem dX5_align_41 : decode cX5_align 41 = .ok (.aload_n 0, 1) := by decide +kernel
theorem dX5_align_42 : decode cX5_align 42 = .ok (.getfield 7, 3) := by decide +kernel
theorem dX5_align_45 : decode cX5_align 45 = .ok (.aload_n 0, 1) := by decide +kernel
theorem dX5_align_46 : decode cX5_align 46 = .ok (.getfield 16, 3) := by decide +kernel
theorem dX5_align_49 : decode cX5_align 49 = .ok (.invokevirtual 54, 3) := by decide +kernel
theorem dX5_align_52 : decode cX5_align 52 = .ok (.ifCond .ge 14, 3) := by decide +kernel
theorem dX5_align_55 : decode cX5_align 55 = .ok (.aload_n 0, 1) := by decide +kernel
theorem dX5_align_56 : decode cX5_align 56 = .ok (.getfield 7, 3) := by decide +kernel
theorem dX5_align_59 : decode cX5_align 59 = .ok (.iconst 1, 1) := by decide +kernel
theorem dX5_align_60 : decode cX5_align 60 = .ok (.invokevirtual 51, 3) := by decide +kernel
theorem dX5_align_63 : decode cX5_align 63 = .ok (.iinc 1 1, 3) := by decide +kernel
theorem dX5_align_66 : decode cX5_align 66 = .ok (.iload_n 1, 1) := by decide +kernel
theorem dX5_align_67 : decode cX5_align 67 = .ok (.ireturn, 1) := by decide +kernel
set_option maxRecDepth 20000 in
theorem ggX5_divide_X0_compareWith : GoodIn wsX5_divide wsX0_compareWith := goodIn_r _ [8, 9, 10, 11, 27, 28] rfl (by decide +kernel)
set_option maxRecDepth 20000 in
theorem gX5_divide_X0_compareWith : GoodIn wsX5_divide (wsV RX5 54 RX0 yX0_compareWith wsX0_compareWith) := goodIn_app (goodIn_of _ (by decide +kernel)) ggX5_divide_X0_compareWith
set_option maxRecDepth 20000 in
theorem ggX5_divide_X0_subtract : GoodIn wsX5_divide wsX0_subtract := goodIn_r _ [15, 9, 10, 11, 16, 17, 18, 7, 19, 27, 28] rfl (by decide +kernel)
set_option maxRecDepth 20000 in
theorem gX5_divide_X0_subtract : GoodIn wsX5_divide (wsV RX5 60 RX0 yX0_subtract wsX0_subtract) := goodIn_app (goodIn_of _ (by decide +kernel)) ggX5_divide_X0_subtract
set_option maxRecDepth 20000 in
theorem ggX5_divide_X0_timesPlus : GoodIn wsX5_divide wsX0_timesPlus := goodIn_r _ [23, 9, 10, 11, 27, 28] rfl (by decide +kernel)
set_option maxRecDepth 20000 in
theorem gX5_divide_X0_timesPlus : GoodIn wsX5_divide (wsV RX5 64 RX0 yX0_timesPlus wsX0_timesPlus) := goodIn_app (goodIn_of _ (by decide +kernel)) ggX5_divide_X0_timesPlus
theorem dX5_divide_0 : decode cX5_divide 0 = .ok (.lconst 0, 1) := by decide +kernel
theorem dX5_divide_1 : decode cX5_divide 1 = .ok (.lstore_n 2, 1) := by decide +kernel
theorem dX5_divide_2 : decode cX5_divide 2 = .ok (.iconst 0, 1) := by decide +kernel
theorem dX5_divide_3 : decode cX5_divide 3 = .ok (.istore 4, 2) := by decide +kernel
theorem dX5_divide_5 : decode cX5_divide 5 = .ok (.iload 4, 2) := by decide +kernel
theorem dX5_divide_7 : decode cX5_divide 7 = .ok (.iload_n 1, 1) := by decide +kernel
theorem dX5_divide_8 : decode cX5_divide 8 = .ok (.if_icmp .ge 53, 3) := by decide +kernel
theorem dX5_divide_11 : decode cX5_divide 11 = .ok (.lload_n 2, 1) := by decide +kernel
theorem dX5_divide_12 : decode cX5_divide 12 = .ok (.ldc2_w 58, 3) := by decide +kernel
theorem dX5_divide_15 : decode cX5_divide 15 = .ok (.lmul, 1) := by decide +kernel
theorem dX5_divide_16 : decode cX5_divide 16 = .ok (.lstore_n 2, 1) := by decide +kernel
theorem dX5_divide_17 : decode cX5_divide 17 = .ok (.aload_n 0, 1) := by decide +kernel
theorem dX5_divide_18 : decode cX5_divide 18 = .ok (.getfield 7, 3) := by decide +kernel
theorem dX5_divide_21 : decode cX5_divide 21 = .ok (.aload_n 0, 1) := by decide +kernel
theorem dX5_divide_22 : decode cX5_divide 22 = .ok (.getfield 16, 3) := by decide +kernel
theorem dX5_divide_25 : decode cX5_divide 25 = .ok (.invokevirtual 54, 3) := by decide +kernel
theorem dX5_divide_28 : decode cX5_divide 28 = .ok (.ifCond .lt 18, 3) := by decide +kernel
theorem dX5_divide_31 : decode cX5_divide 31 = .ok (.aload_n 0, 1) := by decide +kernel
theorem dX5_divide_32 : decode cX5_divide 32 = .ok (.getfield 7, 3) := by decide +kernel
theorem dX5_divide_35 : decode cX5_divide 35 = .ok (.aload_n 0, 1) := by decide +kernel
theorem dX5_divide_36 : decode cX5_divide 36 = .ok (.getfield 16, 3) := by decide +kernel
theorem dX5_divide_39 : decode cX5_divide 39 = .ok (.invokevirtual 60, 3) := by decide +kernel
theorem dX5_divide_42 : decode cX5_divide 42 = .ok (.lload_n 2, 1) := by decide +kernel
theorem dX5_divide_43 : decode cX5_divide 43 = .ok (.lconst 1, 1) := by decide +kernel
theorem dX5_divide_44 : decode cX5_divide 44 = .ok (.ladd, 1) := by decide +kernel
theorem dX5_divide_45 : decode cX5_divide 45 = .ok (.lstore_n 2, 1) := by decide +kernel
theorem dX5_divide_46 : decode cX5_divide 46 = .ok (.aload_n 0, 1) := by decide +kernel
theorem dX5_divide_47 : decode cX5_divide 47 = .ok (.getfield 7, 3) := by decide +kernel
theorem dX5_divide_50 : decode cX5_divide 50 = .ok (.iconst 2, 1) := by decide +kernel
theorem dX5_divide_51 : decode cX5_divide 51 = .ok (.iconst 0, 1) := by decide +kernel
theorem dX5_divide_52 : decode cX5_divide 52 = .ok (.invokevirtual 64, 3) := by decide +kernel
theorem dX5_divide_55 : decode cX5_divide 55 = .ok (.iinc 4 1, 3) := by decide +kernel
theorem dX5_divide_58 : decode cX5_divide 58 = .ok (.goto (-53), 3) := by decide +kernel
theorem dX5_divide_61 : decode cX5_divide 61 = .ok (.aload_n 0, 1) := by decide +kernel
theorem dX5_divide_62 : decode cX5_divide 62 = .ok (.getfield 7, 3) := by decide +kernel
theorem dX5_divide_65 : decode cX5_divide 65 = .ok (.aload_n 0, 1) := by decide +kernel
theorem dX5_divide_66 : decode cX5_divide 66 = .ok (.getfield 16, 3) := by decide +kernel
theorem dX5_divide_69 : decode cX5_divide 69 = .ok (.invokevirtual 54, 3) := by decide +kernel
theorem dX5_divide_72 : decode cX5_divide 72 = .ok (.istore 4, 2) := by decide +kernel
theorem dX5_divide_74 : decode cX5_divide 74 = .ok (.iload 4, 2) := by decide +kernel
theorem dX5_divide_76 : decode cX5_divide 76 = .ok (.ifCond .gt 18, 3) := by decide +kernel
theorem dX5_divide_79 : decode cX5_divide 79 = .ok (.iload 4, 2) := by decide +kernel
theorem dX5_divide_81 : decode cX5_divide 81 = .ok (.ifCond .ne 17, 3) := by decide +kernel
theorem dX5_divide_84 : decode cX5_divide 84 = .ok (.lload_n 2, 1) := by decide +kernel
theorem dX5_divide_85 : decode cX5_divide 85 = .ok (.ldc2_w 58, 3) := by decide +kernel
theorem dX5_divide_88 : decode cX5_divide 88 = .ok (.lrem, 1) := by decide +kernel
theorem dX5_divide_89 : decode cX5_divide 89 = .ok (.lconst 1, 1) := by decide +kernel
theorem dX5_divide_90 : decode cX5_divide 90 = .ok (.lcmp, 1) := by decide +kernel
theorem dX5_divide_91 : decode cX5_divide 91 = .ok (.ifCond .ne 7, 3) := by decide +kernel
theorem dX5_divide_94 : decode cX5_divide 94 = .ok (.iconst 1, 1) := by decide +kernel
theorem dX5_divide_95 : decode cX5_divide 95 = .ok (.goto 4, 3) := by decide +kernel
theorem dX5_divide_98 : decode cX5_divide 98 = .ok (.iconst 0, 1) := by decide +kernel
theorem dX5_divide_99 : decode cX5_divide 99 = .ok (.istore 5, 2) := by decide +kernel
theorem dX5_divide_101 : decode cX5_divide 101 = .ok (.iload 5, 2) := by decide +kernel
theorem dX5_divide_103 : decode cX5_divide 103 = .ok (.ifCond .eq 9, 3) := by decide +kernel
theorem dX5_divide_106 : decode cX5_divide 106 = .ok (.lload_n 2, 1) := by decide +kernel
theorem dX5_divide_107 : decode cX5_divide 107 = .ok (.lconst 1, 1) := by decide +kernel
theorem dX5_divide_108 : decode cX5_divide 108 = .ok (.ladd, 1) := by decide +kernel
theorem dX5_divide_109 : decode cX5_divide 109 = .ok (.goto 4, 3) := by decide +kernel
theorem dX5_divide_112 : decode cX5_divide 112 = .ok (.lload_n 2, 1) := by decide +kernel
theorem dX5_divide_113 : decode cX5_divide 113 = .ok (.lreturn, 1) := by decide +kernel
theorem dX6_init_0 : decode cX6_init 0 = .ok (.aload_n 0, 1) := by decide +kernel
theorem dX6_init_1 : decode cX6_init 1 = .ok (.invokespecial 3, 3) := by decide +kernel
theorem dX6_init_4 : decode cX6_init 4 = .ok (.aload_n 0, 1) := by decide +kernel
theorem dX6_init_5 : decode cX6_init 5 = .ok (.ldc 9, 2) := by decide +kernel
theorem dX6_init_7 : decode cX6_init 7 = .ok (.newarray .char, 2) := by decide +kernel
theorem dX6_init_9 : decode cX6_init 9 = .ok (.putfield 10, 3) := by decide +kernel
theorem dX6_init_12 : decode cX6_init 12 = .ok (.return_, 1) := by decide +kernel
theorem dX6_count_0 : decode cX6_count 0 = .ok (.aload_n 0, 1) := by decide +kernel
theorem dX6_count_1 : decode cX6_count 1 = .ok (.getfield 16, 3) := by decide +kernel
theorem dX6_count_4 : decode cX6_count 4 = .ok (.ireturn, 1) := by decide +kernel
theorem dX6_isCutShort_0 : decode cX6_isCutShort 0 = .ok (.aload_n 0, 1) := by decide +kernel
theorem dX6_isCutShort_1 : decode cX6_isCutShort 1 = .ok (.getfield 20, 3) := by decide +kernel
theorem dX6_isCutShort_4 : decode cX6_isCutShort 4 = .ok (.ireturn, 1) := by decide +kernel
theorem dX6_look_0 : decode cX6_look 0 = .ok (.iload_n 1, 1) := by decide +kernel
theorem dX6_look_1 : decode cX6_look 1 = .ok (.ifCond .lt 20, 3) := by decide +kernel
theorem dX6_look_4 : decode cX6_look 4 = .ok (.iload_n 1, 1) := by decide +kernel
theorem dX6_look_5 : decode cX6_look 5 = .ok (.aload_n 0, 1) := by decide +kernel
theorem dX6_look_6 : decode cX6_look 6 = .ok (.getfield 16, 3) := by decide +kernel
theorem dX6_look_9 : decode cX6_look 9 = .ok (.if_icmp .ge 12, 3) := by decide +kernel
theorem dX6_look_12 : decode cX6_look 12 = .ok (.aload_n 0, 1) := by decide +kernel
theorem dX6_look_13 : decode cX6_look 13 = .ok (.getfield 10, 3) := by decide +kernel
theorem dX6_look_16 : decode cX6_look 16 = .ok (.iload_n 1, 1) := by decide +kernel
theorem dX6_look_17 : decode cX6_look 17 = .ok (.caload, 1) := by decide +kernel
theorem dX6_look_18 : decode cX6_look 18 = .ok (.goto 4, 3) := by decide +kernel
theorem dX6_look_21 : decode cX6_look 21 = .ok (.iconst (-1), 1) := by decide +kernel
theorem dX6_look_22 : decode cX6_look 22 = .ok (.ireturn, 1) := by decide +kernel
theorem dX6_put_0 : decode cX6_put 0 = .ok (.iload_n 1, 1) := by decide +kernel
theorem dX6_put_1 : decode cX6_put 1 = .ok (.ifCond .lt 19, 3) := by decide +kernel
theorem dX6_put_4 : decode cX6_put 4 = .ok (.iload_n 1, 1) := by decide +kernel
theorem dX6_put_5 : decode cX6_put 5 = .ok (.aload_n 0, 1) := by decide +kernel
theorem dX6_put_6 : decode cX6_put 6 = .ok (.getfield 16, 3) := by decide +kernel
theorem dX6_put_9 : decode cX6_put 9 = .ok (.if_icmp .ge 11, 3) := by decide +kernel
theorem dX6_put_12 : decode cX6_put 12 = .ok (.aload_n 0, 1) := by decide +kernel
theorem dX6_put_13 : decode cX6_put 13 = .ok (.getfield 10, 3) := by decide +kernel
theorem dX6_put_16 : decode cX6_put 16 = .ok (.iload_n 1, 1) := by decide +kernel
theorem dX6_put_17 : decode cX6_put 17 = .ok (.iload_n 2, 1) := by decide +kernel
theorem dX6_put_18 : decode cX6_put 18 = .ok (.i2c, 1) := by decide +kernel
theorem dX6_put_19 : decode cX6_put 19 = .ok (.castore, 1) := by decide +kernel
theorem dX6_put_20 : decode cX6_put 20 = .ok (.return_, 1) := by decide +kernel
set_option maxRecDepth 20000 in
theorem ggX6_fill_X6_addEscape : GoodIn wsX6_fill wsX6_addEscape := goodIn_r _ [7, 2, 8, 9, 10, 11, 12, 13, 6, 14, 1, 15, 16, 17, 18] rfl (by decide +kernel)
set_option maxRecDepth 20000 in
theorem gX6_fill_X6_addEscape : GoodIn wsX6_fill (wsV RX6 24 RX6 yX6_addEscape wsX6_addEscape) := goodIn_app (goodIn_of _ (by decide +kernel)) ggX6_fill_X6_addEscape
set_option maxRecDepth 20000 in
theorem ggX6_fill_X6_add : GoodIn wsX6_fill wsX6_add := goodIn_r _ [14, 1, 15, 16, 17, 18] rfl (by decide +kernel)
set_option maxRecDepth 20000 in
theorem gX6_fill_X6_add : GoodIn wsX6_fill (wsV RX6 28 RX6 yX6_add wsX6_add) := goodIn_app (goodIn_of _ (by decide +kernel)) ggX6_fill_X6_add
theorem dX6_fill_0 : decode cX6_fill 0 = .ok (.aload_n 0, 1) := by decide +kernel
theorem dX6_fill_1 : decode cX6_fill 1 = .ok (.iconst 0, 1) := by decide +kernel
theorem dX6_fill_2 : decode cX6_fill 2 = .ok (.putfield 16, 3) := by decide +kernel
theorem dX6_fill_5 : decode cX6_fill 5 = .ok (.aload_n 0, 1) := by decide +kernel
theorem dX6_fill_6 : decode cX6_fill 6 = .ok (.iconst 0, 1) := by decide +kernel
theorem dX6_fill_7 : decode cX6_fill 7 = .ok (.putfield 20, 3) := by decide +kernel
theorem dX6_fill_10 : decode cX6_fill 10 = .ok (.iconst 0, 1) := by decide +kernel
theorem dX6_fill_11 : decode cX6_fill 11 = .ok (.istore_n 3, 1) := by decide +kernel
theorem dX6_fill_12 : decode cX6_fill 12 = .ok (.iconst 0, 1) := by decide +kernel
theorem dX6_fill_13 : decode cX6_fill 13 = .ok (.istore 4, 2) := by decide +kernel
theorem dX6_fill_15 : decode cX6_fill 15 = .ok (.iload 4, 2) := by decide +kernel
theorem dX6_fill_17 : decode cX6_fill 17 = .ok (.iload_n 2, 1) := by decide +kernel
theorem dX6_fill_18 : decode cX6_fill 18 = .ok (.if_icmp .ge 92, 3) := by decide +kernel
theorem dX6_fill_21 : decode cX6_fill 21 = .ok (.aload_n 0, 1) := by decide +kernel
theorem dX6_fill_22 : decode cX6_fill 22 = .ok (.getfield 20, 3) := by decide +kernel
theorem dX6_fill_25 : decode cX6_fill 25 = .ok (.ifCond .ne 85, 3) := by decide +kernel
theorem dX6_fill_28 : decode cX6_fill 28 = .ok (.aload_n 1, 1) := by decide +kernel
theorem dX6_fill_29 : decode cX6_fill 29 = .ok (.iload 4, 2) := by decide +kernel
theorem dX6_fill_31 : decode cX6_fill 31 = .ok (.baload, 1) := by decide +kernel
theorem dX6_fill_32 : decode cX6_fill 32 = .ok (.bipush 92, 2) := by decide +kernel
theorem dX6_fill_34 : decode cX6_fill 34 = .ok (.if_icmp .ne 45, 3) := by decide +kernel
theorem dX6_fill_37 : decode cX6_fill 37 = .ok (.iload_n 3, 1) := by decide +kernel
theorem dX6_fill_38 : decode cX6_fill 38 = .ok (.iconst 2, 1) := by decide +kernel
theorem dX6_fill_39 : decode cX6_fill 39 = .ok (.irem, 1) := by decide +kernel
theorem dX6_fill_40 : decode cX6_fill 40 = .ok (.ifCond .ne 39, 3) := by decide +kernel
theorem dX6_fill_43 : decode cX6_fill 43 = .ok (.iload 4, 2) := by decide +kernel
theorem dX6_fill_45 : decode cX6_fill 45 = .ok (.iconst 1, 1) := by decide +kernel
theorem dX6_fill_46 : decode cX6_fill 46 = .ok (.iadd, 1) := by decide +kernel
theorem dX6_fill_47 : decode cX6_fill 47 = .ok (.iload_n 2, 1) := by decide +kernel
theorem dX6_fill_48 : decode cX6_fill 48 = .ok (.if_icmp .ge 31, 3) := by decide +kernel
theorem dX6_fill_51 : decode cX6_fill 51 = .ok (.aload_n 1, 1) := by decide +kernel
theorem dX6_fill_52 : decode cX6_fill 52 = .ok (.iload 4, 2) := by decide +kernel
theorem dX6_fill_54 : decode cX6_fill 54 = .ok (.iconst 1, 1) := by decide +kernel
theorem dX6_fill_55 : decode cX6_fill 55 = .ok (.iadd, 1) := by decide +kernel
theorem dX6_fill_56 : decode cX6_fill 56 = .ok (.baload, 1) := by decide +kernel
theorem dX6_fill_57 : decode cX6_fill 57 = .ok (.bipush 117, 2) := by decide +kernel
theorem dX6_fill_59 : decode cX6_fill 59 = .ok (.if_icmp .ne 20, 3) := by decide +kernel
theorem dX6_fill_62 : decode cX6_fill 62 = .ok (.aload_n 0, 1) := by decide +kernel
theorem dX6_fill_63 : decode cX6_fill 63 = .ok (.aload_n 1, 1) := by decide +kernel
theorem dX6_fill_64 : decode cX6_fill 64 = .ok (.iload_n 2, 1) := by decide +kernel
theorem dX6_fill_65 : decode cX6_fill 65 = .ok (.iload 4, 2) := by decide +kernel
theorem dX6_fill_67 : decode cX6_fill 67 = .ok (.iconst 1, 1) := by decide +kernel
theorem dX6_fill_68 : decode cX6_fill 68 = .ok (.iadd, 1) := by decide +kernel
theorem dX6_fill_69 : decode cX6_fill 69 = .ok (.invokevirtual 24, 3) := by decide +kernel
theorem dX6_fill_72 : decode cX6_fill 72 = .ok (.istore 4, 2) := by decide +kernel
theorem dX6_fill_74 : decode cX6_fill 74 = .ok (.iconst 0, 1) := by decide +kernel
theorem dX6_fill_75 : decode cX6_fill 75 = .ok (.istore_n 3, 1) := by decide +kernel
theorem dX6_fill_76 : decode cX6_fill 76 = .ok (.goto (-61), 3) := by decide +kernel
theorem dX6_fill_79 : decode cX6_fill 79 = .ok (.aload_n 1, 1) := by decide +kernel
theorem dX6_fill_80 : decode cX6_fill 80 = .ok (.iload 4, 2) := by decide +kernel
theorem dX6_fill_82 : decode cX6_fill 82 = .ok (.baload, 1) := by decide +kernel
theorem dX6_fill_83 : decode cX6_fill 83 = .ok (.bipush 92, 2) := by decide +kernel
theorem dX6_fill_85 : decode cX6_fill 85 = .ok (.if_icmp .ne 9, 3) := by decide +kernel
theorem dX6_fill_88 : decode cX6_fill 88 = .ok (.iload_n 3, 1) := by decide +kernel
theorem dX6_fill_89 : decode cX6_fill 89 = .ok (.iconst 1, 1) := by decide +kernel
theorem dX6_fill_90 : decode cX6_fill 90 = .ok (.iadd, 1) := by decide +kernel
theorem dX6_fill_91 : decode cX6_fill 91 = .ok (.goto 4, 3) := by decide +kernel
theorem dX6_fill_94 : decode cX6_fill 94 = .ok (.iconst 0, 1) := by decide +kernel
theorem dX6_fill_95 : decode cX6_fill 95 = .ok (.istore_n 3, 1) := by decide +kernel
theorem dX6_fill_96 : decode cX6_fill 96 = .ok (.aload_n 0, 1) := by decide +kernel
theorem dX6_fill_97 : decode cX6_fill 97 = .ok (.aload_n 1, 1) := by decide +kernel
theorem dX6_fill_98 : decode cX6_fill 98 = .ok (.iload 4, 2) := by decide +kernel
theorem dX6_fill_100 : decode cX6_fill 100 = .ok (.baload, 1) := by decide +kernel
theorem dX6_fill_101 : decode cX6_fill 101 = .ok (.invokevirtual 28, 3) := by decide +kernel
theorem dX6_fill_104 : decode cX6_fill 104 = .ok (.iinc 4 1, 3) := by decide +kernel
theorem dX6_fill_107 : decode cX6_fill 107 = .ok (.goto (-92), 3) := by decide +kernel
theorem dX6_fill_110 : decode cX6_fill 110 = .ok (.return_, 1) := by decide +kernel
set_option maxRecDepth 20000 in
theorem ggX6_addEscape_X9_digitOf : GoodIn wsX6_addEscape wsX9_digitOf := goodIn_r _ [4] rfl (by decide +kernel)
set_option maxRecDepth 20000 in
theorem gX6_addEscape_X9_digitOf_n32 : GoodIn wsX6_addEscape (wsX9_digitOf) := ggX6_addEscape_X9_digitOf
set_option maxRecDepth 20000 in
theorem ggX6_addEscape_X6_add : GoodIn wsX6_addEscape wsX6_add := goodIn_r _ [9, 10, 11, 12, 13, 14] rfl (by decide +kernel)
set_option maxRecDepth 20000 in
theorem gX6_addEscape_X6_add : GoodIn wsX6_addEscape (wsV RX6 28 RX6 yX6_add wsX6_add) := goodIn_app (goodIn_of _ (by decide +kernel)) ggX6_addEscape_X6_add
theorem dX6_addEscape_0 : decode cX6_addEscape 0 = .ok (.iload_n 3, 1) := by decide +kernel
theorem dX6_addEscape_1 : decode cX6_addEscape 1 = .ok (.istore 4, 2) := by decide +kernel
theorem dX6_addEscape_3 : decode cX6_addEscape 3 = .ok (.iload 4, 2) := by decide +kernel
theorem dX6_addEscape_5 : decode cX6_addEscape 5 = .ok (.iload_n 2, 1) := by decide +kernel
theorem dX6_addEscape_6 : decode cX6_addEscape 6 = .ok (.if_icmp .ge 18, 3) := by decide +kernel
theorem dX6_addEscape_9 : decode cX6_addEscape 9 = .ok (.aload_n 1, 1) := by decide +kernel
theorem dX6_addEscape_10 : decode cX6_addEscape 10 = .ok (.iload 4, 2) := by decide +kernel
theorem dX6_addEscape_12 : decode cX6_addEscape 12 = .ok (.baload, 1) := by decide +kernel
theorem dX6_addEscape_13 : decode cX6_addEscape 13 = .ok (.bipush 117, 2) := by decide +kernel
theorem dX6_addEscape_15 : decode cX6_addEscape 15 = .ok (.if_icmp .ne 9, 3) := by decide +kernel
theorem dX6_addEscape_18 : decode cX6_addEscape 18 = .ok (.iinc 4 1, 3) := by decide +kernel
theorem dX6_addEscape_21 : decode cX6_addEscape 21 = .ok (.goto (-18), 3) := by decide +kernel
theorem dX6_addEscape_24 : decode cX6_addEscape 24 = .ok (.iload 4, 2) := by decide +kernel
theorem dX6_addEscape_26 : decode cX6_addEscape 26 = .ok (.iconst 4, 1) := by decide +kernel
theorem dX6_addEscape_27 : decode cX6_addEscape 27 = .ok (.iadd, 1) := by decide +kernel
theorem dX6_addEscape_28 : decode cX6_addEscape 28 = .ok (.istore 5, 2) := by decide +kernel
theorem dX6_addEscape_30 : decode cX6_addEscape 30 = .ok (.iconst 0, 1) := by decide +kernel
theorem dX6_addEscape_31 : decode cX6_addEscape 31 = .ok (.istore 6, 2) := by decide +kernel
theorem dX6_addEscape_33 : decode cX6_addEscape 33 = .ok (.iload 4, 2) := by decide +kernel
theorem dX6_addEscape_35 : decode cX6_addEscape 35 = .ok (.iload 5, 2) := by decide +kernel
theorem dX6_addEscape_37 : decode cX6_addEscape 37 = .ok (.if_icmp .ge 53, 3) := by decide +kernel
theorem dX6_addEscape_40 : decode cX6_addEscape 40 = .ok (.iload 4, 2) := by decide +kernel
theorem dX6_addEscape_42 : decode cX6_addEscape 42 = .ok (.iload_n 2, 1) := by decide +kernel
theorem dX6_addEscape_43 : decode cX6_addEscape 43 = .ok (.if_icmp .ge 13, 3) := by decide +kernel
theorem dX6_addEscape_46 : decode cX6_addEscape 46 = .ok (.aload_n 1, 1) := by decide +kernel
theorem dX6_addEscape_47 : decode cX6_addEscape 47 = .ok (.iload 4, 2) := by decide +kernel
theorem dX6_addEscape_49 : decode cX6_addEscape 49 = .ok (.baload, 1) := by decide +kernel
theorem dX6_addEscape_50 : decode cX6_addEscape 50 = .ok (.invokestatic 32, 3) := by decide +kernel
theorem dX6_addEscape_53 : decode cX6_addEscape 53 = .ok (.goto 5, 3) := by decide +kernel
theorem dX6_addEscape_56 : decode cX6_addEscape 56 = .ok (.bipush 16, 2) := by decide +kernel
theorem dX6_addEscape_58 : decode cX6_addEscape 58 = .ok (.istore 7, 2) := by decide +kernel
theorem dX6_addEscape_60 : decode cX6_addEscape 60 = .ok (.iload 7, 2) := by decide +kernel
theorem dX6_addEscape_62 : decode cX6_addEscape 62 = .ok (.bipush 16, 2) := by decide +kernel
theorem dX6_addEscape_64 : decode cX6_addEscape 64 = .ok (.if_icmp .ne 10, 3) := by decide +kernel
theorem dX6_addEscape_67 : decode cX6_addEscape 67 = .ok (.aload_n 0, 1) := by decide +kernel
theorem dX6_addEscape_68 : decode cX6_addEscape 68 = .ok (.iconst 1, 1) := by decide +kernel
theorem dX6_addEscape_69 : decode cX6_addEscape 69 = .ok (.putfield 20, 3) := by decide +kernel
theorem dX6_addEscape_72 : decode cX6_addEscape 72 = .ok (.iload_n 2, 1) := by decide +kernel
theorem dX6_addEscape_73 : decode cX6_addEscape 73 = .ok (.ireturn, 1) := by decide +kernel
theorem dX6_addEscape_74 : decode cX6_addEscape 74 = .ok (.iload 6, 2) := by decide +kernel
theorem dX6_addEscape_76 : decode cX6_addEscape 76 = .ok (.bipush 16, 2) := by decide +kernel
theorem dX6_addEscape_78 : decode cX6_addEscape 78 = .ok (.imul, 1) := by decide +kernel
theorem dX6_addEscape_79 : decode cX6_addEscape 79 = .ok (.iload 7, 2) := by decide +kernel
theorem dX6_addEscape_81 : decode cX6_addEscape 81 = .ok (.iadd, 1) := by decide +kernel
theorem dX6_addEscape_82 : decode cX6_addEscape 82 = .ok (.istore 6, 2) := by decide +kernel
theorem dX6_addEscape_84 : decode cX6_addEscape 84 = .ok (.iinc 4 1, 3) := by decide +kernel
theorem dX6_addEscape_87 : decode cX6_addEscape 87 = .ok (.goto (-54), 3) := by decide +kernel
theorem dX6_addEscape_90 : decode cX6_addEscape 90 = .ok (.aload_n 0, 1) := by decide +kernel
theorem dX6_addEscape_91 : decode cX6_addEscape 91 = .ok (.iload 6, 2) := by decide +kernel
theorem dX6_addEscape_93 : decode cX6_addEscape 93 = .ok (.invokevirtual 28, 3) := by decide +kernel
theorem dX6_addEscape_96 : decode cX6_addEscape 96 = .ok (.iload 5, 2) := by decide +kernel
theorem dX6_addEscape_98 : decode cX6_addEscape 98 = .ok (.ireturn, 1) := by decide +kernel
theorem dX6_add_0 : decode cX6_add 0 = .ok (.aload_n 0, 1) := by decide +kernel
theorem dX6_add_1 : decode cX6_add 1 = .ok (.getfield 16, 3) := by decide +kernel
theorem dX6_add_4 : decode cX6_add 4 = .ok (.aload_n 0, 1) := by decide +kernel
theorem dX6_add_5 : decode cX6_add 5 = .ok (.getfield 10, 3) := by decide +kernel
theorem dX6_add_8 : decode cX6_add 8 = .ok (.arraylength, 1) := by decide +kernel
theorem dX6_add_9 : decode cX6_add 9 = .ok (.if_icmp .ge 24, 3) := by decide +kernel
theorem dX6_add_12 : decode cX6_add 12 = .ok (.aload_n 0, 1) := by decide +kernel
theorem dX6_add_13 : decode cX6_add 13 = .ok (.getfield 10, 3) := by decide +kernel
theorem dX6_add_16 : decode cX6_add 16 = .ok (.aload_n 0, 1) := by decide +kernel
theorem dX6_add_17 : decode cX6_add 17 = .ok (.getfield 16, 3) := by decide +kernel
theorem dX6_add_20 : decode cX6_add 20 = .ok (.iload_n 1, 1) := by decide +kernel
theorem dX6_add_21 : decode cX6_add 21 = .ok (.i2c, 1) := by decide +kernel
theorem dX6_add_22 : decode cX6_add 22 = .ok (.castore, 1) := by decide +kernel
theorem dX6_add_23 : decode cX6_add 23 = .ok (.aload_n 0, 1) := by decide +kernel
theorem dX6_add_24 : decode cX6_add 24 = .ok (.dup, 1) := by decide +kernel
theorem dX6_add_25 : decode cX6_add 25 = .ok (.getfield 16, 3) := by decide +kernel
theorem dX6_add_28 : decode cX6_add 28 = .ok (.iconst 1, 1) := by decide +kernel
theorem dX6_add_29 : decode cX6_add 29 = .ok (.iadd, 1) := by decide +kernel
theorem dX6_add_30 : decode cX6_add 30 = .ok (.putfield 16, 3) := by decide +kernel
theorem dX6_add_33 : decode cX6_add 33 = .ok (.return_, 1) := by decide +kernel
theorem dX7_init_0 : decode cX7_init 0 = .ok (.aload_n 0, 1) := by decide +kernel
theorem dX7_init_1 : decode cX7_init 1 = .ok (.invokespecial 3, 3) := by decide +kernel
theorem dX7_init_4 : decode cX7_init 4 = .ok (.aload_n 0, 1) := by decide +kernel
theorem dX7_init_5 : decode cX7_init 5 = .ok (.sipush 512, 3) := by decide +kernel
theorem dX7_init_8 : decode cX7_init 8 = .ok (.newarray .char, 2) := by decide +kernel
theorem dX7_init_10 : decode cX7_init 10 = .ok (.putfield 9, 3) := by decide +kernel
theorem dX7_init_13 : decode cX7_init 13 = .ok (.aload_n 0, 1) := by decide +kernel
theorem dX7_init_14 : decode cX7_init 14 = .ok (.bipush 65, 2) := by decide +kernel
theorem dX7_init_16 : decode cX7_init 16 = .ok (.newarray .int, 2) := by decide +kernel
theorem dX7_init_18 : decode cX7_init 18 = .ok (.putfield 15, 3) := by decide +kernel
theorem dX7_init_21 : decode cX7_init 21 = .ok (.return_, 1) := by decide +kernel
set_option maxRecDepth 20000 in
theorem ggX7_addAll_J0_length_8abf5 : GoodIn wsX7_addAll wsJ0_length_8abf5 := goodIn_r _ [8, 9, 10, 11, 12, 7, 13, 14, 15] rfl (by decide +kernel)
set_option maxRecDepth 20000 in
theorem gX7_addAll_J0_length_8abf5 : GoodIn wsX7_addAll (wsV RX7 23 RJ0 yJ0_length_8abf5 wsJ0_length_8abf5) := goodIn_app (goodIn_of _ (by decide +kernel)) ggX7_addAll_J0_length_8abf5
set_option maxRecDepth 20000 in
theorem ggX7_addAll_J0_charAt_5068e : GoodIn wsX7_addAll wsJ0_charAt_5068e := goodIn_r _ [19, 9, 20, 21, 22, 7, 23, 14, 15, 24, 25, 26, 27, 28, 29, 30, 31, 32, 33, 34, 35, 36, 37, 38, 39, 40, 41, 42, 43, 44, 45, 46, 47, 48, 49, 50, 51, 52] rfl (by decide +kernel)
set_option maxRecDepth 20000 in
theorem gX7_addAll_J0_charAt_5068e : GoodIn wsX7_addAll (wsV RX7 29 RJ0 yJ0_charAt_5068e wsJ0_charAt_5068e) := goodIn_app (goodIn_of _ (by decide +kernel)) ggX7_addAll_J0_charAt_5068e
set_option maxRecDepth 20000 in
theorem ggX7_addAll_X7_close : GoodIn wsX7_addAll wsX7_close := goodIn_r _ [57, 2, 1, 58, 59, 60] rfl (by decide +kernel)
set_option maxRecDepth 20000 in
theorem gX7_addAll_X7_close : GoodIn wsX7_addAll (wsV RX7 33 RX7 yX7_close wsX7_close) := goodIn_app (goodIn_of _ (by decide +kernel)) ggX7_addAll_X7_close
theorem dX7_addAll_0 : decode cX7_addAll 0 = .ok (.aload_n 0, 1) := by decide +kernel
theorem dX7_addAll_1 : decode cX7_addAll 1 = .ok (.getfield 15, 3) := by decide +kernel
theorem dX7_addAll_4 : decode cX7_addAll 4 = .ok (.aload_n 0, 1) := by decide +kernel
theorem dX7_addAll_5 : decode cX7_addAll 5 = .ok (.getfield 19, 3) := by decide +kernel
theorem dX7_addAll_8 : decode cX7_addAll 8 = .ok (.iaload, 1) := by decide +kernel
theorem dX7_addAll_9 : decode cX7_addAll 9 = .ok (.istore_n 2, 1) := by decide +kernel
theorem dX7_addAll_10 : decode cX7_addAll 10 = .ok (.iconst 0, 1) := by decide +kernel
theorem dX7_addAll_11 : decode cX7_addAll 11 = .ok (.istore_n 3, 1) := by decide +kernel
theorem dX7_addAll_12 : decode cX7_addAll 12 = .ok (.iload_n 3, 1) := by decide +kernel
theorem dX7_addAll_13 : decode cX7_addAll 13 = .ok (.aload_n 1, 1) := by decide +kernel
theorem dX7_addAll_14 : decode cX7_addAll 14 = .ok (.invokevirtual 23, 3) := by decide +kernel
theorem dX7_addAll_17 : decode cX7_addAll 17 = .ok (.if_icmp .ge 50, 3) := by decide +kernel
theorem dX7_addAll_20 : decode cX7_addAll 20 = .ok (.aload_n 1, 1) := by decide +kernel
theorem dX7_addAll_21 : decode cX7_addAll 21 = .ok (.iload_n 3, 1) := by decide +kernel
theorem dX7_addAll_22 : decode cX7_addAll 22 = .ok (.invokevirtual 29, 3) := by decide +kernel
theorem dX7_addAll_25 : decode cX7_addAll 25 = .ok (.bipush 32, 2) := by decide +kernel
theorem dX7_addAll_27 : decode cX7_addAll 27 = .ok (.if_icmp .ne 11, 3) := by decide +kernel
theorem dX7_addAll_30 : decode cX7_addAll 30 = .ok (.aload_n 0, 1) := by decide +kernel
theorem dX7_addAll_31 : decode cX7_addAll 31 = .ok (.iload_n 2, 1) := by decide +kernel
theorem dX7_addAll_32 : decode cX7_addAll 32 = .ok (.invokevirtual 33, 3) := by decide +kernel
theorem dX7_addAll_35 : decode cX7_addAll 35 = .ok (.goto 26, 3) := by decide +kernel
theorem dX7_addAll_38 : decode cX7_addAll 38 = .ok (.iload_n 2, 1) := by decide +kernel
theorem dX7_addAll_39 : decode cX7_addAll 39 = .ok (.aload_n 0, 1) := by decide +kernel
theorem dX7_addAll_40 : decode cX7_addAll 40 = .ok (.getfield 9, 3) := by decide +kernel
theorem dX7_addAll_43 : decode cX7_addAll 43 = .ok (.arraylength, 1) := by decide +kernel
theorem dX7_addAll_44 : decode cX7_addAll 44 = .ok (.if_icmp .ge 17, 3) := by decide +kernel
theorem dX7_addAll_47 : decode cX7_addAll 47 = .ok (.aload_n 0, 1) := by decide +kernel
theorem dX7_addAll_48 : decode cX7_addAll 48 = .ok (.getfield 9, 3) := by decide +kernel
theorem dX7_addAll_51 : decode cX7_addAll 51 = .ok (.iload_n 2, 1) := by decide +kernel
theorem dX7_addAll_52 : decode cX7_addAll 52 = .ok (.aload_n 1, 1) := by decide +kernel
theorem dX7_addAll_53 : decode cX7_addAll 53 = .ok (.iload_n 3, 1) := by decide +kernel
theorem dX7_addAll_54 : decode cX7_addAll 54 = .ok (.invokevirtual 29, 3) := by decide +kernel
theorem dX7_addAll_57 : decode cX7_addAll 57 = .ok (.castore, 1) := by decide +kernel
theorem dX7_addAll_58 : decode cX7_addAll 58 = .ok (.iinc 2 1, 3) := by decide +kernel
theorem dX7_addAll_61 : decode cX7_addAll 61 = .ok (.iinc 3 1, 3) := by decide +kernel
theorem dX7_addAll_64 : decode cX7_addAll 64 = .ok (.goto (-52), 3) := by decide +kernel
theorem dX7_addAll_67 : decode cX7_addAll 67 = .ok (.aload_n 0, 1) := by decide +kernel
theorem dX7_addAll_68 : decode cX7_addAll 68 = .ok (.iload_n 2, 1) := by decide +kernel
theorem dX7_addAll_69 : decode cX7_addAll 69 = .ok (.invokevirtual 33, 3) := by decide +kernel
theorem dX7_addAll_72 : decode cX7_addAll 72 = .ok (.return_, 1) := by decide +kernel
theorem dX7_close_0 : decode cX7_close 0 = .ok (.aload_n 0, 1) := by decide +kernel
theorem dX7_close_1 : decode cX7_close 1 = .ok (.getfield 19, 3) := by decide +kernel
theorem dX7_close_4 : decode cX7_close 4 = .ok (.iconst 1, 1) := by decide +kernel
theorem dX7_close_5 : decode cX7_close 5 = .ok (.iadd, 1) := by decide +kernel
theorem dX7_close_6 : decode cX7_close 6 = .ok (.aload_n 0, 1) := by decide +kernel
theorem dX7_close_7 : decode cX7_close 7 = .ok (.getfield 15, 3) := by decide +kernel
theorem dX7_close_10 : decode cX7_close 10 = .ok (.arraylength, 1) := by decide +kernel
theorem dX7_close_11 : decode cX7_close 11 = .ok (.if_icmp .ge 23, 3) := by decide +kernel
theorem dX7_close_14 : decode cX7_close 14 = .ok (.aload_n 0, 1) := by decide +kernel
theorem dX7_close_15 : decode cX7_close 15 = .ok (.dup, 1) := by decide +kernel
theorem dX7_close_16 : decode cX7_close 16 = .ok (.getfield 19, 3) := by decide +kernel
theorem dX7_close_19 : decode cX7_close 19 = .ok (.iconst 1, 1) := by decide +kernel
theorem dX7_close_20 : decode cX7_close 20 = .ok (.iadd, 1) := by decide +kernel
theorem dX7_close_21 : decode cX7_close 21 = .ok (.putfield 19, 3) := by decide +kernel
theorem dX7_close_24 : decode cX7_close 24 = .ok (.aload_n 0, 1) := by decide +kernel
theorem dX7_close_25 : decode cX7_close 25 = .ok (.getfield 15, 3) := by decide +kernel
theorem dX7_close_28 : decode cX7_close 28 = .ok (.aload_n 0, 1) := by decide +kernel
theorem dX7_close_29 : decode cX7_close 29 = .ok (.getfield 19, 3) := by decide +kernel
theorem dX7_close_32 : decode cX7_close 32 = .ok (.iload_n 1, 1) := by decide +kernel
theorem dX7_close_33 : decode cX7_close 33 = .ok (.iastore, 1) := by decide +kernel
theorem dX7_close_34 : decode cX7_close 34 = .ok (.return_, 1) := by decide +kernel
theorem dX7_lengthOf_0 : decode cX7_lengthOf 0 = .ok (.aload_n 0, 1) := by decide +kernel
theorem dX7_lengthOf_1 : decode cX7_lengthOf 1 = .ok (.getfield 15, 3) := by decide +kernel
theorem dX7_lengthOf_4 : decode cX7_lengthOf 4 = .ok (.iload_n 1, 1) := by decide +kernel
theorem dX7_lengthOf_5 : decode cX7_lengthOf 5 = .ok (.iconst 1, 1) := by decide +kernel
theorem dX7_lengthOf_6 : decode cX7_lengthOf 6 = .ok (.iadd, 1) := by decide +kernel
theorem dX7_lengthOf_7 : decode cX7_lengthOf 7 = .ok (.iaload, 1) := by decide +kernel
theorem dX7_lengthOf_8 : decode cX7_lengthOf 8 = .ok (.aload_n 0, 1) := by decide +kernel
theorem dX7_lengthOf_9 : decode cX7_lengthOf 9 = .ok (.getfield 15, 3) := by decide +kernel
theorem dX7_lengthOf_12 : decode cX7_lengthOf 12 = .ok (.iload_n 1, 1) := by decide +kernel
theorem dX7_lengthOf_13 : decode cX7_lengthOf 13 = .ok (.iaload, 1) := by decide +kernel
theorem dX7_lengthOf_14 : decode cX7_lengthOf 14 = .ok (.isub, 1) := by decide +kernel
theorem dX7_lengthOf_15 : decode cX7_lengthOf 15 = .ok (.ireturn, 1) := by decide +kernel
set_option maxRecDepth 20000 in
theorem ggX7_longest_X6_look : GoodIn wsX7_longest wsX6_look := goodIn_r _ [8, 9, 10, 23, 24, 25] rfl (by decide +kernel)
set_option maxRecDepth 20000 in
theorem gX7_longest_X6_look : GoodIn wsX7_longest (wsV RX7 37 RX6 yX6_look wsX6_look) := goodIn_app (goodIn_of _ (by decide +kernel)) ggX7_longest_X6_look
set_option maxRecDepth 20000 in
theorem ggX7_longest_X7_isThere : GoodIn wsX7_longest wsX7_isThere := goodIn_r _ [15, 3, 2, 4, 5, 6, 7, 8, 9, 10, 20, 21, 22, 23, 24, 25] rfl (by decide +kernel)
set_option maxRecDepth 20000 in
theorem gX7_longest_X7_isThere : GoodIn wsX7_longest (wsV RX7 43 RX7 yX7_isThere wsX7_isThere) := goodIn_app (goodIn_of _ (by decide +kernel)) ggX7_longest_X7_isThere
set_option maxRecDepth 20000 in
theorem ggX7_longest_X7_lengthOf : GoodIn wsX7_longest wsX7_lengthOf := goodIn_r _ [19, 3, 20, 21, 22] rfl (by decide +kernel)
set_option maxRecDepth 20000 in
theorem gX7_longest_X7_lengthOf : GoodIn wsX7_longest (wsV RX7 47 RX7 yX7_lengthOf wsX7_lengthOf) := goodIn_app (goodIn_of _ (by decide +kernel)) ggX7_longest_X7_lengthOf
theorem dX7_longest_0 : decode cX7_longest 0 = .ok (.aload_n 1, 1) := by decide +kernel
theorem dX7_longest_1 : decode cX7_longest 1 = .ok (.iload_n 2, 1) := by decide +kernel
theorem dX7_longest_2 : decode cX7_longest 2 = .ok (.invokevirtual 37, 3) := by decide +kernel
theorem dX7_longest_5 : decode cX7_longest 5 = .ok (.istore_n 3, 1) := by decide +kernel
theorem dX7_longest_6 : decode cX7_longest 6 = .ok (.iconst (-1), 1) := by decide +kernel
theorem dX7_longest_7 : decode cX7_longest 7 = .ok (.istore 4, 2) := by decide +kernel
theorem dX7_longest_9 : decode cX7_longest 9 = .ok (.iconst 0, 1) := by decide +kernel
theorem dX7_longest_10 : decode cX7_longest 10 = .ok (.istore 5, 2) := by decide +kernel
theorem dX7_longest_12 : decode cX7_longest 12 = .ok (.iload 5, 2) := by decide +kernel
theorem dX7_longest_14 : decode cX7_longest 14 = .ok (.aload_n 0, 1) := by decide +kernel
theorem dX7_longest_15 : decode cX7_longest 15 = .ok (.getfield 19, 3) := by decide +kernel
theorem dX7_longest_18 : decode cX7_longest 18 = .ok (.if_icmp .ge 61, 3) := by decide +kernel
theorem dX7_longest_21 : decode cX7_longest 21 = .ok (.aload_n 0, 1) := by decide +kernel
theorem dX7_longest_22 : decode cX7_longest 22 = .ok (.getfield 9, 3) := by decide +kernel
theorem dX7_longest_25 : decode cX7_longest 25 = .ok (.aload_n 0, 1) := by decide +kernel
theorem dX7_longest_26 : decode cX7_longest 26 = .ok (.getfield 15, 3) := by decide +kernel
theorem dX7_longest_29 : decode cX7_longest 29 = .ok (.iload 5, 2) := by decide +kernel
theorem dX7_longest_31 : decode cX7_longest 31 = .ok (.iaload, 1) := by decide +kernel
theorem dX7_longest_32 : decode cX7_longest 32 = .ok (.caload, 1) := by decide +kernel
theorem dX7_longest_33 : decode cX7_longest 33 = .ok (.iload_n 3, 1) := by decide +kernel
theorem dX7_longest_34 : decode cX7_longest 34 = .ok (.if_icmp .ne 39, 3) := by decide +kernel
theorem dX7_longest_37 : decode cX7_longest 37 = .ok (.aload_n 0, 1) := by decide +kernel
theorem dX7_longest_38 : decode cX7_longest 38 = .ok (.iload 5, 2) := by decide +kernel
theorem dX7_longest_40 : decode cX7_longest 40 = .ok (.aload_n 1, 1) := by decide +kernel
theorem dX7_longest_41 : decode cX7_longest 41 = .ok (.iload_n 2, 1) := by decide +kernel
theorem dX7_longest_42 : decode cX7_longest 42 = .ok (.invokevirtual 43, 3) := by decide +kernel
theorem dX7_longest_45 : decode cX7_longest 45 = .ok (.ifCond .eq 28, 3) := by decide +kernel
theorem dX7_longest_48 : decode cX7_longest 48 = .ok (.iload 4, 2) := by decide +kernel
theorem dX7_longest_50 : decode cX7_longest 50 = .ok (.iconst (-1), 1) := by decide +kernel
theorem dX7_longest_51 : decode cX7_longest 51 = .ok (.if_icmp .eq 18, 3) := by decide +kernel
theorem dX7_longest_54 : decode cX7_longest 54 = .ok (.aload_n 0, 1) := by decide +kernel
theorem dX7_longest_55 : decode cX7_longest 55 = .ok (.iload 5, 2) := by decide +kernel
theorem dX7_longest_57 : decode cX7_longest 57 = .ok (.invokevirtual 47, 3) := by decide +kernel
theorem dX7_longest_60 : decode cX7_longest 60 = .ok (.aload_n 0, 1) := by decide +kernel
theorem dX7_longest_61 : decode cX7_longest 61 = .ok (.iload 4, 2) := by decide +kernel
theorem dX7_longest_63 : decode cX7_longest 63 = .ok (.invokevirtual 47, 3) := by decide +kernel
theorem dX7_longest_66 : decode cX7_longest 66 = .ok (.if_icmp .le 7, 3) := by decide +kernel
theorem dX7_longest_69 : decode cX7_longest 69 = .ok (.iload 5, 2) := by decide +kernel
theorem dX7_longest_71 : decode cX7_longest 71 = .ok (.istore 4, 2) := by decide +kernel
theorem dX7_longest_73 : decode cX7_longest 73 = .ok (.iinc 5 1, 3) := by decide +kernel
theorem dX7_longest_76 : decode cX7_longest 76 = .ok (.goto (-64), 3) := by decide +kernel
theorem dX7_longest_79 : decode cX7_longest 79 = .ok (.iload 4, 2) := by decide +kernel
theorem dX7_longest_81 : decode cX7_longest 81 = .ok (.ireturn, 1) := by decide +kernel
set_option maxRecDepth 20000 in
theorem ggX7_isThere_X6_look : GoodIn wsX7_isThere wsX6_look := goodIn_r _ [7, 8, 9, 13, 14, 15] rfl (by decide +kernel)
set_option maxRecDepth 20000 in
theorem gX7_isThere_X6_look : GoodIn wsX7_isThere (wsV RX7 37 RX6 yX6_look wsX6_look) := goodIn_app (goodIn_of _ (by decide +kernel)) ggX7_isThere_X6_look
theorem dX7_isThere_0 : decode cX7_isThere 0 = .ok (.aload_n 0, 1) := by decide +kernel
theorem dX7_isThere_1 : decode cX7_isThere 1 = .ok (.getfield 15, 3) := by decide +kernel
theorem dX7_isThere_4 : decode cX7_isThere 4 = .ok (.iload_n 1, 1) := by decide +kernel
theorem dX7_isThere_5 : decode cX7_isThere 5 = .ok (.iaload, 1) := by decide +kernel
theorem dX7_isThere_6 : decode cX7_isThere 6 = .ok (.istore 4, 2) := by decide +kernel
theorem dX7_isThere_8 : decode cX7_isThere 8 = .ok (.iload 4, 2) := by decide +kernel
theorem dX7_isThere_10 : decode cX7_isThere 10 = .ok (.istore 5, 2) := by decide +kernel
theorem dX7_isThere_12 : decode cX7_isThere 12 = .ok (.iload 5, 2) := by decide +kernel
theorem dX7_isThere_14 : decode cX7_isThere 14 = .ok (.aload_n 0, 1) := by decide +kernel
theorem dX7_isThere_15 : decode cX7_isThere 15 = .ok (.getfield 15, 3) := by decide +kernel
theorem dX7_isThere_18 : decode cX7_isThere 18 = .ok (.iload_n 1, 1) := by decide +kernel
theorem dX7_isThere_19 : decode cX7_isThere 19 = .ok (.iconst 1, 1) := by decide +kernel
theorem dX7_isThere_20 : decode cX7_isThere 20 = .ok (.iadd, 1) := by decide +kernel
theorem dX7_isThere_21 : decode cX7_isThere 21 = .ok (.iaload, 1) := by decide +kernel
theorem dX7_isThere_22 : decode cX7_isThere 22 = .ok (.if_icmp .ge 32, 3) := by decide +kernel
theorem dX7_isThere_25 : decode cX7_isThere 25 = .ok (.aload_n 2, 1) := by decide +kernel
theorem dX7_isThere_26 : decode cX7_isThere 26 = .ok (.iload_n 3, 1) := by decide +kernel
theorem dX7_isThere_27 : decode cX7_isThere 27 = .ok (.iload 5, 2) := by decide +kernel
theorem dX7_isThere_29 : decode cX7_isThere 29 = .ok (.iadd, 1) := by decide +kernel
theorem dX7_isThere_30 : decode cX7_isThere 30 = .ok (.iload 4, 2) := by decide +kernel
theorem dX7_isThere_32 : decode cX7_isThere 32 = .ok (.isub, 1) := by decide +kernel
theorem dX7_isThere_33 : decode cX7_isThere 33 = .ok (.invokevirtual 37, 3) := by decide +kernel
theorem dX7_isThere_36 : decode cX7_isThere 36 = .ok (.aload_n 0, 1) := by decide +kernel
theorem dX7_isThere_37 : decode cX7_isThere 37 = .ok (.getfield 9, 3) := by decide +kernel
theorem dX7_isThere_40 : decode cX7_isThere 40 = .ok (.iload 5, 2) := by decide +kernel
theorem dX7_isThere_42 : decode cX7_isThere 42 = .ok (.caload, 1) := by decide +kernel
theorem dX7_isThere_43 : decode cX7_isThere 43 = .ok (.if_icmp .eq 5, 3) := by decide +kernel
theorem dX7_isThere_46 : decode cX7_isThere 46 = .ok (.iconst 0, 1) := by decide +kernel
theorem dX7_isThere_47 : decode cX7_isThere 47 = .ok (.ireturn, 1) := by decide +kernel
theorem dX7_isThere_48 : decode cX7_isThere 48 = .ok (.iinc 5 1, 3) := by decide +kernel
theorem dX7_isThere_51 : decode cX7_isThere 51 = .ok (.goto (-39), 3) := by decide +kernel
theorem dX7_isThere_54 : decode cX7_isThere 54 = .ok (.iconst 1, 1) := by decide +kernel
theorem dX7_isThere_55 : decode cX7_isThere 55 = .ok (.ireturn, 1) := by decide +kernel
theorem dX8_init_0 : decode cX8_init 0 = .ok (.aload_n 0, 1) := by decide +kernel
theorem dX8_init_1 : decode cX8_init 1 = .ok (.invokespecial 3, 3) := by decide +kernel
theorem dX8_init_4 : decode cX8_init 4 = .ok (.aload_n 0, 1) := by decide +kernel
theorem dX8_init_5 : decode cX8_init 5 = .ok (.sipush 8192, 3) := by decide +kernel
theorem dX8_init_8 : decode cX8_init 8 = .ok (.newarray .int, 2) := by decide +kernel
theorem dX8_init_10 : decode cX8_init 10 = .ok (.putfield 9, 3) := by decide +kernel
theorem dX8_init_13 : decode cX8_init 13 = .ok (.aload_n 0, 1) := by decide +kernel
theorem dX8_init_14 : decode cX8_init 14 = .ok (.sipush 8192, 3) := by decide +kernel
theorem dX8_init_17 : decode cX8_init 17 = .ok (.newarray .boolean, 2) := by decide +kernel
theorem dX8_init_19 : decode cX8_init 19 = .ok (.putfield 15, 3) := by decide +kernel
theorem dX8_init_22 : decode cX8_init 22 = .ok (.aload_n 0, 1) := by decide +kernel
theorem dX8_init_23 : decode cX8_init 23 = .ok (.sipush 8192, 3) := by decide +kernel
theorem dX8_init_26 : decode cX8_init 26 = .ok (.newarray .long, 2) := by decide +kernel
theorem dX8_init_28 : decode cX8_init 28 = .ok (.putfield 19, 3) := by decide +kernel
theorem dX8_init_31 : decode cX8_init 31 = .ok (.aload_n 0, 1) := by decide +kernel
theorem dX8_init_32 : decode cX8_init 32 = .ok (.sipush 8192, 3) := by decide +kernel
theorem dX8_init_35 : decode cX8_init 35 = .ok (.newarray .int, 2) := by decide +kernel
theorem dX8_init_37 : decode cX8_init 37 = .ok (.putfield 23, 3) := by decide +kernel
theorem dX8_init_40 : decode cX8_init 40 = .ok (.return_, 1) := by decide +kernel
theorem dX8_clear_0 : decode cX8_clear 0 = .ok (.aload_n 0, 1) := by decide +kernel
theorem dX8_clear_1 : decode cX8_clear 1 = .ok (.iconst 0, 1) := by decide +kernel
theorem dX8_clear_2 : decode cX8_clear 2 = .ok (.putfield 26, 3) := by decide +kernel
theorem dX8_clear_5 : decode cX8_clear 5 = .ok (.return_, 1) := by decide +kernel
theorem dX8_count_0 : decode cX8_count 0 = .ok (.aload_n 0, 1) := by decide +kernel
theorem dX8_count_1 : decode cX8_count 1 = .ok (.getfield 26, 3) := by decide +kernel
theorem dX8_count_4 : decode cX8_count 4 = .ok (.ireturn, 1) := by decide +kernel
theorem dX8_add_0 : decode cX8_add 0 = .ok (.aload_n 0, 1) := by decide +kernel
theorem dX8_add_1 : decode cX8_add 1 = .ok (.getfield 26, 3) := by decide +kernel
theorem dX8_add_4 : decode cX8_add 4 = .ok (.sipush 8192, 3) := by decide +kernel
theorem dX8_add_7 : decode cX8_add 7 = .ok (.if_icmp .ge 52, 3) := by decide +kernel
theorem dX8_add_10 : decode cX8_add 10 = .ok (.aload_n 0, 1) := by decide +kernel
theorem dX8_add_11 : decode cX8_add 11 = .ok (.getfield 9, 3) := by decide +kernel
theorem dX8_add_14 : decode cX8_add 14 = .ok (.aload_n 0, 1) := by decide +kernel
theorem dX8_add_15 : decode cX8_add 15 = .ok (.getfield 26, 3) := by decide +kernel
theorem dX8_add_18 : decode cX8_add 18 = .ok (.aload_n 1, 1) := by decide +kernel
theorem dX8_add_19 : decode cX8_add 19 = .ok (.getfield 30, 3) := by decide +kernel
theorem dX8_add_22 : decode cX8_add 22 = .ok (.iastore, 1) := by decide +kernel
theorem dX8_add_23 : decode cX8_add 23 = .ok (.aload_n 0, 1) := by decide +kernel
theorem dX8_add_24 : decode cX8_add 24 = .ok (.getfield 15, 3) := by decide +kernel
theorem dX8_add_27 : decode cX8_add 27 = .ok (.aload_n 0, 1) := by decide +kernel
theorem dX8_add_28 : decode cX8_add 28 = .ok (.getfield 26, 3) := by decide +kernel
theorem dX8_add_31 : decode cX8_add 31 = .ok (.iload_n 2, 1) := by decide +kernel
theorem dX8_add_32 : decode cX8_add 32 = .ok (.bastore, 1) := by decide +kernel
theorem dX8_add_33 : decode cX8_add 33 = .ok (.aload_n 0, 1) := by decide +kernel
theorem dX8_add_34 : decode cX8_add 34 = .ok (.getfield 19, 3) := by decide +kernel
theorem dX8_add_37 : decode cX8_add 37 = .ok (.aload_n 0, 1) := by decide +kernel
theorem dX8_add_38 : decode cX8_add 38 = .ok (.getfield 26, 3) := by decide +kernel
theorem dX8_add_41 : decode cX8_add 41 = .ok (.aload_n 1, 1) := by decide +kernel
theorem dX8_add_42 : decode cX8_add 42 = .ok (.getfield 35, 3) := by decide +kernel
theorem dX8_add_45 : decode cX8_add 45 = .ok (.lastore, 1) := by decide +kernel
theorem dX8_add_46 : decode cX8_add 46 = .ok (.aload_n 0, 1) := by decide +kernel
theorem dX8_add_47 : decode cX8_add 47 = .ok (.getfield 23, 3) := by decide +kernel
theorem dX8_add_50 : decode cX8_add 50 = .ok (.aload_n 0, 1) := by decide +kernel
theorem dX8_add_51 : decode cX8_add 51 = .ok (.getfield 26, 3) := by decide +kernel
theorem dX8_add_54 : decode cX8_add 54 = .ok (.aload_n 1, 1) := by decide +kernel
theorem dX8_add_55 : decode cX8_add 55 = .ok (.getfield 38, 3) := by decide +kernel
theorem dX8_add_58 : decode cX8_add 58 = .ok (.iastore, 1) := by decide +kernel
theorem dX8_add_59 : decode cX8_add 59 = .ok (.aload_n 0, 1) := by decide +kernel
theorem dX8_add_60 : decode cX8_add 60 = .ok (.dup, 1) := by decide +kernel
theorem dX8_add_61 : decode cX8_add 61 = .ok (.getfield 26, 3) := by decide +kernel
theorem dX8_add_64 : decode cX8_add 64 = .ok (.iconst 1, 1) := by decide +kernel
theorem dX8_add_65 : decode cX8_add 65 = .ok (.iadd, 1) := by decide +kernel
theorem dX8_add_66 : decode cX8_add 66 = .ok (.putfield 26, 3) := by decide +kernel
theorem dX8_add_69 : decode cX8_add 69 = .ok (.return_, 1) := by decide +kernel
theorem dX8_kindOf_0 : decode cX8_kindOf 0 = .ok (.aload_n 0, 1) := by decide +kernel
theorem dX8_kindOf_1 : decode cX8_kindOf 1 = .ok (.getfield 9, 3) := by decide +kernel
theorem dX8_kindOf_4 : decode cX8_kindOf 4 = .ok (.iload_n 1, 1) := by decide +kernel
theorem dX8_kindOf_5 : decode cX8_kindOf 5 = .ok (.iaload, 1) := by decide +kernel
theorem dX8_kindOf_6 : decode cX8_kindOf 6 = .ok (.ireturn, 1) := by decide +kernel
theorem dX8_isJoined_0 : decode cX8_isJoined 0 = .ok (.aload_n 0, 1) := by decide +kernel
theorem dX8_isJoined_1 : decode cX8_isJoined 1 = .ok (.getfield 15, 3) := by decide +kernel
theorem dX8_isJoined_4 : decode cX8_isJoined 4 = .ok (.iload_n 1, 1) := by decide +kernel
theorem dX8_isJoined_5 : decode cX8_isJoined 5 = .ok (.baload, 1) := by decide +kernel
theorem dX8_isJoined_6 : decode cX8_isJoined 6 = .ok (.ireturn, 1) := by decide +kernel
theorem dX8_whatSays_0 : decode cX8_whatSays 0 = .ok (.aload_n 0, 1) := by decide +kernel
theorem dX8_whatSays_1 : decode cX8_whatSays 1 = .ok (.getfield 19, 3) := by decide +kernel
theorem dX8_whatSays_4 : decode cX8_whatSays 4 = .ok (.iload_n 1, 1) := by decide +kernel
theorem dX8_whatSays_5 : decode cX8_whatSays 5 = .ok (.laload, 1) := by decide +kernel
theorem dX8_whatSays_6 : decode cX8_whatSays 6 = .ok (.lreturn, 1) := by decide +kernel
theorem dX8_startOf_0 : decode cX8_startOf 0 = .ok (.aload_n 0, 1) := by decide +kernel
theorem dX8_startOf_1 : decode cX8_startOf 1 = .ok (.getfield 23, 3) := by decide +kernel
theorem dX8_startOf_4 : decode cX8_startOf 4 = .ok (.iload_n 1, 1) := by decide +kernel
theorem dX8_startOf_5 : decode cX8_startOf 5 = .ok (.iaload, 1) := by decide +kernel
theorem dX8_startOf_6 : decode cX8_startOf 6 = .ok (.ireturn, 1) := by decide +kernel
theorem dX8_isSpelled_0 : decode cX8_isSpelled 0 = .ok (.aload_n 0, 1) := by decide +kernel
theorem dX8_isSpelled_1 : decode cX8_isSpelled 1 = .ok (.getfield 9, 3) := by decide +kernel
theorem dX8_isSpelled_4 : decode cX8_isSpelled 4 = .ok (.iload_n 1, 1) := by decide +kernel
theorem dX8_isSpelled_5 : decode cX8_isSpelled 5 = .ok (.iaload, 1) := by decide +kernel
theorem dX8_isSpelled_6 : decode cX8_isSpelled 6 = .ok (.bipush 60, 2) := by decide +kernel
theorem dX8_isSpelled_8 : decode cX8_isSpelled 8 = .ok (.if_icmp .le 14, 3) := by decide +kernel
theorem dX8_isSpelled_11 : decode cX8_isSpelled 11 = .ok (.aload_n 0, 1) := by decide +kernel
theorem dX8_isSpelled_12 : decode cX8_isSpelled 12 = .ok (.getfield 9, 3) := by decide +kernel
theorem dX8_isSpelled_15 : decode cX8_isSpelled 15 = .ok (.iload_n 1, 1) := by decide +kernel
theorem dX8_isSpelled_16 : decode cX8_isSpelled 16 = .ok (.iaload, 1) := by decide +kernel
theorem dX8_isSpelled_17 : decode cX8_isSpelled 17 = .ok (.bipush 66, 2) := by decide +kernel
theorem dX8_isSpelled_19 : decode cX8_isSpelled 19 = .ok (.if_icmp .ne 7, 3) := by decide +kernel
theorem dX8_isSpelled_22 : decode cX8_isSpelled 22 = .ok (.iconst 1, 1) := by decide +kernel
theorem dX8_isSpelled_23 : decode cX8_isSpelled 23 = .ok (.goto 4, 3) := by decide +kernel
theorem dX8_isSpelled_26 : decode cX8_isSpelled 26 = .ok (.iconst 0, 1) := by decide +kernel
theorem dX8_isSpelled_27 : decode cX8_isSpelled 27 = .ok (.ireturn, 1) := by decide +kernel
set_option maxRecDepth 20000 in
theorem ggX8_lengthOf_X8_isSpelled : GoodIn wsX8_lengthOf wsX8_isSpelled := goodIn_r _ [6, 7, 8, 9, 10, 11, 12] rfl (by decide +kernel)
set_option maxRecDepth 20000 in
theorem gX8_lengthOf_X8_isSpelled : GoodIn wsX8_lengthOf (wsV RX8 41 RX8 yX8_isSpelled wsX8_isSpelled) := goodIn_app (goodIn_of _ (by decide +kernel)) ggX8_lengthOf_X8_isSpelled
theorem dX8_lengthOf_0 : decode cX8_lengthOf 0 = .ok (.aload_n 0, 1) := by decide +kernel
theorem dX8_lengthOf_1 : decode cX8_lengthOf 1 = .ok (.iload_n 1, 1) := by decide +kernel
theorem dX8_lengthOf_2 : decode cX8_lengthOf 2 = .ok (.invokevirtual 41, 3) := by decide +kernel
theorem dX8_lengthOf_5 : decode cX8_lengthOf 5 = .ok (.ifCond .eq 13, 3) := by decide +kernel
theorem dX8_lengthOf_8 : decode cX8_lengthOf 8 = .ok (.aload_n 0, 1) := by decide +kernel
theorem dX8_lengthOf_9 : decode cX8_lengthOf 9 = .ok (.getfield 19, 3) := by decide +kernel
theorem dX8_lengthOf_12 : decode cX8_lengthOf 12 = .ok (.iload_n 1, 1) := by decide +kernel
theorem dX8_lengthOf_13 : decode cX8_lengthOf 13 = .ok (.laload, 1) := by decide +kernel
theorem dX8_lengthOf_14 : decode cX8_lengthOf 14 = .ok (.l2i, 1) := by decide +kernel
theorem dX8_lengthOf_15 : decode cX8_lengthOf 15 = .ok (.goto 4, 3) := by decide +kernel
theorem dX8_lengthOf_18 : decode cX8_lengthOf 18 = .ok (.iconst 0, 1) := by decide +kernel
theorem dX8_lengthOf_19 : decode cX8_lengthOf 19 = .ok (.ireturn, 1) := by decide +kernel
set_option maxRecDepth 20000 in
theorem ggX9_init_X6_init : GoodIn wsX9_init wsX6_init := goodIn_r _ [22, 23, 2, 3, 24, 25, 26, 165, 166, 167] rfl (by decide +kernel)
set_option maxRecDepth 20000 in
theorem gX9_init_X6_init_n19 : GoodIn wsX9_init (wsX6_init) := ggX9_init_X6_init
set_option maxRecDepth 20000 in
theorem ggX9_init_X8_init : GoodIn wsX9_init wsX8_init := goodIn_r _ [28, 29, 2, 3, 30, 31, 32, 33, 34, 35, 36, 168, 169, 170, 171, 172] rfl (by decide +kernel)
set_option maxRecDepth 20000 in
theorem gX9_init_X8_init_n26 : GoodIn wsX9_init (wsX8_init) := ggX9_init_X8_init
set_option maxRecDepth 20000 in
theorem ggX9_init_X4_init : GoodIn wsX9_init wsX4_init := goodIn_r _ [39, 40, 2, 3, 41, 42, 43, 44, 45, 46, 47, 48, 49, 50, 51, 52, 53, 54, 55, 56, 57, 58, 59, 60, 61, 62, 63, 64, 65, 25, 66, 30, 67, 68, 69, 70, 71, 72, 73, 74, 75, 76, 77, 78, 79, 80, 81, 82, 83, 84, 85, 86, 87, 88, 89, 90, 91, 92, 93, 94, 95, 96, 97, 98, 99, 100, 101, 102, 103, 104, 105, 106, 107, 108, 109, 110, 111, 112, 113, 114, 115, 116, 117, 118, 119, 120, 121, 122, 123, 124, 125, 126, 127, 128, 129, 130, 131, 132, 133, 134, 135, 136, 137, 138, 139, 140, 141, 142, 143, 144, 145, 146, 147, 148, 149, 150, 151, 152, 153, 154, 155, 156, 173, 174, 175, 176, 177, 178, 179, 180, 181, 182, 183, 184, 185, 186, 187, 188, 189, 190, 191, 192, 193, 194, 195, 196, 197, 198, 199, 200, 201, 202] rfl (by decide +kernel)
set_option maxRecDepth 20000 in
theorem gX9_init_X4_init : GoodIn wsX9_init (wsX4_init) := ggX9_init_X4_init
theorem dX9_init_0 : decode cX9_init 0 = .ok (.aload_n 0, 1) := by decide +kernel
theorem dX9_init_1 : decode cX9_init 1 = .ok (.invokespecial 1, 3) := by decide +kernel
theorem dX9_init_4 : decode cX9_init 4 = .ok (.aload_n 0, 1) := by decide +kernel
theorem dX9_init_5 : decode cX9_init 5 = .ok (.ldc 9, 2) := by decide +kernel
theorem dX9_init_7 : decode cX9_init 7 = .ok (.newarray .byte, 2) := by decide +kernel
theorem dX9_init_9 : decode cX9_init 9 = .ok (.putfield 10, 3) := by decide +kernel
theorem dX9_init_12 : decode cX9_init 12 = .ok (.aload_n 0, 1) := by decide +kernel
theorem dX9_init_13 : decode cX9_init 13 = .ok (.ldc 9, 2) := by decide +kernel
theorem dX9_init_15 : decode cX9_init 15 = .ok (.newarray .byte, 2) := by decide +kernel
theorem dX9_init_17 : decode cX9_init 17 = .ok (.putfield 14, 3) := by decide +kernel
theorem dX9_init_20 : decode cX9_init 20 = .ok (.aload_n 0, 1) := by decide +kernel
theorem dX9_init_21 : decode cX9_init 21 = .ok (.new 17, 3) := by decide +kernel
theorem dX9_init_24 : decode cX9_init 24 = .ok (.dup, 1) := by decide +kernel
theorem dX9_init_25 : decode cX9_init 25 = .ok (.invokespecial 19, 3) := by decide +kernel
theorem dX9_init_28 : decode cX9_init 28 = .ok (.putfield 20, 3) := by decide +kernel
theorem dX9_init_31 : decode cX9_init 31 = .ok (.aload_n 0, 1) := by decide +kernel
theorem dX9_init_32 : decode cX9_init 32 = .ok (.new 24, 3) := by decide +kernel
theorem dX9_init_35 : decode cX9_init 35 = .ok (.dup, 1) := by decide +kernel
theorem dX9_init_36 : decode cX9_init 36 = .ok (.invokespecial 26, 3) := by decide +kernel
theorem dX9_init_39 : decode cX9_init 39 = .ok (.putfield 27, 3) := by decide +kernel
theorem dX9_init_42 : decode cX9_init 42 = .ok (.aload_n 0, 1) := by decide +kernel
theorem dX9_init_43 : decode cX9_init 43 = .ok (.new 31, 3) := by decide +kernel
theorem dX9_init_46 : decode cX9_init 46 = .ok (.dup, 1) := by decide +kernel
theorem dX9_init_47 : decode cX9_init 47 = .ok (.aload_n 0, 1) := by decide +kernel
theorem dX9_init_48 : decode cX9_init 48 = .ok (.getfield 20, 3) := by decide +kernel
theorem dX9_init_51 : decode cX9_init 51 = .ok (.aload_n 0, 1) := by decide +kernel
theorem dX9_init_52 : decode cX9_init 52 = .ok (.getfield 27, 3) := by decide +kernel
theorem dX9_init_55 : decode cX9_init 55 = .ok (.invokespecial 33, 3) := by decide +kernel
theorem dX9_init_58 : decode cX9_init 58 = .ok (.putfield 36, 3) := by decide +kernel
theorem dX9_init_61 : decode cX9_init 61 = .ok (.aload_n 0, 1) := by decide +kernel
theorem dX9_init_62 : decode cX9_init 62 = .ok (.iconst (-1), 1) := by decide +kernel
theorem dX9_init_63 : decode cX9_init 63 = .ok (.putfield 40, 3) := by decide +kernel
theorem dX9_init_66 : decode cX9_init 66 = .ok (.return_, 1) := by decide +kernel
set_option maxRecDepth 20000 in
theorem ggX9_feed_X9_gather : GoodIn wsX9_feed wsX9_gather := goodIn_r _ [9, 10, 3, 11, 12, 13, 14, 15, 16, 17, 18] rfl (by decide +kernel)
set_option maxRecDepth 20000 in
theorem gX9_feed_X9_gather : GoodIn wsX9_feed (wsV RX9 51 RX9 yX9_gather wsX9_gather) := goodIn_app (goodIn_of _ (by decide +kernel)) ggX9_feed_X9_gather
theorem dX9_feed_0 : decode cX9_feed 0 = .ok (.aload_n 0, 1) := by decide +kernel
theorem dX9_feed_1 : decode cX9_feed 1 = .ok (.getfield 44, 3) := by decide +kernel
theorem dX9_feed_4 : decode cX9_feed 4 = .ok (.ldc 47, 2) := by decide +kernel
theorem dX9_feed_6 : decode cX9_feed 6 = .ok (.if_icmp .le 11, 3) := by decide +kernel
theorem dX9_feed_9 : decode cX9_feed 9 = .ok (.new 48, 3) := by decide +kernel
theorem dX9_feed_12 : decode cX9_feed 12 = .ok (.dup, 1) := by decide +kernel
theorem dX9_feed_13 : decode cX9_feed 13 = .ok (.invokespecial 50, 3) := by decide +kernel
theorem dX9_feed_16 : decode cX9_feed 16 = .ok (.athrow, 1) := by decide +kernel
theorem dX9_feed_17 : decode cX9_feed 17 = .ok (.aload_n 0, 1) := by decide +kernel
theorem dX9_feed_18 : decode cX9_feed 18 = .ok (.iload_n 1, 1) := by decide +kernel
theorem dX9_feed_19 : decode cX9_feed 19 = .ok (.invokevirtual 51, 3) := by decide +kernel
theorem dX9_feed_22 : decode cX9_feed 22 = .ok (.aload_n 0, 1) := by decide +kernel
theorem dX9_feed_23 : decode cX9_feed 23 = .ok (.iload_n 2, 1) := by decide +kernel
theorem dX9_feed_24 : decode cX9_feed 24 = .ok (.invokevirtual 51, 3) := by decide +kernel
theorem dX9_feed_27 : decode cX9_feed 27 = .ok (.aload_n 0, 1) := by decide +kernel
theorem dX9_feed_28 : decode cX9_feed 28 = .ok (.iload_n 3, 1) := by decide +kernel
theorem dX9_feed_29 : decode cX9_feed 29 = .ok (.invokevirtual 51, 3) := by decide +kernel
theorem dX9_feed_32 : decode cX9_feed 32 = .ok (.aload_n 0, 1) := by decide +kernel
theorem dX9_feed_33 : decode cX9_feed 33 = .ok (.iload 4, 2) := by decide +kernel
theorem dX9_feed_35 : decode cX9_feed 35 = .ok (.invokevirtual 51, 3) := by decide +kernel
theorem dX9_feed_38 : decode cX9_feed 38 = .ok (.aload_n 0, 1) := by decide +kernel
theorem dX9_feed_39 : decode cX9_feed 39 = .ok (.iload 5, 2) := by decide +kernel
theorem dX9_feed_41 : decode cX9_feed 41 = .ok (.invokevirtual 51, 3) := by decide +kernel
theorem dX9_feed_44 : decode cX9_feed 44 = .ok (.aload_n 0, 1) := by decide +kernel
theorem dX9_feed_45 : decode cX9_feed 45 = .ok (.getfield 44, 3) := by decide +kernel
theorem dX9_feed_48 : decode cX9_feed 48 = .ok (.ireturn, 1) := by decide +kernel
set_option maxRecDepth 20000 in
theorem ggX9_end_X9_areCharacters : GoodIn wsX9_end wsX9_areCharacters := goodIn_r _ [10] rfl (by decide +kernel)
set_option maxRecDepth 20000 in
theorem gX9_end_X9_areCharacters : GoodIn wsX9_end (va_wsS RX9 55 yX9_areCharacters wsX9_areCharacters) := goodIn_app (goodIn_of _ (by decide +kernel)) ggX9_end_X9_areCharacters
theorem dX9_end_0 : decode cX9_end 0 = .ok (.iload_n 1, 1) := by decide +kernel
theorem dX9_end_1 : decode cX9_end 1 = .ok (.ifCond .lt 22, 3) := by decide +kernel
theorem dX9_end_4 : decode cX9_end 4 = .ok (.iload_n 1, 1) := by decide +kernel
theorem dX9_end_5 : decode cX9_end 5 = .ok (.aload_n 0, 1) := by decide +kernel
theorem dX9_end_6 : decode cX9_end 6 = .ok (.getfield 44, 3) := by decide +kernel
theorem dX9_end_9 : decode cX9_end 9 = .ok (.if_icmp .gt 14, 3) := by decide +kernel
theorem dX9_end_12 : decode cX9_end 12 = .ok (.aload_n 0, 1) := by decide +kernel
theorem dX9_end_13 : decode cX9_end 13 = .ok (.getfield 10, 3) := by decide +kernel
theorem dX9_end_16 : decode cX9_end 16 = .ok (.iload_n 1, 1) := by decide +kernel
theorem dX9_end_17 : decode cX9_end 17 = .ok (.invokestatic 55, 3) := by decide +kernel
theorem dX9_end_20 : decode cX9_end 20 = .ok (.ifCond .ne 11, 3) := by decide +kernel
theorem dX9_end_23 : decode cX9_end 23 = .ok (.new 59, 3) := by decide +kernel
theorem dX9_end_26 : decode cX9_end 26 = .ok (.dup, 1) := by decide +kernel
theorem dX9_end_27 : decode cX9_end 27 = .ok (.invokespecial 61, 3) := by decide +kernel
theorem dX9_end_30 : decode cX9_end 30 = .ok (.athrow, 1) := by decide +kernel
theorem dX9_end_31 : decode cX9_end 31 = .ok (.aload_n 0, 1) := by decide +kernel
theorem dX9_end_32 : decode cX9_end 32 = .ok (.getfield 14, 3) := by decide +kernel
theorem dX9_end_35 : decode cX9_end 35 = .ok (.astore_n 2, 1) := by decide +kernel
theorem dX9_end_36 : decode cX9_end 36 = .ok (.aload_n 0, 1) := by decide +kernel
theorem dX9_end_37 : decode cX9_end 37 = .ok (.aload_n 0, 1) := by decide +kernel
theorem dX9_end_38 : decode cX9_end 38 = .ok (.getfield 10, 3) := by decide +kernel
theorem dX9_end_41 : decode cX9_end 41 = .ok (.putfield 14, 3) := by decide +kernel
theorem dX9_end_44 : decode cX9_end 44 = .ok (.aload_n 0, 1) := by decide +kernel
theorem dX9_end_45 : decode cX9_end 45 = .ok (.iload_n 1, 1) := by decide +kernel
theorem dX9_end_46 : decode cX9_end 46 = .ok (.putfield 62, 3) := by decide +kernel
theorem dX9_end_49 : decode cX9_end 49 = .ok (.aload_n 0, 1) := by decide +kernel
theorem dX9_end_50 : decode cX9_end 50 = .ok (.aload_n 2, 1) := by decide +kernel
theorem dX9_end_51 : decode cX9_end 51 = .ok (.putfield 10, 3) := by decide +kernel
theorem dX9_end_54 : decode cX9_end 54 = .ok (.aload_n 0, 1) := by decide +kernel
theorem dX9_end_55 : decode cX9_end 55 = .ok (.iconst 0, 1) := by decide +kernel
theorem dX9_end_56 : decode cX9_end 56 = .ok (.putfield 44, 3) := by decide +kernel
theorem dX9_end_59 : decode cX9_end 59 = .ok (.iload_n 1, 1) := by decide +kernel
theorem dX9_end_60 : decode cX9_end 60 = .ok (.ireturn, 1) := by decide +kernel
set_option maxRecDepth 20000 in
theorem ggX9_read_X8_clear : GoodIn wsX9_read wsX8_clear := goodIn_r _ [17, 18, 335, 336, 337, 338, 339] rfl (by decide +kernel)
set_option maxRecDepth 20000 in
theorem gX9_read_X8_clear : GoodIn wsX9_read (wsV RX9 65 RX8 yX8_clear wsX8_clear) := goodIn_app (goodIn_of _ (by decide +kernel)) ggX9_read_X8_clear
set_option maxRecDepth 20000 in
theorem ggX9_read_X6_fill : GoodIn wsX9_read wsX6_fill := goodIn_r _ [23, 24, 25, 26, 27, 28, 22, 29, 30, 31, 32, 33, 34, 35, 36, 37, 340, 341, 342] rfl (by decide +kernel)
set_option maxRecDepth 20000 in
theorem gX9_read_X6_fill : GoodIn wsX9_read (wsV RX9 68 RX6 yX6_fill wsX6_fill) := goodIn_app (goodIn_of _ (by decide +kernel)) ggX9_read_X6_fill
set_option maxRecDepth 20000 in
theorem ggX9_read_X4_takeAll : GoodIn wsX9_read wsX4_takeAll := goodIn_r _ [42, 43, 44, 45, 46, 47, 48, 22, 49, 24, 50, 51, 52, 41, 53, 54, 55, 56, 57, 37, 58, 59, 60, 61, 31, 62, 63, 64, 65, 66, 67, 68, 69, 70, 71, 72, 73, 74, 25, 75, 76, 77, 78, 79, 80, 81, 82, 83, 84, 85, 86, 30, 32, 87, 88, 89, 90, 91, 92, 93, 94, 95, 96, 97, 98, 99, 100, 101, 102, 103, 104, 105, 106, 107, 108, 109, 110, 111, 112, 113, 114, 115, 116, 117, 118, 119, 120, 121, 122, 123, 124, 125, 126, 127, 128, 129, 130, 131, 132, 133, 134, 135, 136, 137, 138, 139, 140, 141, 142, 143, 144, 145, 146, 147, 148, 149, 150, 151, 152, 153, 154, 155, 156, 157, 158, 159, 160, 161, 162, 163, 164, 165, 166, 167, 168, 169, 170, 171, 172, 173, 174, 175, 176, 177, 178, 179, 180, 181, 182, 183, 184, 185, 186, 10, 11, 12, 187, 188, 189, 190, 191, 192, 193, 194, 195, 196, 197, 198, 199, 200, 201, 202, 203, 204, 205, 206, 207, 208, 209, 210, 211, 212, 213, 214, 215, 216, 217, 218, 219, 220, 221, 222, 223, 224, 225, 226, 227, 228, 229, 230, 231, 232, 233, 234, 235, 236, 237, 238, 239, 240, 241, 242, 243, 244, 245, 246, 247, 248, 249, 250, 251, 252, 253, 254, 255, 256, 257, 258, 259, 260, 261, 262, 263, 264, 265, 266, 267, 268, 269, 270, 271, 272, 273, 274, 275, 276, 277, 278, 279, 280, 281, 282, 283, 284, 285, 286, 287, 288, 289, 290, 291, 292, 293, 294, 295, 296, 297, 298, 299, 300, 301, 302, 303, 304, 305, 306, 307, 308, 309, 310, 311, 312, 313, 314, 315, 316, 317, 16, 318, 18, 319, 320, 321, 322, 343, 344, 345, 346, 347, 348, 349, 350, 351, 352, 353, 340, 341, 342, 354, 355, 356, 357, 358, 359, 360, 361, 362, 363, 364, 365, 366, 367, 368, 369, 370, 371, 372, 335, 336, 337, 338, 339] rfl (by decide +kernel)
set_option maxRecDepth 20000 in
theorem gX9_read_X4_takeAll : GoodIn wsX9_read (wsV RX9 72 RX4 yX4_takeAll wsX4_takeAll) := goodIn_app (goodIn_of _ (by decide +kernel)) ggX9_read_X4_takeAll
set_option maxRecDepth 20000 in
theorem ggX9_read_X8_count : GoodIn wsX9_read wsX8_count := goodIn_r _ [326, 18, 335, 336, 337, 338, 339] rfl (by decide +kernel)
set_option maxRecDepth 20000 in
theorem gX9_read_X8_count : GoodIn wsX9_read (wsV RX9 76 RX8 yX8_count wsX8_count) := goodIn_app (goodIn_of _ (by decide +kernel)) ggX9_read_X8_count
theorem dX9_read_0 : decode cX9_read 0 = .ok (.aload_n 0, 1) := by decide +kernel
theorem dX9_read_1 : decode cX9_read 1 = .ok (.getfield 27, 3) := by decide +kernel
theorem dX9_read_4 : decode cX9_read 4 = .ok (.invokevirtual 65, 3) := by decide +kernel
theorem dX9_read_7 : decode cX9_read 7 = .ok (.aload_n 0, 1) := by decide +kernel
theorem dX9_read_8 : decode cX9_read 8 = .ok (.getfield 20, 3) := by decide +kernel
theorem dX9_read_11 : decode cX9_read 11 = .ok (.aload_n 0, 1) := by decide +kernel
theorem dX9_read_12 : decode cX9_read 12 = .ok (.getfield 14, 3) := by decide +kernel
theorem dX9_read_15 : decode cX9_read 15 = .ok (.aload_n 0, 1) := by decide +kernel
theorem dX9_read_16 : decode cX9_read 16 = .ok (.getfield 62, 3) := by decide +kernel
theorem dX9_read_19 : decode cX9_read 19 = .ok (.invokevirtual 68, 3) := by decide +kernel
theorem dX9_read_22 : decode cX9_read 22 = .ok (.aload_n 0, 1) := by decide +kernel
theorem dX9_read_23 : decode cX9_read 23 = .ok (.iconst 0, 1) := by decide +kernel
theorem dX9_read_24 : decode cX9_read 24 = .ok (.putfield 62, 3) := by decide +kernel
theorem dX9_read_27 : decode cX9_read 27 = .ok (.aload_n 0, 1) := by decide +kernel
theorem dX9_read_28 : decode cX9_read 28 = .ok (.aload_n 0, 1) := by decide +kernel
theorem dX9_read_29 : decode cX9_read 29 = .ok (.getfield 36, 3) := by decide +kernel
theorem dX9_read_32 : decode cX9_read 32 = .ok (.invokevirtual 72, 3) := by decide +kernel
theorem dX9_read_35 : decode cX9_read 35 = .ok (.ifCond .eq 7, 3) := by decide +kernel
theorem dX9_read_38 : decode cX9_read 38 = .ok (.iconst (-1), 1) := by decide +kernel
theorem dX9_read_39 : decode cX9_read 39 = .ok (.goto 10, 3) := by decide +kernel
theorem dX9_read_42 : decode cX9_read 42 = .ok (.aload_n 0, 1) := by decide +kernel
theorem dX9_read_43 : decode cX9_read 43 = .ok (.getfield 27, 3) := by decide +kernel
theorem dX9_read_46 : decode cX9_read 46 = .ok (.invokevirtual 76, 3) := by decide +kernel
theorem dX9_read_49 : decode cX9_read 49 = .ok (.putfield 40, 3) := by decide +kernel
theorem dX9_read_52 : decode cX9_read 52 = .ok (.aload_n 0, 1) := by decide +kernel
theorem dX9_read_53 : decode cX9_read 53 = .ok (.getfield 40, 3) := by decide +kernel
theorem dX9_read_56 : decode cX9_read 56 = .ok (.iconst (-1), 1) := by decide +kernel
theorem dX9_read_57 : decode cX9_read 57 = .ok (.if_icmp .eq 11, 3) := by decide +kernel
theorem dX9_read_60 : decode cX9_read 60 = .ok (.new 80, 3) := by decide +kernel
theorem dX9_read_63 : decode cX9_read 63 = .ok (.dup, 1) := by decide +kernel
theorem dX9_read_64 : decode cX9_read 64 = .ok (.invokespecial 82, 3) := by decide +kernel
theorem dX9_read_67 : decode cX9_read 67 = .ok (.athrow, 1) := by decide +kernel
theorem dX9_read_68 : decode cX9_read 68 = .ok (.aload_n 0, 1) := by decide +kernel
theorem dX9_read_69 : decode cX9_read 69 = .ok (.getfield 27, 3) := by decide +kernel
theorem dX9_read_72 : decode cX9_read 72 = .ok (.invokevirtual 76, 3) := by decide +kernel
theorem dX9_read_75 : decode cX9_read 75 = .ok (.sipush 8193, 3) := by decide +kernel
theorem dX9_read_78 : decode cX9_read 78 = .ok (.invokestatic 83, 3) := by decide +kernel
theorem dX9_read_81 : decode cX9_read 81 = .ok (.ireturn, 1) := by decide +kernel
theorem dX9_wrong_0 : decode cX9_wrong 0 = .ok (.aload_n 0, 1) := by decide +kernel
theorem dX9_wrong_1 : decode cX9_wrong 1 = .ok (.getfield 40, 3) := by decide +kernel
theorem dX9_wrong_4 : decode cX9_wrong 4 = .ok (.ireturn, 1) := by decide +kernel
set_option maxRecDepth 20000 in
theorem ggX9_kind_X9_demandToken : GoodIn wsX9_kind wsX9_demandToken := goodIn_ca (goodIn_r _ [6, 7, 8, 1, 9, 10, 11, 12, 13, 14, 15, 16, 17, 18, 24, 25, 26, 27, 28, 29, 30, 31, 32, 33, 34, 35, 36] rfl (by decide +kernel)) (goodIn_sub (fun _ h => List.mem_cons_of_mem _ (List.mem_append_right _ h)) (by decide +kernel))
set_option maxRecDepth 20000 in
theorem gX9_kind_X9_demandToken : GoodIn wsX9_kind (wsV RX9 89 RX9 yX9_demandToken wsX9_demandToken) := goodIn_app (goodIn_of _ (by decide +kernel)) ggX9_kind_X9_demandToken
set_option maxRecDepth 20000 in
theorem ggX9_kind_X8_kindOf : GoodIn wsX9_kind wsX8_kindOf := goodIn_r _ [22, 23, 32, 33, 34, 35, 36] rfl (by decide +kernel)
set_option maxRecDepth 20000 in
theorem gX9_kind_X8_kindOf : GoodIn wsX9_kind (wsV RX9 92 RX8 yX8_kindOf wsX8_kindOf) := goodIn_app (goodIn_of _ (by decide +kernel)) ggX9_kind_X8_kindOf
theorem dX9_kind_0 : decode cX9_kind 0 = .ok (.aload_n 0, 1) := by decide +kernel
theorem dX9_kind_1 : decode cX9_kind 1 = .ok (.iload_n 1, 1) := by decide +kernel
theorem dX9_kind_2 : decode cX9_kind 2 = .ok (.invokevirtual 89, 3) := by decide +kernel
theorem dX9_kind_5 : decode cX9_kind 5 = .ok (.aload_n 0, 1) := by decide +kernel
theorem dX9_kind_6 : decode cX9_kind 6 = .ok (.getfield 27, 3) := by decide +kernel
theorem dX9_kind_9 : decode cX9_kind 9 = .ok (.iload_n 1, 1) := by decide +kernel
theorem dX9_kind_10 : decode cX9_kind 10 = .ok (.invokevirtual 92, 3) := by decide +kernel
theorem dX9_kind_13 : decode cX9_kind 13 = .ok (.ireturn, 1) := by decide +kernel
set_option maxRecDepth 20000 in
theorem ggX9_glued_X9_demandToken : GoodIn wsX9_glued wsX9_demandToken := goodIn_ca (goodIn_r _ [6, 7, 8, 1, 9, 10, 11, 12, 13, 14, 15, 16, 17, 18, 24, 25, 26, 27, 28, 29, 30, 31, 32, 33, 34, 35, 36] rfl (by decide +kernel)) (goodIn_sub (fun _ h => List.mem_cons_of_mem _ (List.mem_append_right _ h)) (by decide +kernel))
set_option maxRecDepth 20000 in
theorem gX9_glued_X9_demandToken : GoodIn wsX9_glued (wsV RX9 89 RX9 yX9_demandToken wsX9_demandToken) := goodIn_app (goodIn_of _ (by decide +kernel)) ggX9_glued_X9_demandToken
set_option maxRecDepth 20000 in
theorem ggX9_glued_X8_isJoined : GoodIn wsX9_glued wsX8_isJoined := goodIn_r _ [22, 23, 32, 33, 34, 35, 36] rfl (by decide +kernel)
set_option maxRecDepth 20000 in
theorem gX9_glued_X8_isJoined : GoodIn wsX9_glued (wsV RX9 96 RX8 yX8_isJoined wsX8_isJoined) := goodIn_app (goodIn_of _ (by decide +kernel)) ggX9_glued_X8_isJoined
theorem dX9_glued_0 : decode cX9_glued 0 = .ok (.aload_n 0, 1) := by decide +kernel
theorem dX9_glued_1 : decode cX9_glued 1 = .ok (.iload_n 1, 1) := by decide +kernel
theorem dX9_glued_2 : decode cX9_glued 2 = .ok (.invokevirtual 89, 3) := by decide +kernel
theorem dX9_glued_5 : decode cX9_glued 5 = .ok (.aload_n 0, 1) := by decide +kernel
theorem dX9_glued_6 : decode cX9_glued 6 = .ok (.getfield 27, 3) := by decide +kernel
theorem dX9_glued_9 : decode cX9_glued 9 = .ok (.iload_n 1, 1) := by decide +kernel
theorem dX9_glued_10 : decode cX9_glued 10 = .ok (.invokevirtual 96, 3) := by decide +kernel
theorem dX9_glued_13 : decode cX9_glued 13 = .ok (.ireturn, 1) := by decide +kernel
set_option maxRecDepth 20000 in
theorem ggX9_value_X9_demandToken : GoodIn wsX9_value wsX9_demandToken := goodIn_ca (goodIn_r _ [6, 7, 8, 1, 9, 10, 11, 12, 13, 14, 15, 16, 17, 18, 24, 25, 26, 27, 28, 29, 30, 31, 32, 33, 34, 35, 36] rfl (by decide +kernel)) (goodIn_sub (fun _ h => List.mem_cons_of_mem _ (List.mem_append_right _ h)) (by decide +kernel))
set_option maxRecDepth 20000 in
theorem gX9_value_X9_demandToken : GoodIn wsX9_value (wsV RX9 89 RX9 yX9_demandToken wsX9_demandToken) := goodIn_app (goodIn_of _ (by decide +kernel)) ggX9_value_X9_demandToken
set_option maxRecDepth 20000 in
theorem ggX9_value_X8_whatSays : GoodIn wsX9_value wsX8_whatSays := goodIn_r _ [22, 23, 32, 33, 34, 35, 36] rfl (by decide +kernel)
set_option maxRecDepth 20000 in
theorem gX9_value_X8_whatSays : GoodIn wsX9_value (wsV RX9 100 RX8 yX8_whatSays wsX8_whatSays) := goodIn_app (goodIn_of _ (by decide +kernel)) ggX9_value_X8_whatSays
theorem dX9_value_0 : decode cX9_value 0 = .ok (.aload_n 0, 1) := by decide +kernel
theorem dX9_value_1 : decode cX9_value 1 = .ok (.iload_n 1, 1) := by decide +kernel
theorem dX9_value_2 : decode cX9_value 2 = .ok (.invokevirtual 89, 3) := by decide +kernel
theorem dX9_value_5 : decode cX9_value 5 = .ok (.aload_n 0, 1) := by decide +kernel
theorem dX9_value_6 : decode cX9_value 6 = .ok (.getfield 27, 3) := by decide +kernel
theorem dX9_value_9 : decode cX9_value 9 = .ok (.iload_n 1, 1) := by decide +kernel
theorem dX9_value_10 : decode cX9_value 10 = .ok (.invokevirtual 100, 3) := by decide +kernel
theorem dX9_value_13 : decode cX9_value 13 = .ok (.lreturn, 1) := by decide +kernel
set_option maxRecDepth 20000 in
theorem ggX9_at_X9_demandToken : GoodIn wsX9_at wsX9_demandToken := goodIn_ca (goodIn_r _ [9, 1, 2, 3, 10, 11, 12, 13, 14, 15, 16, 17, 18, 19, 42, 43, 44, 45, 46, 47, 48, 49, 50, 51, 52, 53, 54] rfl (by decide +kernel)) (goodIn_sub (fun _ h => List.mem_cons_of_mem _ (List.mem_append_right _ h)) (by decide +kernel))
set_option maxRecDepth 20000 in
theorem gX9_at_X9_demandToken : GoodIn wsX9_at (wsV RX9 89 RX9 yX9_demandToken wsX9_demandToken) := goodIn_app (goodIn_of _ (by decide +kernel)) ggX9_at_X9_demandToken
set_option maxRecDepth 20000 in
theorem ggX9_at_X8_lengthOf : GoodIn wsX9_at wsX8_lengthOf := goodIn_r _ [23, 24, 25, 26, 27, 17, 28, 29, 50, 51, 52, 53, 54] rfl (by decide +kernel)
set_option maxRecDepth 20000 in
theorem gX9_at_X8_lengthOf : GoodIn wsX9_at (wsV RX9 104 RX8 yX8_lengthOf wsX8_lengthOf) := goodIn_app (goodIn_of _ (by decide +kernel)) ggX9_at_X8_lengthOf
set_option maxRecDepth 20000 in
theorem ggX9_at_X8_startOf : GoodIn wsX9_at wsX8_startOf := goodIn_r _ [33, 34, 50, 51, 52, 53, 54] rfl (by decide +kernel)
set_option maxRecDepth 20000 in
theorem gX9_at_X8_startOf : GoodIn wsX9_at (wsV RX9 110 RX8 yX8_startOf wsX8_startOf) := goodIn_app (goodIn_of _ (by decide +kernel)) ggX9_at_X8_startOf
set_option maxRecDepth 20000 in
theorem ggX9_at_X6_look : GoodIn wsX9_at wsX6_look := goodIn_r _ [39, 40, 41, 55, 56, 57] rfl (by decide +kernel)
set_option maxRecDepth 20000 in
theorem gX9_at_X6_look : GoodIn wsX9_at (wsV RX9 113 RX6 yX6_look wsX6_look) := goodIn_app (goodIn_of _ (by decide +kernel)) ggX9_at_X6_look
theorem dX9_at_0 : decode cX9_at 0 = .ok (.aload_n 0, 1) := by decide +kernel
theorem dX9_at_1 : decode cX9_at 1 = .ok (.iload_n 1, 1) := by decide +kernel
theorem dX9_at_2 : decode cX9_at 2 = .ok (.invokevirtual 89, 3) := by decide +kernel
theorem dX9_at_5 : decode cX9_at 5 = .ok (.iload_n 2, 1) := by decide +kernel
theorem dX9_at_6 : decode cX9_at 6 = .ok (.ifCond .lt 15, 3) := by decide +kernel
theorem dX9_at_9 : decode cX9_at 9 = .ok (.iload_n 2, 1) := by decide +kernel
theorem dX9_at_10 : decode cX9_at 10 = .ok (.aload_n 0, 1) := by decide +kernel
theorem dX9_at_11 : decode cX9_at 11 = .ok (.getfield 27, 3) := by decide +kernel
theorem dX9_at_14 : decode cX9_at 14 = .ok (.iload_n 1, 1) := by decide +kernel
theorem dX9_at_15 : decode cX9_at 15 = .ok (.invokevirtual 104, 3) := by decide +kernel
theorem dX9_at_18 : decode cX9_at 18 = .ok (.if_icmp .lt 11, 3) := by decide +kernel
theorem dX9_at_21 : decode cX9_at 21 = .ok (.new 107, 3) := by decide +kernel
theorem dX9_at_24 : decode cX9_at 24 = .ok (.dup, 1) := by decide +kernel
theorem dX9_at_25 : decode cX9_at 25 = .ok (.invokespecial 109, 3) := by decide +kernel
theorem dX9_at_28 : decode cX9_at 28 = .ok (.athrow, 1) := by decide +kernel
theorem dX9_at_29 : decode cX9_at 29 = .ok (.aload_n 0, 1) := by decide +kernel
theorem dX9_at_30 : decode cX9_at 30 = .ok (.getfield 20, 3) := by decide +kernel
theorem dX9_at_33 : decode cX9_at 33 = .ok (.aload_n 0, 1) := by decide +kernel
theorem dX9_at_34 : decode cX9_at 34 = .ok (.getfield 27, 3) := by decide +kernel
theorem dX9_at_37 : decode cX9_at 37 = .ok (.iload_n 1, 1) := by decide +kernel
theorem dX9_at_38 : decode cX9_at 38 = .ok (.invokevirtual 110, 3) := by decide +kernel
theorem dX9_at_41 : decode cX9_at 41 = .ok (.iload_n 2, 1) := by decide +kernel
theorem dX9_at_42 : decode cX9_at 42 = .ok (.iadd, 1) := by decide +kernel
theorem dX9_at_43 : decode cX9_at 43 = .ok (.invokevirtual 113, 3) := by decide +kernel
theorem dX9_at_46 : decode cX9_at 46 = .ok (.ireturn, 1) := by decide +kernel
set_option maxRecDepth 20000 in
theorem ggX9_same_X9_demandToken : GoodIn wsX9_same wsX9_demandToken := goodIn_ca (goodIn_r _ [6, 7, 8, 1, 9, 10, 11, 12, 13, 14, 15, 16, 17, 18, 47, 48, 49, 50, 51, 52, 53, 54, 55, 56, 57, 58, 59] rfl (by decide +kernel)) (goodIn_sub (fun _ h => List.mem_cons_of_mem _ (List.mem_append_right _ h)) (by decide +kernel))
set_option maxRecDepth 20000 in
theorem gX9_same_X9_demandToken : GoodIn wsX9_same (wsV RX9 89 RX9 yX9_demandToken wsX9_demandToken) := goodIn_app (goodIn_of _ (by decide +kernel)) ggX9_same_X9_demandToken
set_option maxRecDepth 20000 in
theorem ggX9_same_X8_isSpelled : GoodIn wsX9_same wsX8_isSpelled := goodIn_r _ [22, 23, 55, 56, 57, 58, 59] rfl (by decide +kernel)
set_option maxRecDepth 20000 in
theorem gX9_same_X8_isSpelled : GoodIn wsX9_same (wsV RX9 116 RX8 yX8_isSpelled wsX8_isSpelled) := goodIn_app (goodIn_of _ (by decide +kernel)) ggX9_same_X8_isSpelled
set_option maxRecDepth 20000 in
theorem ggX9_same_X9_areAlike : GoodIn wsX9_same wsX9_areAlike := goodIn_r _ [27, 1, 28, 29, 30, 31, 16, 32, 33, 34, 20, 21, 22, 23, 19, 35, 36, 37, 38, 39, 40, 41, 42, 43, 44, 45, 46, 47, 48, 49, 50, 51, 52, 53, 54, 55, 56, 57, 58, 59, 60, 61, 62] rfl (by decide +kernel)
set_option maxRecDepth 20000 in
theorem gX9_same_X9_areAlike : GoodIn wsX9_same (wsV RX9 119 RX9 yX9_areAlike wsX9_areAlike) := goodIn_app (goodIn_of _ (by decide +kernel)) ggX9_same_X9_areAlike
theorem dX9_same_0 : decode cX9_same 0 = .ok (.aload_n 0, 1) := by decide +kernel
theorem dX9_same_1 : decode cX9_same 1 = .ok (.iload_n 1, 1) := by decide +kernel
theorem dX9_same_2 : decode cX9_same 2 = .ok (.invokevirtual 89, 3) := by decide +kernel
theorem dX9_same_5 : decode cX9_same 5 = .ok (.aload_n 0, 1) := by decide +kernel
theorem dX9_same_6 : decode cX9_same 6 = .ok (.getfield 27, 3) := by decide +kernel
theorem dX9_same_9 : decode cX9_same 9 = .ok (.iload_n 1, 1) := by decide +kernel
theorem dX9_same_10 : decode cX9_same 10 = .ok (.invokevirtual 116, 3) := by decide +kernel
theorem dX9_same_13 : decode cX9_same 13 = .ok (.ifCond .ne 5, 3) := by decide +kernel
theorem dX9_same_16 : decode cX9_same 16 = .ok (.iconst (-1), 1) := by decide +kernel
theorem dX9_same_17 : decode cX9_same 17 = .ok (.ireturn, 1) := by decide +kernel
theorem dX9_same_18 : decode cX9_same 18 = .ok (.iconst 0, 1) := by decide +kernel
theorem dX9_same_19 : decode cX9_same 19 = .ok (.istore_n 2, 1) := by decide +kernel
theorem dX9_same_20 : decode cX9_same 20 = .ok (.iload_n 2, 1) := by decide +kernel
theorem dX9_same_21 : decode cX9_same 21 = .ok (.iload_n 1, 1) := by decide +kernel
theorem dX9_same_22 : decode cX9_same 22 = .ok (.if_icmp .ge 20, 3) := by decide +kernel
theorem dX9_same_25 : decode cX9_same 25 = .ok (.aload_n 0, 1) := by decide +kernel
theorem dX9_same_26 : decode cX9_same 26 = .ok (.iload_n 2, 1) := by decide +kernel
theorem dX9_same_27 : decode cX9_same 27 = .ok (.iload_n 1, 1) := by decide +kernel
theorem dX9_same_28 : decode cX9_same 28 = .ok (.invokevirtual 119, 3) := by decide +kernel
theorem dX9_same_31 : decode cX9_same 31 = .ok (.ifCond .eq 5, 3) := by decide +kernel
theorem dX9_same_34 : decode cX9_same 34 = .ok (.iload_n 2, 1) := by decide +kernel
theorem dX9_same_35 : decode cX9_same 35 = .ok (.ireturn, 1) := by decide +kernel
theorem dX9_same_36 : decode cX9_same 36 = .ok (.iinc 2 1, 3) := by decide +kernel
theorem dX9_same_39 : decode cX9_same 39 = .ok (.goto (-19), 3) := by decide +kernel
theorem dX9_same_42 : decode cX9_same 42 = .ok (.iconst (-1), 1) := by decide +kernel
theorem dX9_same_43 : decode cX9_same 43 = .ok (.ireturn, 1) := by decide +kernel
theorem dX9_gather_0 : decode cX9_gather 0 = .ok (.bipush 24, 2) := by decide +kernel
theorem dX9_gather_2 : decode cX9_gather 2 = .ok (.istore_n 2, 1) := by decide +kernel
theorem dX9_gather_3 : decode cX9_gather 3 = .ok (.iload_n 2, 1) := by decide +kernel
theorem dX9_gather_4 : decode cX9_gather 4 = .ok (.ifCond .lt 32, 3) := by decide +kernel
theorem dX9_gather_7 : decode cX9_gather 7 = .ok (.aload_n 0, 1) := by decide +kernel
theorem dX9_gather_8 : decode cX9_gather 8 = .ok (.getfield 10, 3) := by decide +kernel
theorem dX9_gather_11 : decode cX9_gather 11 = .ok (.aload_n 0, 1) := by decide +kernel
theorem dX9_gather_12 : decode cX9_gather 12 = .ok (.getfield 44, 3) := by decide +kernel
theorem dX9_gather_15 : decode cX9_gather 15 = .ok (.iload_n 1, 1) := by decide +kernel
theorem dX9_gather_16 : decode cX9_gather 16 = .ok (.iload_n 2, 1) := by decide +kernel
theorem dX9_gather_17 : decode cX9_gather 17 = .ok (.ishr, 1) := by decide +kernel
theorem dX9_gather_18 : decode cX9_gather 18 = .ok (.i2b, 1) := by decide +kernel
theorem dX9_gather_19 : decode cX9_gather 19 = .ok (.bastore, 1) := by decide +kernel
theorem dX9_gather_20 : decode cX9_gather 20 = .ok (.aload_n 0, 1) := by decide +kernel
theorem dX9_gather_21 : decode cX9_gather 21 = .ok (.dup, 1) := by decide +kernel
theorem dX9_gather_22 : decode cX9_gather 22 = .ok (.getfield 44, 3) := by decide +kernel
theorem dX9_gather_25 : decode cX9_gather 25 = .ok (.iconst 1, 1) := by decide +kernel
theorem dX9_gather_26 : decode cX9_gather 26 = .ok (.iadd, 1) := by decide +kernel
theorem dX9_gather_27 : decode cX9_gather 27 = .ok (.putfield 44, 3) := by decide +kernel
theorem dX9_gather_30 : decode cX9_gather 30 = .ok (.iinc 2 (-8), 3) := by decide +kernel
theorem dX9_gather_33 : decode cX9_gather 33 = .ok (.goto (-30), 3) := by decide +kernel
theorem dX9_gather_36 : decode cX9_gather 36 = .ok (.return_, 1) := by decide +kernel
theorem dX9_areCharacters_0 : decode cX9_areCharacters 0 = .ok (.iconst 0, 1) := by decide +kernel
theorem dX9_areCharacters_1 : decode cX9_areCharacters 1 = .ok (.istore_n 2, 1) := by decide +kernel
theorem dX9_areCharacters_2 : decode cX9_areCharacters 2 = .ok (.iload_n 2, 1) := by decide +kernel
theorem dX9_areCharacters_3 : decode cX9_areCharacters 3 = .ok (.iload_n 1, 1) := by decide +kernel
theorem dX9_areCharacters_4 : decode cX9_areCharacters 4 = .ok (.if_icmp .ge 17, 3) := by decide +kernel
theorem dX9_areCharacters_7 : decode cX9_areCharacters 7 = .ok (.aload_n 0, 1) := by decide +kernel
theorem dX9_areCharacters_8 : decode cX9_areCharacters 8 = .ok (.iload_n 2, 1) := by decide +kernel
theorem dX9_areCharacters_9 : decode cX9_areCharacters 9 = .ok (.baload, 1) := by decide +kernel
theorem dX9_areCharacters_10 : decode cX9_areCharacters 10 = .ok (.ifCond .gt 5, 3) := by decide +kernel
theorem dX9_areCharacters_13 : decode cX9_areCharacters 13 = .ok (.iconst 0, 1) := by decide +kernel
theorem dX9_areCharacters_14 : decode cX9_areCharacters 14 = .ok (.ireturn, 1) := by decide +kernel
theorem dX9_areCharacters_15 : decode cX9_areCharacters 15 = .ok (.iinc 2 1, 3) := by decide +kernel
theorem dX9_areCharacters_18 : decode cX9_areCharacters 18 = .ok (.goto (-16), 3) := by decide +kernel
theorem dX9_areCharacters_21 : decode cX9_areCharacters 21 = .ok (.iconst 1, 1) := by decide +kernel
theorem dX9_areCharacters_22 : decode cX9_areCharacters 22 = .ok (.ireturn, 1) := by decide +kernel
set_option maxRecDepth 20000 in
theorem ggX9_demandToken_X8_count : GoodIn wsX9_demandToken wsX8_count := goodIn_r _ [12, 13, 22, 23, 24, 25, 26] rfl (by decide +kernel)
set_option maxRecDepth 20000 in
theorem gX9_demandToken_X8_count : GoodIn wsX9_demandToken (wsV RX9 76 RX8 yX8_count wsX8_count) := goodIn_app (goodIn_of _ (by decide +kernel)) ggX9_demandToken_X8_count
theorem dX9_demandToken_0 : decode cX9_demandToken 0 = .ok (.iload_n 1, 1) := by decide +kernel
theorem dX9_demandToken_1 : decode cX9_demandToken 1 = .ok (.ifCond .lt 20, 3) := by decide +kernel
theorem dX9_demandToken_4 : decode cX9_demandToken 4 = .ok (.iload_n 1, 1) := by decide +kernel
theorem dX9_demandToken_5 : decode cX9_demandToken 5 = .ok (.aload_n 0, 1) := by decide +kernel
theorem dX9_demandToken_6 : decode cX9_demandToken 6 = .ok (.getfield 27, 3) := by decide +kernel
theorem dX9_demandToken_9 : decode cX9_demandToken 9 = .ok (.invokevirtual 76, 3) := by decide +kernel
theorem dX9_demandToken_12 : decode cX9_demandToken 12 = .ok (.sipush 8192, 3) := by decide +kernel
theorem dX9_demandToken_15 : decode cX9_demandToken 15 = .ok (.invokestatic 83, 3) := by decide +kernel
theorem dX9_demandToken_18 : decode cX9_demandToken 18 = .ok (.if_icmp .lt 11, 3) := by decide +kernel
theorem dX9_demandToken_21 : decode cX9_demandToken 21 = .ok (.new 107, 3) := by decide +kernel
theorem dX9_demandToken_24 : decode cX9_demandToken 24 = .ok (.dup, 1) := by decide +kernel
theorem dX9_demandToken_25 : decode cX9_demandToken 25 = .ok (.invokespecial 109, 3) := by decide +kernel
theorem dX9_demandToken_28 : decode cX9_demandToken 28 = .ok (.athrow, 1) := by decide +kernel
theorem dX9_demandToken_29 : decode cX9_demandToken 29 = .ok (.return_, 1) := by decide +kernel
set_option maxRecDepth 20000 in
theorem ggX9_areAlike_X8_lengthOf : GoodIn wsX9_areAlike wsX8_lengthOf := goodIn_r _ [7, 8, 9, 10, 11, 6, 12, 13, 35, 36, 37, 38, 39] rfl (by decide +kernel)
set_option maxRecDepth 20000 in
theorem gX9_areAlike_X8_lengthOf : GoodIn wsX9_areAlike (wsV RX9 104 RX8 yX8_lengthOf wsX8_lengthOf) := goodIn_app (goodIn_of _ (by decide +kernel)) ggX9_areAlike_X8_lengthOf
set_option maxRecDepth 20000 in
theorem ggX9_areAlike_X8_isSpelled : GoodIn wsX9_areAlike wsX8_isSpelled := goodIn_r _ [12, 13, 35, 36, 37, 38, 39] rfl (by decide +kernel)
set_option maxRecDepth 20000 in
theorem gX9_areAlike_X8_isSpelled : GoodIn wsX9_areAlike (wsV RX9 116 RX8 yX8_isSpelled wsX8_isSpelled) := goodIn_app (goodIn_of _ (by decide +kernel)) ggX9_areAlike_X8_isSpelled
set_option maxRecDepth 20000 in
theorem ggX9_areAlike_X8_startOf : GoodIn wsX9_areAlike wsX8_startOf := goodIn_r _ [18, 19, 35, 36, 37, 38, 39] rfl (by decide +kernel)
set_option maxRecDepth 20000 in
theorem gX9_areAlike_X8_startOf : GoodIn wsX9_areAlike (wsV RX9 110 RX8 yX8_startOf wsX8_startOf) := goodIn_app (goodIn_of _ (by decide +kernel)) ggX9_areAlike_X8_startOf
set_option maxRecDepth 20000 in
theorem ggX9_areAlike_X6_look : GoodIn wsX9_areAlike wsX6_look := goodIn_r _ [24, 25, 26, 40, 41, 42] rfl (by decide +kernel)
set_option maxRecDepth 20000 in
theorem gX9_areAlike_X6_look : GoodIn wsX9_areAlike (wsV RX9 113 RX6 yX6_look wsX6_look) := goodIn_app (goodIn_of _ (by decide +kernel)) ggX9_areAlike_X6_look
theorem dX9_areAlike_0 : decode cX9_areAlike 0 = .ok (.aload_n 0, 1) := by decide +kernel
theorem dX9_areAlike_1 : decode cX9_areAlike 1 = .ok (.getfield 27, 3) := by decide +kernel
theorem dX9_areAlike_4 : decode cX9_areAlike 4 = .ok (.iload_n 2, 1) := by decide +kernel
theorem dX9_areAlike_5 : decode cX9_areAlike 5 = .ok (.invokevirtual 104, 3) := by decide +kernel
theorem dX9_areAlike_8 : decode cX9_areAlike 8 = .ok (.istore_n 3, 1) := by decide +kernel
theorem dX9_areAlike_9 : decode cX9_areAlike 9 = .ok (.aload_n 0, 1) := by decide +kernel
theorem dX9_areAlike_10 : decode cX9_areAlike 10 = .ok (.getfield 27, 3) := by decide +kernel
theorem dX9_areAlike_13 : decode cX9_areAlike 13 = .ok (.iload_n 1, 1) := by decide +kernel
theorem dX9_areAlike_14 : decode cX9_areAlike 14 = .ok (.invokevirtual 116, 3) := by decide +kernel
theorem dX9_areAlike_17 : decode cX9_areAlike 17 = .ok (.ifCond .eq 15, 3) := by decide +kernel
theorem dX9_areAlike_20 : decode cX9_areAlike 20 = .ok (.aload_n 0, 1) := by decide +kernel
theorem dX9_areAlike_21 : decode cX9_areAlike 21 = .ok (.getfield 27, 3) := by decide +kernel
theorem dX9_areAlike_24 : decode cX9_areAlike 24 = .ok (.iload_n 1, 1) := by decide +kernel
theorem dX9_areAlike_25 : decode cX9_areAlike 25 = .ok (.invokevirtual 104, 3) := by decide +kernel
theorem dX9_areAlike_28 : decode cX9_areAlike 28 = .ok (.iload_n 3, 1) := by decide +kernel
theorem dX9_areAlike_29 : decode cX9_areAlike 29 = .ok (.if_icmp .eq 5, 3) := by decide +kernel
theorem dX9_areAlike_32 : decode cX9_areAlike 32 = .ok (.iconst 0, 1) := by decide +kernel
theorem dX9_areAlike_33 : decode cX9_areAlike 33 = .ok (.ireturn, 1) := by decide +kernel
theorem dX9_areAlike_34 : decode cX9_areAlike 34 = .ok (.iconst 0, 1) := by decide +kernel
theorem dX9_areAlike_35 : decode cX9_areAlike 35 = .ok (.istore 4, 2) := by decide +kernel
theorem dX9_areAlike_37 : decode cX9_areAlike 37 = .ok (.iload 4, 2) := by decide +kernel
theorem dX9_areAlike_39 : decode cX9_areAlike 39 = .ok (.iload_n 3, 1) := by decide +kernel
theorem dX9_areAlike_40 : decode cX9_areAlike 40 = .ok (.if_icmp .ge 50, 3) := by decide +kernel
theorem dX9_areAlike_43 : decode cX9_areAlike 43 = .ok (.aload_n 0, 1) := by decide +kernel
theorem dX9_areAlike_44 : decode cX9_areAlike 44 = .ok (.getfield 20, 3) := by decide +kernel
theorem dX9_areAlike_47 : decode cX9_areAlike 47 = .ok (.aload_n 0, 1) := by decide +kernel
theorem dX9_areAlike_48 : decode cX9_areAlike 48 = .ok (.getfield 27, 3) := by decide +kernel
theorem dX9_areAlike_51 : decode cX9_areAlike 51 = .ok (.iload_n 1, 1) := by decide +kernel
theorem dX9_areAlike_52 : decode cX9_areAlike 52 = .ok (.invokevirtual 110, 3) := by decide +kernel
theorem dX9_areAlike_55 : decode cX9_areAlike 55 = .ok (.iload 4, 2) := by decide +kernel
theorem dX9_areAlike_57 : decode cX9_areAlike 57 = .ok (.iadd, 1) := by decide +kernel
theorem dX9_areAlike_58 : decode cX9_areAlike 58 = .ok (.invokevirtual 113, 3) := by decide +kernel
theorem dX9_areAlike_61 : decode cX9_areAlike 61 = .ok (.aload_n 0, 1) := by decide +kernel
theorem dX9_areAlike_62 : decode cX9_areAlike 62 = .ok (.getfield 20, 3) := by decide +kernel
theorem dX9_areAlike_65 : decode cX9_areAlike 65 = .ok (.aload_n 0, 1) := by decide +kernel
theorem dX9_areAlike_66 : decode cX9_areAlike 66 = .ok (.getfield 27, 3) := by decide +kernel
theorem dX9_areAlike_69 : decode cX9_areAlike 69 = .ok (.iload_n 2, 1) := by decide +kernel
theorem dX9_areAlike_70 : decode cX9_areAlike 70 = .ok (.invokevirtual 110, 3) := by decide +kernel
theorem dX9_areAlike_73 : decode cX9_areAlike 73 = .ok (.iload 4, 2) := by decide +kernel
theorem dX9_areAlike_75 : decode cX9_areAlike 75 = .ok (.iadd, 1) := by decide +kernel
theorem dX9_areAlike_76 : decode cX9_areAlike 76 = .ok (.invokevirtual 113, 3) := by decide +kernel
theorem dX9_areAlike_79 : decode cX9_areAlike 79 = .ok (.if_icmp .eq 5, 3) := by decide +kernel
theorem dX9_areAlike_82 : decode cX9_areAlike 82 = .ok (.iconst 0, 1) := by decide +kernel
theorem dX9_areAlike_83 : decode cX9_areAlike 83 = .ok (.ireturn, 1) := by decide +kernel
theorem dX9_areAlike_84 : decode cX9_areAlike 84 = .ok (.iinc 4 1, 3) := by decide +kernel
theorem dX9_areAlike_87 : decode cX9_areAlike 87 = .ok (.goto (-50), 3) := by decide +kernel
theorem dX9_areAlike_90 : decode cX9_areAlike 90 = .ok (.iconst 1, 1) := by decide +kernel
theorem dX9_areAlike_91 : decode cX9_areAlike 91 = .ok (.ireturn, 1) := by decide +kernel
theorem dX9_digitOf_0 : decode cX9_digitOf 0 = .ok (.iload_n 0, 1) := by decide +kernel
theorem dX9_digitOf_1 : decode cX9_digitOf 1 = .ok (.bipush 48, 2) := by decide +kernel
theorem dX9_digitOf_3 : decode cX9_digitOf 3 = .ok (.if_icmp .lt 14, 3) := by decide +kernel
theorem dX9_digitOf_6 : decode cX9_digitOf 6 = .ok (.iload_n 0, 1) := by decide +kernel
theorem dX9_digitOf_7 : decode cX9_digitOf 7 = .ok (.bipush 57, 2) := by decide +kernel
theorem dX9_digitOf_9 : decode cX9_digitOf 9 = .ok (.if_icmp .gt 8, 3) := by decide +kernel
theorem dX9_digitOf_12 : decode cX9_digitOf 12 = .ok (.iload_n 0, 1) := by decide +kernel
theorem dX9_digitOf_13 : decode cX9_digitOf 13 = .ok (.bipush 48, 2) := by decide +kernel
theorem dX9_digitOf_15 : decode cX9_digitOf 15 = .ok (.isub, 1) := by decide +kernel
theorem dX9_digitOf_16 : decode cX9_digitOf 16 = .ok (.ireturn, 1) := by decide +kernel
theorem dX9_digitOf_17 : decode cX9_digitOf 17 = .ok (.iload_n 0, 1) := by decide +kernel
theorem dX9_digitOf_18 : decode cX9_digitOf 18 = .ok (.bipush 97, 2) := by decide +kernel
theorem dX9_digitOf_20 : decode cX9_digitOf 20 = .ok (.if_icmp .lt 17, 3) := by decide +kernel
theorem dX9_digitOf_23 : decode cX9_digitOf 23 = .ok (.iload_n 0, 1) := by decide +kernel
theorem dX9_digitOf_24 : decode cX9_digitOf 24 = .ok (.bipush 102, 2) := by decide +kernel
theorem dX9_digitOf_26 : decode cX9_digitOf 26 = .ok (.if_icmp .gt 11, 3) := by decide +kernel
theorem dX9_digitOf_29 : decode cX9_digitOf 29 = .ok (.iload_n 0, 1) := by decide +kernel
theorem dX9_digitOf_30 : decode cX9_digitOf 30 = .ok (.bipush 97, 2) := by decide +kernel
theorem dX9_digitOf_32 : decode cX9_digitOf 32 = .ok (.isub, 1) := by decide +kernel
theorem dX9_digitOf_33 : decode cX9_digitOf 33 = .ok (.bipush 10, 2) := by decide +kernel
theorem dX9_digitOf_35 : decode cX9_digitOf 35 = .ok (.iadd, 1) := by decide +kernel
theorem dX9_digitOf_36 : decode cX9_digitOf 36 = .ok (.ireturn, 1) := by decide +kernel
theorem dX9_digitOf_37 : decode cX9_digitOf 37 = .ok (.iload_n 0, 1) := by decide +kernel
theorem dX9_digitOf_38 : decode cX9_digitOf 38 = .ok (.bipush 65, 2) := by decide +kernel
theorem dX9_digitOf_40 : decode cX9_digitOf 40 = .ok (.if_icmp .lt 17, 3) := by decide +kernel
theorem dX9_digitOf_43 : decode cX9_digitOf 43 = .ok (.iload_n 0, 1) := by decide +kernel
theorem dX9_digitOf_44 : decode cX9_digitOf 44 = .ok (.bipush 70, 2) := by decide +kernel
theorem dX9_digitOf_46 : decode cX9_digitOf 46 = .ok (.if_icmp .gt 11, 3) := by decide +kernel
theorem dX9_digitOf_49 : decode cX9_digitOf 49 = .ok (.iload_n 0, 1) := by decide +kernel
theorem dX9_digitOf_50 : decode cX9_digitOf 50 = .ok (.bipush 65, 2) := by decide +kernel
theorem dX9_digitOf_52 : decode cX9_digitOf 52 = .ok (.isub, 1) := by decide +kernel
theorem dX9_digitOf_53 : decode cX9_digitOf 53 = .ok (.bipush 10, 2) := by decide +kernel
theorem dX9_digitOf_55 : decode cX9_digitOf 55 = .ok (.iadd, 1) := by decide +kernel
theorem dX9_digitOf_56 : decode cX9_digitOf 56 = .ok (.ireturn, 1) := by decide +kernel
theorem dX9_digitOf_57 : decode cX9_digitOf 57 = .ok (.bipush 16, 2) := by decide +kernel
theorem dX9_digitOf_59 : decode cX9_digitOf 59 = .ok (.ireturn, 1) := by decide +kernel
set_option maxRecDepth 20000 in
theorem ggX9_isDecimal_X9_digitOf : GoodIn wsX9_isDecimal wsX9_digitOf := goodIn_r _ [4] rfl (by decide +kernel)
set_option maxRecDepth 20000 in
theorem gX9_isDecimal_X9_digitOf : GoodIn wsX9_isDecimal (va_wsS RX9 123 yX9_digitOf wsX9_digitOf) := goodIn_app (goodIn_of _ (by decide +kernel)) ggX9_isDecimal_X9_digitOf
theorem dX9_isDecimal_0 : decode cX9_isDecimal 0 = .ok (.iload_n 0, 1) := by decide +kernel
theorem dX9_isDecimal_1 : decode cX9_isDecimal 1 = .ok (.invokestatic 123, 3) := by decide +kernel
theorem dX9_isDecimal_4 : decode cX9_isDecimal 4 = .ok (.bipush 10, 2) := by decide +kernel
theorem dX9_isDecimal_6 : decode cX9_isDecimal 6 = .ok (.if_icmp .ge 7, 3) := by decide +kernel
theorem dX9_isDecimal_9 : decode cX9_isDecimal 9 = .ok (.iconst 1, 1) := by decide +kernel
theorem dX9_isDecimal_10 : decode cX9_isDecimal 10 = .ok (.goto 4, 3) := by decide +kernel
theorem dX9_isDecimal_13 : decode cX9_isDecimal 13 = .ok (.iconst 0, 1) := by decide +kernel
theorem dX9_isDecimal_14 : decode cX9_isDecimal 14 = .ok (.ireturn, 1) := by decide +kernel
theorem dX9_isLineEnd_0 : decode cX9_isLineEnd 0 = .ok (.iload_n 0, 1) := by decide +kernel
theorem dX9_isLineEnd_1 : decode cX9_isLineEnd 1 = .ok (.bipush 10, 2) := by decide +kernel
theorem dX9_isLineEnd_3 : decode cX9_isLineEnd 3 = .ok (.if_icmp .eq 9, 3) := by decide +kernel
theorem dX9_isLineEnd_6 : decode cX9_isLineEnd 6 = .ok (.iload_n 0, 1) := by decide +kernel
theorem dX9_isLineEnd_7 : decode cX9_isLineEnd 7 = .ok (.bipush 13, 2) := by decide +kernel
theorem dX9_isLineEnd_9 : decode cX9_isLineEnd 9 = .ok (.if_icmp .ne 7, 3) := by decide +kernel
theorem dX9_isLineEnd_12 : decode cX9_isLineEnd 12 = .ok (.iconst 1, 1) := by decide +kernel
theorem dX9_isLineEnd_13 : decode cX9_isLineEnd 13 = .ok (.goto 4, 3) := by decide +kernel
theorem dX9_isLineEnd_16 : decode cX9_isLineEnd 16 = .ok (.iconst 0, 1) := by decide +kernel
theorem dX9_isLineEnd_17 : decode cX9_isLineEnd 17 = .ok (.ireturn, 1) := by decide +kernel
theorem dX10_init_0 : decode cX10_init 0 = .ok (.aload_n 0, 1) := by decide +kernel
theorem dX10_init_1 : decode cX10_init 1 = .ok (.invokespecial 1, 3) := by decide +kernel
theorem dX10_init_4 : decode cX10_init 4 = .ok (.aload_n 0, 1) := by decide +kernel
theorem dX10_init_5 : decode cX10_init 5 = .ok (.sipush 1200, 3) := by decide +kernel
theorem dX10_init_8 : decode cX10_init 8 = .ok (.newarray .int, 2) := by decide +kernel
theorem dX10_init_10 : decode cX10_init 10 = .ok (.putfield 7, 3) := by decide +kernel
theorem dX10_init_13 : decode cX10_init 13 = .ok (.aload_n 0, 1) := by decide +kernel
theorem dX10_init_14 : decode cX10_init 14 = .ok (.bipush 40, 2) := by decide +kernel
theorem dX10_init_16 : decode cX10_init 16 = .ok (.newarray .int, 2) := by decide +kernel
theorem dX10_init_18 : decode cX10_init 18 = .ok (.putfield 13, 3) := by decide +kernel
theorem dX10_init_21 : decode cX10_init 21 = .ok (.aload_n 0, 1) := by decide +kernel
theorem dX10_init_22 : decode cX10_init 22 = .ok (.sipush 520, 3) := by decide +kernel
theorem dX10_init_25 : decode cX10_init 25 = .ok (.newarray .int, 2) := by decide +kernel
theorem dX10_init_27 : decode cX10_init 27 = .ok (.putfield 16, 3) := by decide +kernel
theorem dX10_init_30 : decode cX10_init 30 = .ok (.aload_n 0, 1) := by decide +kernel
theorem dX10_init_31 : decode cX10_init 31 = .ok (.sipush 520, 3) := by decide +kernel
theorem dX10_init_34 : decode cX10_init 34 = .ok (.newarray .int, 2) := by decide +kernel
theorem dX10_init_36 : decode cX10_init 36 = .ok (.putfield 19, 3) := by decide +kernel
theorem dX10_init_39 : decode cX10_init 39 = .ok (.aload_n 0, 1) := by decide +kernel
theorem dX10_init_40 : decode cX10_init 40 = .ok (.sipush 520, 3) := by decide +kernel
theorem dX10_init_43 : decode cX10_init 43 = .ok (.newarray .int, 2) := by decide +kernel
theorem dX10_init_45 : decode cX10_init 45 = .ok (.putfield 22, 3) := by decide +kernel
theorem dX10_init_48 : decode cX10_init 48 = .ok (.aload_n 0, 1) := by decide +kernel
theorem dX10_init_49 : decode cX10_init 49 = .ok (.sipush 520, 3) := by decide +kernel
theorem dX10_init_52 : decode cX10_init 52 = .ok (.newarray .int, 2) := by decide +kernel
theorem dX10_init_54 : decode cX10_init 54 = .ok (.putfield 25, 3) := by decide +kernel
theorem dX10_init_57 : decode cX10_init 57 = .ok (.aload_n 0, 1) := by decide +kernel
theorem dX10_init_58 : decode cX10_init 58 = .ok (.sipush 520, 3) := by decide +kernel
theorem dX10_init_61 : decode cX10_init 61 = .ok (.newarray .int, 2) := by decide +kernel
theorem dX10_init_63 : decode cX10_init 63 = .ok (.putfield 28, 3) := by decide +kernel
theorem dX10_init_66 : decode cX10_init 66 = .ok (.aload_n 0, 1) := by decide +kernel
theorem dX10_init_67 : decode cX10_init 67 = .ok (.sipush 520, 3) := by decide +kernel
theorem dX10_init_70 : decode cX10_init 70 = .ok (.newarray .int, 2) := by decide +kernel
theorem dX10_init_72 : decode cX10_init 72 = .ok (.putfield 31, 3) := by decide +kernel
theorem dX10_init_75 : decode cX10_init 75 = .ok (.return_, 1) := by decide +kernel
theorem dX10_in_0 : decode cX10_in 0 = .ok (.iload_n 0, 1) := by decide +kernel
theorem dX10_in_1 : decode cX10_in 1 = .ok (.iload_n 1, 1) := by decide +kernel
theorem dX10_in_2 : decode cX10_in 2 = .ok (.if_icmp .lt 12, 3) := by decide +kernel
theorem dX10_in_5 : decode cX10_in 5 = .ok (.iload_n 0, 1) := by decide +kernel
theorem dX10_in_6 : decode cX10_in 6 = .ok (.iload_n 2, 1) := by decide +kernel
theorem dX10_in_7 : decode cX10_in 7 = .ok (.if_icmp .gt 7, 3) := by decide +kernel
theorem dX10_in_10 : decode cX10_in 10 = .ok (.iconst 1, 1) := by decide +kernel
theorem dX10_in_11 : decode cX10_in 11 = .ok (.goto 4, 3) := by decide +kernel
theorem dX10_in_14 : decode cX10_in 14 = .ok (.iconst 0, 1) := by decide +kernel
theorem dX10_in_15 : decode cX10_in 15 = .ok (.ireturn, 1) := by decide +kernel
theorem dX10_fail_0 : decode cX10_fail 0 = .ok (.aload_n 0, 1) := by decide +kernel
theorem dX10_fail_1 : decode cX10_fail 1 = .ok (.iload_n 1, 1) := by decide +kernel
theorem dX10_fail_2 : decode cX10_fail 2 = .ok (.putfield 34, 3) := by decide +kernel
theorem dX10_fail_5 : decode cX10_fail 5 = .ok (.iconst 0, 1) := by decide +kernel
theorem dX10_fail_6 : decode cX10_fail 6 = .ok (.ireturn, 1) := by decide +kernel
theorem dX10_trimmed_0 : decode cX10_trimmed 0 = .ok (.iload_n 1, 1) := by decide +kernel
theorem dX10_trimmed_1 : decode cX10_trimmed 1 = .ok (.istore_n 2, 1) := by decide +kernel
theorem dX10_trimmed_2 : decode cX10_trimmed 2 = .ok (.iload_n 2, 1) := by decide +kernel
theorem dX10_trimmed_3 : decode cX10_trimmed 3 = .ok (.ifCond .le 17, 3) := by decide +kernel
theorem dX10_trimmed_6 : decode cX10_trimmed 6 = .ok (.aload_n 0, 1) := by decide +kernel
theorem dX10_trimmed_7 : decode cX10_trimmed 7 = .ok (.iload_n 2, 1) := by decide +kernel
theorem dX10_trimmed_8 : decode cX10_trimmed 8 = .ok (.iconst 1, 1) := by decide +kernel
theorem dX10_trimmed_9 : decode cX10_trimmed 9 = .ok (.isub, 1) := by decide +kernel
theorem dX10_trimmed_10 : decode cX10_trimmed 10 = .ok (.iaload, 1) := by decide +kernel
theorem dX10_trimmed_11 : decode cX10_trimmed 11 = .ok (.ifCond .ne 9, 3) := by decide +kernel
theorem dX10_trimmed_14 : decode cX10_trimmed 14 = .ok (.iinc 2 (-1), 3) := by decide +kernel
theorem dX10_trimmed_17 : decode cX10_trimmed 17 = .ok (.goto (-15), 3) := by decide +kernel
theorem dX10_trimmed_20 : decode cX10_trimmed 20 = .ok (.iload_n 2, 1) := by decide +kernel
theorem dX10_trimmed_21 : decode cX10_trimmed 21 = .ok (.ireturn, 1) := by decide +kernel
set_option maxRecDepth 20000 in
theorem ggX10_grow_X10_trimmed : GoodIn wsX10_grow wsX10_trimmed := goodIn_r _ [5] rfl (by decide +kernel)
set_option maxRecDepth 20000 in
theorem gX10_grow_X10_trimmed : GoodIn wsX10_grow (va_wsS RX10 51 yX10_trimmed wsX10_trimmed) := goodIn_app (goodIn_of _ (by decide +kernel)) ggX10_grow_X10_trimmed
theorem dX10_grow_0 : decode cX10_grow 0 = .ok (.iload_n 3, 1) := by decide +kernel
theorem dX10_grow_1 : decode cX10_grow 1 = .ok (.i2l, 1) := by decide +kernel
theorem dX10_grow_2 : decode cX10_grow 2 = .ok (.lstore 4, 2) := by decide +kernel
theorem dX10_grow_4 : decode cX10_grow 4 = .ok (.iconst 0, 1) := by decide +kernel
theorem dX10_grow_5 : decode cX10_grow 5 = .ok (.istore 6, 2) := by decide +kernel
theorem dX10_grow_7 : decode cX10_grow 7 = .ok (.iload 6, 2) := by decide +kernel
theorem dX10_grow_9 : decode cX10_grow 9 = .ok (.iload_n 1, 1) := by decide +kernel
theorem dX10_grow_10 : decode cX10_grow 10 = .ok (.if_icmp .ge 40, 3) := by decide +kernel
theorem dX10_grow_13 : decode cX10_grow 13 = .ok (.aload_n 0, 1) := by decide +kernel
theorem dX10_grow_14 : decode cX10_grow 14 = .ok (.iload 6, 2) := by decide +kernel
theorem dX10_grow_16 : decode cX10_grow 16 = .ok (.iaload, 1) := by decide +kernel
theorem dX10_grow_17 : decode cX10_grow 17 = .ok (.i2l, 1) := by decide +kernel
theorem dX10_grow_18 : decode cX10_grow 18 = .ok (.iload_n 2, 1) := by decide +kernel
theorem dX10_grow_19 : decode cX10_grow 19 = .ok (.i2l, 1) := by decide +kernel
theorem dX10_grow_20 : decode cX10_grow 20 = .ok (.lmul, 1) := by decide +kernel
theorem dX10_grow_21 : decode cX10_grow 21 = .ok (.lload 4, 2) := by decide +kernel
theorem dX10_grow_23 : decode cX10_grow 23 = .ok (.ladd, 1) := by decide +kernel
theorem dX10_grow_24 : decode cX10_grow 24 = .ok (.lstore 7, 2) := by decide +kernel
theorem dX10_grow_26 : decode cX10_grow 26 = .ok (.aload_n 0, 1) := by decide +kernel
theorem dX10_grow_27 : decode cX10_grow 27 = .ok (.iload 6, 2) := by decide +kernel
theorem dX10_grow_29 : decode cX10_grow 29 = .ok (.lload 7, 2) := by decide +kernel
theorem dX10_grow_31 : decode cX10_grow 31 = .ok (.ldc2_w 49, 3) := by decide +kernel
theorem dX10_grow_34 : decode cX10_grow 34 = .ok (.land, 1) := by decide +kernel
theorem dX10_grow_35 : decode cX10_grow 35 = .ok (.l2i, 1) := by decide +kernel
theorem dX10_grow_36 : decode cX10_grow 36 = .ok (.iastore, 1) := by decide +kernel
theorem dX10_grow_37 : decode cX10_grow 37 = .ok (.lload 7, 2) := by decide +kernel
theorem dX10_grow_39 : decode cX10_grow 39 = .ok (.bipush 16, 2) := by decide +kernel
theorem dX10_grow_41 : decode cX10_grow 41 = .ok (.lshr, 1) := by decide +kernel
theorem dX10_grow_42 : decode cX10_grow 42 = .ok (.lstore 4, 2) := by decide +kernel
theorem dX10_grow_44 : decode cX10_grow 44 = .ok (.iinc 6 1, 3) := by decide +kernel
theorem dX10_grow_47 : decode cX10_grow 47 = .ok (.goto (-40), 3) := by decide +kernel
theorem dX10_grow_50 : decode cX10_grow 50 = .ok (.aload_n 0, 1) := by decide +kernel
theorem dX10_grow_51 : decode cX10_grow 51 = .ok (.iload_n 1, 1) := by decide +kernel
theorem dX10_grow_52 : decode cX10_grow 52 = .ok (.lload 4, 2) := by decide +kernel
theorem dX10_grow_54 : decode cX10_grow 54 = .ok (.l2i, 1) := by decide +kernel
theorem dX10_grow_55 : decode cX10_grow 55 = .ok (.iastore, 1) := by decide +kernel
theorem dX10_grow_56 : decode cX10_grow 56 = .ok (.aload_n 0, 1) := by decide +kernel
theorem dX10_grow_57 : decode cX10_grow 57 = .ok (.iload_n 1, 1) := by decide +kernel
theorem dX10_grow_58 : decode cX10_grow 58 = .ok (.iconst 1, 1) := by decide +kernel
theorem dX10_grow_59 : decode cX10_grow 59 = .ok (.iadd, 1) := by decide +kernel
theorem dX10_grow_60 : decode cX10_grow 60 = .ok (.invokestatic 51, 3) := by decide +kernel
theorem dX10_grow_63 : decode cX10_grow 63 = .ok (.ireturn, 1) := by decide +kernel
set_option maxRecDepth 20000 in
theorem ggX10_fives_X10_grow : GoodIn wsX10_fives wsX10_grow := goodIn_r _ [4, 5, 6, 7, 3, 8] rfl (by decide +kernel)
set_option maxRecDepth 20000 in
theorem gX10_fives_X10_grow : GoodIn wsX10_fives (va_wsS RX10 55 yX10_grow wsX10_grow) := goodIn_app (goodIn_of _ (by decide +kernel)) ggX10_fives_X10_grow
theorem dX10_fives_0 : decode cX10_fives 0 = .ok (.iload_n 1, 1) := by decide +kernel
theorem dX10_fives_1 : decode cX10_fives 1 = .ok (.istore_n 3, 1) := by decide +kernel
theorem dX10_fives_2 : decode cX10_fives 2 = .ok (.iconst 0, 1) := by decide +kernel
theorem dX10_fives_3 : decode cX10_fives 3 = .ok (.istore 4, 2) := by decide +kernel
theorem dX10_fives_5 : decode cX10_fives 5 = .ok (.iload 4, 2) := by decide +kernel
theorem dX10_fives_7 : decode cX10_fives 7 = .ok (.iload_n 2, 1) := by decide +kernel
theorem dX10_fives_8 : decode cX10_fives 8 = .ok (.if_icmp .ge 17, 3) := by decide +kernel
theorem dX10_fives_11 : decode cX10_fives 11 = .ok (.aload_n 0, 1) := by decide +kernel
theorem dX10_fives_12 : decode cX10_fives 12 = .ok (.iload_n 3, 1) := by decide +kernel
theorem dX10_fives_13 : decode cX10_fives 13 = .ok (.iconst 5, 1) := by decide +kernel
theorem dX10_fives_14 : decode cX10_fives 14 = .ok (.iconst 0, 1) := by decide +kernel
theorem dX10_fives_15 : decode cX10_fives 15 = .ok (.invokestatic 55, 3) := by decide +kernel
theorem dX10_fives_18 : decode cX10_fives 18 = .ok (.istore_n 3, 1) := by decide +kernel
theorem dX10_fives_19 : decode cX10_fives 19 = .ok (.iinc 4 1, 3) := by decide +kernel
theorem dX10_fives_22 : decode cX10_fives 22 = .ok (.goto (-17), 3) := by decide +kernel
theorem dX10_fives_25 : decode cX10_fives 25 = .ok (.iload_n 3, 1) := by decide +kernel
theorem dX10_fives_26 : decode cX10_fives 26 = .ok (.ireturn, 1) := by decide +kernel
set_option maxRecDepth 20000 in
theorem ggX10_set_X10_trimmed : GoodIn wsX10_set wsX10_trimmed := goodIn_r _ [5] rfl (by decide +kernel)
set_option maxRecDepth 20000 in
theorem gX10_set_X10_trimmed : GoodIn wsX10_set (va_wsS RX10 51 yX10_trimmed wsX10_trimmed) := goodIn_app (goodIn_of _ (by decide +kernel)) ggX10_set_X10_trimmed
theorem dX10_set_0 : decode cX10_set 0 = .ok (.iconst 0, 1) := by decide +kernel
theorem dX10_set_1 : decode cX10_set 1 = .ok (.istore_n 3, 1) := by decide +kernel
theorem dX10_set_2 : decode cX10_set 2 = .ok (.iload_n 3, 1) := by decide +kernel
theorem dX10_set_3 : decode cX10_set 3 = .ok (.iconst 4, 1) := by decide +kernel
theorem dX10_set_4 : decode cX10_set 4 = .ok (.if_icmp .ge 23, 3) := by decide +kernel
theorem dX10_set_7 : decode cX10_set 7 = .ok (.aload_n 0, 1) := by decide +kernel
theorem dX10_set_8 : decode cX10_set 8 = .ok (.iload_n 3, 1) := by decide +kernel
theorem dX10_set_9 : decode cX10_set 9 = .ok (.lload_n 1, 1) := by decide +kernel
theorem dX10_set_10 : decode cX10_set 10 = .ok (.bipush 16, 2) := by decide +kernel
theorem dX10_set_12 : decode cX10_set 12 = .ok (.iload_n 3, 1) := by decide +kernel
theorem dX10_set_13 : decode cX10_set 13 = .ok (.imul, 1) := by decide +kernel
theorem dX10_set_14 : decode cX10_set 14 = .ok (.lshr, 1) := by decide +kernel
theorem dX10_set_15 : decode cX10_set 15 = .ok (.ldc2_w 49, 3) := by decide +kernel
theorem dX10_set_18 : decode cX10_set 18 = .ok (.land, 1) := by decide +kernel
theorem dX10_set_19 : decode cX10_set 19 = .ok (.l2i, 1) := by decide +kernel
theorem dX10_set_20 : decode cX10_set 20 = .ok (.iastore, 1) := by decide +kernel
theorem dX10_set_21 : decode cX10_set 21 = .ok (.iinc 3 1, 3) := by decide +kernel
theorem dX10_set_24 : decode cX10_set 24 = .ok (.goto (-22), 3) := by decide +kernel
theorem dX10_set_27 : decode cX10_set 27 = .ok (.aload_n 0, 1) := by decide +kernel
theorem dX10_set_28 : decode cX10_set 28 = .ok (.iconst 4, 1) := by decide +kernel
theorem dX10_set_29 : decode cX10_set 29 = .ok (.invokestatic 51, 3) := by decide +kernel
theorem dX10_set_32 : decode cX10_set 32 = .ok (.ireturn, 1) := by decide +kernel
set_option maxRecDepth 20000 in
theorem ggX10_shifted_X10_grow : GoodIn wsX10_shifted wsX10_grow := goodIn_r _ [4, 5, 6, 7, 3, 8] rfl (by decide +kernel)
set_option maxRecDepth 20000 in
theorem gX10_shifted_X10_grow : GoodIn wsX10_shifted (va_wsS RX10 55 yX10_grow wsX10_grow) := goodIn_app (goodIn_of _ (by decide +kernel)) ggX10_shifted_X10_grow
theorem dX10_shifted_0 : decode cX10_shifted 0 = .ok (.iload_n 2, 1) := by decide +kernel
theorem dX10_shifted_1 : decode cX10_shifted 1 = .ok (.bipush 16, 2) := by decide +kernel
theorem dX10_shifted_3 : decode cX10_shifted 3 = .ok (.idiv, 1) := by decide +kernel
theorem dX10_shifted_4 : decode cX10_shifted 4 = .ok (.istore_n 3, 1) := by decide +kernel
theorem dX10_shifted_5 : decode cX10_shifted 5 = .ok (.iload_n 2, 1) := by decide +kernel
theorem dX10_shifted_6 : decode cX10_shifted 6 = .ok (.bipush 16, 2) := by decide +kernel
theorem dX10_shifted_8 : decode cX10_shifted 8 = .ok (.iload_n 3, 1) := by decide +kernel
theorem dX10_shifted_9 : decode cX10_shifted 9 = .ok (.imul, 1) := by decide +kernel
theorem dX10_shifted_10 : decode cX10_shifted 10 = .ok (.isub, 1) := by decide +kernel
theorem dX10_shifted_11 : decode cX10_shifted 11 = .ok (.istore 4, 2) := by decide +kernel
theorem dX10_shifted_13 : decode cX10_shifted 13 = .ok (.iload_n 1, 1) := by decide +kernel
theorem dX10_shifted_14 : decode cX10_shifted 14 = .ok (.iconst 1, 1) := by decide +kernel
theorem dX10_shifted_15 : decode cX10_shifted 15 = .ok (.isub, 1) := by decide +kernel
theorem dX10_shifted_16 : decode cX10_shifted 16 = .ok (.istore 5, 2) := by decide +kernel
theorem dX10_shifted_18 : decode cX10_shifted 18 = .ok (.iload 5, 2) := by decide +kernel
theorem dX10_shifted_20 : decode cX10_shifted 20 = .ok (.ifCond .lt 19, 3) := by decide +kernel
theorem dX10_shifted_23 : decode cX10_shifted 23 = .ok (.aload_n 0, 1) := by decide +kernel
theorem dX10_shifted_24 : decode cX10_shifted 24 = .ok (.iload 5, 2) := by decide +kernel
theorem dX10_shifted_26 : decode cX10_shifted 26 = .ok (.iload_n 3, 1) := by decide +kernel
theorem dX10_shifted_27 : decode cX10_shifted 27 = .ok (.iadd, 1) := by decide +kernel
theorem dX10_shifted_28 : decode cX10_shifted 28 = .ok (.aload_n 0, 1) := by decide +kernel
theorem dX10_shifted_29 : decode cX10_shifted 29 = .ok (.iload 5, 2) := by decide +kernel
theorem dX10_shifted_31 : decode cX10_shifted 31 = .ok (.iaload, 1) := by decide +kernel
theorem dX10_shifted_32 : decode cX10_shifted 32 = .ok (.iastore, 1) := by decide +kernel
theorem dX10_shifted_33 : decode cX10_shifted 33 = .ok (.iinc 5 (-1), 3) := by decide +kernel
theorem dX10_shifted_36 : decode cX10_shifted 36 = .ok (.goto (-18), 3) := by decide +kernel
theorem dX10_shifted_39 : decode cX10_shifted 39 = .ok (.iconst 0, 1) := by decide +kernel
theorem dX10_shifted_40 : decode cX10_shifted 40 = .ok (.istore 5, 2) := by decide +kernel
theorem dX10_shifted_42 : decode cX10_shifted 42 = .ok (.iload 5, 2) := by decide +kernel
theorem dX10_shifted_44 : decode cX10_shifted 44 = .ok (.iload_n 3, 1) := by decide +kernel
theorem dX10_shifted_45 : decode cX10_shifted 45 = .ok (.if_icmp .ge 14, 3) := by decide +kernel
theorem dX10_shifted_48 : decode cX10_shifted 48 = .ok (.aload_n 0, 1) := by decide +kernel
theorem dX10_shifted_49 : decode cX10_shifted 49 = .ok (.iload 5, 2) := by decide +kernel
theorem dX10_shifted_51 : decode cX10_shifted 51 = .ok (.iconst 0, 1) := by decide +kernel
theorem dX10_shifted_52 : decode cX10_shifted 52 = .ok (.iastore, 1) := by decide +kernel
theorem dX10_shifted_53 : decode cX10_shifted 53 = .ok (.iinc 5 1, 3) := by decide +kernel
theorem dX10_shifted_56 : decode cX10_shifted 56 = .ok (.goto (-14), 3) := by decide +kernel
theorem dX10_shifted_59 : decode cX10_shifted 59 = .ok (.aload_n 0, 1) := by decide +kernel
theorem dX10_shifted_60 : decode cX10_shifted 60 = .ok (.iload_n 1, 1) := by decide +kernel
theorem dX10_shifted_61 : decode cX10_shifted 61 = .ok (.iload_n 3, 1) := by decide +kernel
theorem dX10_shifted_62 : decode cX10_shifted 62 = .ok (.iadd, 1) := by decide +kernel
theorem dX10_shifted_63 : decode cX10_shifted 63 = .ok (.iconst 1, 1) := by decide +kernel
theorem dX10_shifted_64 : decode cX10_shifted 64 = .ok (.iload 4, 2) := by decide +kernel
theorem dX10_shifted_66 : decode cX10_shifted 66 = .ok (.ishl, 1) := by decide +kernel
theorem dX10_shifted_67 : decode cX10_shifted 67 = .ok (.iconst 0, 1) := by decide +kernel
theorem dX10_shifted_68 : decode cX10_shifted 68 = .ok (.invokestatic 55, 3) := by decide +kernel
theorem dX10_shifted_71 : decode cX10_shifted 71 = .ok (.ireturn, 1) := by decide +kernel
set_option maxRecDepth 20000 in
theorem ggX10_times_X10_trimmed : GoodIn wsX10_times wsX10_trimmed := goodIn_r _ [5] rfl (by decide +kernel)
set_option maxRecDepth 20000 in
theorem gX10_times_X10_trimmed : GoodIn wsX10_times (va_wsS RX10 51 yX10_trimmed wsX10_trimmed) := goodIn_app (goodIn_of _ (by decide +kernel)) ggX10_times_X10_trimmed
theorem dX10_times_0 : decode cX10_times 0 = .ok (.iconst 0, 1) := by decide +kernel
theorem dX10_times_1 : decode cX10_times 1 = .ok (.istore 6, 2) := by decide +kernel
theorem dX10_times_3 : decode cX10_times 3 = .ok (.iload 6, 2) := by decide +kernel
theorem dX10_times_5 : decode cX10_times 5 = .ok (.iload_n 2, 1) := by decide +kernel
theorem dX10_times_6 : decode cX10_times 6 = .ok (.iconst 5, 1) := by decide +kernel
theorem dX10_times_7 : decode cX10_times 7 = .ok (.iadd, 1) := by decide +kernel
theorem dX10_times_8 : decode cX10_times 8 = .ok (.if_icmp .ge 15, 3) := by decide +kernel
theorem dX10_times_11 : decode cX10_times 11 = .ok (.aload 5, 2) := by decide +kernel
theorem dX10_times_13 : decode cX10_times 13 = .ok (.iload 6, 2) := by decide +kernel
theorem dX10_times_15 : decode cX10_times 15 = .ok (.iconst 0, 1) := by decide +kernel
theorem dX10_times_16 : decode cX10_times 16 = .ok (.iastore, 1) := by decide +kernel
theorem dX10_times_17 : decode cX10_times 17 = .ok (.iinc 6 1, 3) := by decide +kernel
theorem dX10_times_20 : decode cX10_times 20 = .ok (.goto (-17), 3) := by decide +kernel
theorem dX10_times_23 : decode cX10_times 23 = .ok (.iconst 0, 1) := by decide +kernel
theorem dX10_times_24 : decode cX10_times 24 = .ok (.istore 6, 2) := by decide +kernel
theorem dX10_times_26 : decode cX10_times 26 = .ok (.iload 6, 2) := by decide +kernel
theorem dX10_times_28 : decode cX10_times 28 = .ok (.iconst 4, 1) := by decide +kernel
theorem dX10_times_29 : decode cX10_times 29 = .ok (.if_icmp .ge 95, 3) := by decide +kernel
theorem dX10_times_32 : decode cX10_times 32 = .ok (.lload_n 3, 1) := by decide +kernel
theorem dX10_times_33 : decode cX10_times 33 = .ok (.bipush 16, 2) := by decide +kernel
theorem dX10_times_35 : decode cX10_times 35 = .ok (.iload 6, 2) := by decide +kernel
theorem dX10_times_37 : decode cX10_times 37 = .ok (.imul, 1) := by decide +kernel
theorem dX10_times_38 : decode cX10_times 38 = .ok (.lshr, 1) := by decide +kernel
theorem dX10_times_39 : decode cX10_times 39 = .ok (.ldc2_w 49, 3) := by decide +kernel
theorem dX10_times_42 : decode cX10_times 42 = .ok (.land, 1) := by decide +kernel
theorem dX10_times_43 : decode cX10_times 43 = .ok (.lstore 7, 2) := by decide +kernel
theorem dX10_times_45 : decode cX10_times 45 = .ok (.lconst 0, 1) := by decide +kernel
theorem dX10_times_46 : decode cX10_times 46 = .ok (.lstore 9, 2) := by decide +kernel
theorem dX10_times_48 : decode cX10_times 48 = .ok (.iconst 0, 1) := by decide +kernel
theorem dX10_times_49 : decode cX10_times 49 = .ok (.istore 11, 2) := by decide +kernel
theorem dX10_times_51 : decode cX10_times 51 = .ok (.iload 11, 2) := by decide +kernel
theorem dX10_times_53 : decode cX10_times 53 = .ok (.iload_n 2, 1) := by decide +kernel
theorem dX10_times_54 : decode cX10_times 54 = .ok (.if_icmp .gt 64, 3) := by decide +kernel
theorem dX10_times_57 : decode cX10_times 57 = .ok (.aload 5, 2) := by decide +kernel
theorem dX10_times_59 : decode cX10_times 59 = .ok (.iload 11, 2) := by decide +kernel
theorem dX10_times_61 : decode cX10_times 61 = .ok (.iload 6, 2) := by decide +kernel
theorem dX10_times_63 : decode cX10_times 63 = .ok (.iadd, 1) := by decide +kernel
theorem dX10_times_64 : decode cX10_times 64 = .ok (.iaload, 1) := by decide +kernel
theorem dX10_times_65 : decode cX10_times 65 = .ok (.i2l, 1) := by decide +kernel
theorem dX10_times_66 : decode cX10_times 66 = .ok (.lload 9, 2) := by decide +kernel
theorem dX10_times_68 : decode cX10_times 68 = .ok (.ladd, 1) := by decide +kernel
theorem dX10_times_69 : decode cX10_times 69 = .ok (.iload 11, 2) := by decide +kernel
theorem dX10_times_71 : decode cX10_times 71 = .ok (.iload_n 2, 1) := by decide +kernel
theorem dX10_times_72 : decode cX10_times 72 = .ok (.if_icmp .ge 14, 3) := by decide +kernel
theorem dX10_times_75 : decode cX10_times 75 = .ok (.aload_n 1, 1) := by decide +kernel
theorem dX10_times_76 : decode cX10_times 76 = .ok (.iload 11, 2) := by decide +kernel
theorem dX10_times_78 : decode cX10_times 78 = .ok (.iaload, 1) := by decide +kernel
theorem dX10_times_79 : decode cX10_times 79 = .ok (.i2l, 1) := by decide +kernel
theorem dX10_times_80 : decode cX10_times 80 = .ok (.lload 7, 2) := by decide +kernel
theorem dX10_times_82 : decode cX10_times 82 = .ok (.lmul, 1) := by decide +kernel
theorem dX10_times_83 : decode cX10_times 83 = .ok (.goto 4, 3) := by decide +kernel
theorem dX10_times_86 : decode cX10_times 86 = .ok (.lconst 0, 1) := by decide +kernel
theorem dX10_times_87 : decode cX10_times 87 = .ok (.ladd, 1) := by decide +kernel
theorem dX10_times_88 : decode cX10_times 88 = .ok (.lstore 12, 2) := by decide +kernel
theorem dX10_times_90 : decode cX10_times 90 = .ok (.aload 5, 2) := by decide +kernel
theorem dX10_times_92 : decode cX10_times 92 = .ok (.iload 11, 2) := by decide +kernel
theorem dX10_times_94 : decode cX10_times 94 = .ok (.iload 6, 2) := by decide +kernel
theorem dX10_times_96 : decode cX10_times 96 = .ok (.iadd, 1) := by decide +kernel
theorem dX10_times_97 : decode cX10_times 97 = .ok (.lload 12, 2) := by decide +kernel
theorem dX10_times_99 : decode cX10_times 99 = .ok (.ldc2_w 49, 3) := by decide +kernel
theorem dX10_times_102 : decode cX10_times 102 = .ok (.land, 1) := by decide +kernel
theorem dX10_times_103 : decode cX10_times 103 = .ok (.l2i, 1) := by decide +kernel
theorem dX10_times_104 : decode cX10_times 104 = .ok (.iastore, 1) := by decide +kernel
theorem dX10_times_105 : decode cX10_times 105 = .ok (.lload 12, 2) := by decide +kernel
theorem dX10_times_107 : decode cX10_times 107 = .ok (.bipush 16, 2) := by decide +kernel
theorem dX10_times_109 : decode cX10_times 109 = .ok (.lshr, 1) := by decide +kernel
theorem dX10_times_110 : decode cX10_times 110 = .ok (.lstore 9, 2) := by decide +kernel
theorem dX10_times_112 : decode cX10_times 112 = .ok (.iinc 11 1, 3) := by decide +kernel
theorem dX10_times_115 : decode cX10_times 115 = .ok (.goto (-64), 3) := by decide +kernel
theorem dX10_times_118 : decode cX10_times 118 = .ok (.iinc 6 1, 3) := by decide +kernel
theorem dX10_times_121 : decode cX10_times 121 = .ok (.goto (-95), 3) := by decide +kernel
theorem dX10_times_124 : decode cX10_times 124 = .ok (.aload 5, 2) := by decide +kernel
theorem dX10_times_126 : decode cX10_times 126 = .ok (.iload_n 2, 1) := by decide +kernel
theorem dX10_times_127 : decode cX10_times 127 = .ok (.iconst 5, 1) := by decide +kernel
theorem dX10_times_128 : decode cX10_times 128 = .ok (.iadd, 1) := by decide +kernel
theorem dX10_times_129 : decode cX10_times 129 = .ok (.invokestatic 51, 3) := by decide +kernel
theorem dX10_times_132 : decode cX10_times 132 = .ok (.ireturn, 1) := by decide +kernel
set_option maxRecDepth 20000 in
theorem ggX10_compare_X10_shifted : GoodIn wsX10_compare wsX10_shifted := goodIn_r _ [13, 14, 15, 12, 16, 17, 18, 19, 20] rfl (by decide +kernel)
set_option maxRecDepth 20000 in
theorem gX10_compare_X10_shifted : GoodIn wsX10_compare (va_wsS RX10 65 yX10_shifted wsX10_shifted) := goodIn_app (goodIn_of _ (by decide +kernel)) ggX10_compare_X10_shifted
set_option maxRecDepth 20000 in
theorem ggX10_compare_X10_times : GoodIn wsX10_compare wsX10_times := goodIn_r _ [24, 17, 18, 19, 12, 20] rfl (by decide +kernel)
set_option maxRecDepth 20000 in
theorem gX10_compare_X10_times : GoodIn wsX10_compare (wsV RX10 75 RX10 yX10_times wsX10_times) := goodIn_app (goodIn_of _ (by decide +kernel)) ggX10_compare_X10_times
theorem dX10_compare_0 : decode cX10_compare 0 = .ok (.aload_n 0, 1) := by decide +kernel
theorem dX10_compare_1 : decode cX10_compare 1 = .ok (.getfield 59, 3) := by decide +kernel
theorem dX10_compare_4 : decode cX10_compare 4 = .ok (.iload_n 3, 1) := by decide +kernel
theorem dX10_compare_5 : decode cX10_compare 5 = .ok (.isub, 1) := by decide +kernel
theorem dX10_compare_6 : decode cX10_compare 6 = .ok (.istore 4, 2) := by decide +kernel
theorem dX10_compare_8 : decode cX10_compare 8 = .ok (.iconst 0, 1) := by decide +kernel
theorem dX10_compare_9 : decode cX10_compare 9 = .ok (.istore 5, 2) := by decide +kernel
theorem dX10_compare_11 : decode cX10_compare 11 = .ok (.iload 5, 2) := by decide +kernel
theorem dX10_compare_13 : decode cX10_compare 13 = .ok (.aload_n 0, 1) := by decide +kernel
theorem dX10_compare_14 : decode cX10_compare 14 = .ok (.getfield 62, 3) := by decide +kernel
theorem dX10_compare_17 : decode cX10_compare 17 = .ok (.if_icmp .ge 23, 3) := by decide +kernel
theorem dX10_compare_20 : decode cX10_compare 20 = .ok (.aload_n 0, 1) := by decide +kernel
theorem dX10_compare_21 : decode cX10_compare 21 = .ok (.getfield 25, 3) := by decide +kernel
theorem dX10_compare_24 : decode cX10_compare 24 = .ok (.iload 5, 2) := by decide +kernel
theorem dX10_compare_26 : decode cX10_compare 26 = .ok (.aload_n 0, 1) := by decide +kernel
theorem dX10_compare_27 : decode cX10_compare 27 = .ok (.getfield 16, 3) := by decide +kernel
theorem dX10_compare_30 : decode cX10_compare 30 = .ok (.iload 5, 2) := by decide +kernel
theorem dX10_compare_32 : decode cX10_compare 32 = .ok (.iaload, 1) := by decide +kernel
theorem dX10_compare_33 : decode cX10_compare 33 = .ok (.iastore, 1) := by decide +kernel
theorem dX10_compare_34 : decode cX10_compare 34 = .ok (.iinc 5 1, 3) := by decide +kernel
theorem dX10_compare_37 : decode cX10_compare 37 = .ok (.goto (-26), 3) := by decide +kernel
theorem dX10_compare_40 : decode cX10_compare 40 = .ok (.aload_n 0, 1) := by decide +kernel
theorem dX10_compare_41 : decode cX10_compare 41 = .ok (.iload 4, 2) := by decide +kernel
theorem dX10_compare_43 : decode cX10_compare 43 = .ok (.ifCond .le 26, 3) := by decide +kernel
theorem dX10_compare_46 : decode cX10_compare 46 = .ok (.aload_n 0, 1) := by decide +kernel
theorem dX10_compare_47 : decode cX10_compare 47 = .ok (.getfield 62, 3) := by decide +kernel
theorem dX10_compare_50 : decode cX10_compare 50 = .ok (.ifCond .le 19, 3) := by decide +kernel
theorem dX10_compare_53 : decode cX10_compare 53 = .ok (.aload_n 0, 1) := by decide +kernel
theorem dX10_compare_54 : decode cX10_compare 54 = .ok (.getfield 25, 3) := by decide +kernel
theorem dX10_compare_57 : decode cX10_compare 57 = .ok (.aload_n 0, 1) := by decide +kernel
theorem dX10_compare_58 : decode cX10_compare 58 = .ok (.getfield 62, 3) := by decide +kernel
theorem dX10_compare_61 : decode cX10_compare 61 = .ok (.iload 4, 2) := by decide +kernel
theorem dX10_compare_63 : decode cX10_compare 63 = .ok (.invokestatic 65, 3) := by decide +kernel
theorem dX10_compare_66 : decode cX10_compare 66 = .ok (.goto 7, 3) := by decide +kernel
theorem dX10_compare_69 : decode cX10_compare 69 = .ok (.aload_n 0, 1) := by decide +kernel
theorem dX10_compare_70 : decode cX10_compare 70 = .ok (.getfield 62, 3) := by decide +kernel
theorem dX10_compare_73 : decode cX10_compare 73 = .ok (.putfield 69, 3) := by decide +kernel
theorem dX10_compare_76 : decode cX10_compare 76 = .ok (.aload_n 0, 1) := by decide +kernel
theorem dX10_compare_77 : decode cX10_compare 77 = .ok (.aload_n 0, 1) := by decide +kernel
theorem dX10_compare_78 : decode cX10_compare 78 = .ok (.aload_n 0, 1) := by decide +kernel
theorem dX10_compare_79 : decode cX10_compare 79 = .ok (.getfield 19, 3) := by decide +kernel
theorem dX10_compare_82 : decode cX10_compare 82 = .ok (.aload_n 0, 1) := by decide +kernel
theorem dX10_compare_83 : decode cX10_compare 83 = .ok (.getfield 72, 3) := by decide +kernel
theorem dX10_compare_86 : decode cX10_compare 86 = .ok (.lload_n 1, 1) := by decide +kernel
theorem dX10_compare_87 : decode cX10_compare 87 = .ok (.aload_n 0, 1) := by decide +kernel
theorem dX10_compare_88 : decode cX10_compare 88 = .ok (.getfield 28, 3) := by decide +kernel
theorem dX10_compare_91 : decode cX10_compare 91 = .ok (.invokevirtual 75, 3) := by decide +kernel
theorem dX10_compare_94 : decode cX10_compare 94 = .ok (.putfield 79, 3) := by decide +kernel
theorem dX10_compare_97 : decode cX10_compare 97 = .ok (.iload 4, 2) := by decide +kernel
theorem dX10_compare_99 : decode cX10_compare 99 = .ok (.ifCond .ge 28, 3) := by decide +kernel
theorem dX10_compare_102 : decode cX10_compare 102 = .ok (.aload_n 0, 1) := by decide +kernel
theorem dX10_compare_103 : decode cX10_compare 103 = .ok (.getfield 79, 3) := by decide +kernel
theorem dX10_compare_106 : decode cX10_compare 106 = .ok (.ifCond .le 21, 3) := by decide +kernel
theorem dX10_compare_109 : decode cX10_compare 109 = .ok (.aload_n 0, 1) := by decide +kernel
theorem dX10_compare_110 : decode cX10_compare 110 = .ok (.aload_n 0, 1) := by decide +kernel
theorem dX10_compare_111 : decode cX10_compare 111 = .ok (.getfield 28, 3) := by decide +kernel
theorem dX10_compare_114 : decode cX10_compare 114 = .ok (.aload_n 0, 1) := by decide +kernel
theorem dX10_compare_115 : decode cX10_compare 115 = .ok (.getfield 79, 3) := by decide +kernel
theorem dX10_compare_118 : decode cX10_compare 118 = .ok (.iload 4, 2) := by decide +kernel
theorem dX10_compare_120 : decode cX10_compare 120 = .ok (.ineg, 1) := by decide +kernel
theorem dX10_compare_121 : decode cX10_compare 121 = .ok (.invokestatic 65, 3) := by decide +kernel
theorem dX10_compare_124 : decode cX10_compare 124 = .ok (.putfield 79, 3) := by decide +kernel
theorem dX10_compare_127 : decode cX10_compare 127 = .ok (.aload_n 0, 1) := by decide +kernel
theorem dX10_compare_128 : decode cX10_compare 128 = .ok (.getfield 69, 3) := by decide +kernel
theorem dX10_compare_131 : decode cX10_compare 131 = .ok (.aload_n 0, 1) := by decide +kernel
theorem dX10_compare_132 : decode cX10_compare 132 = .ok (.getfield 79, 3) := by decide +kernel
theorem dX10_compare_135 : decode cX10_compare 135 = .ok (.if_icmp .eq 13, 3) := by decide +kernel
theorem dX10_compare_138 : decode cX10_compare 138 = .ok (.aload_n 0, 1) := by decide +kernel
theorem dX10_compare_139 : decode cX10_compare 139 = .ok (.getfield 69, 3) := by decide +kernel
theorem dX10_compare_142 : decode cX10_compare 142 = .ok (.aload_n 0, 1) := by decide +kernel
theorem dX10_compare_143 : decode cX10_compare 143 = .ok (.getfield 79, 3) := by decide +kernel
theorem dX10_compare_146 : decode cX10_compare 146 = .ok (.isub, 1) := by decide +kernel
theorem dX10_compare_147 : decode cX10_compare 147 = .ok (.ireturn, 1) := by decide +kernel
theorem dX10_compare_148 : decode cX10_compare 148 = .ok (.aload_n 0, 1) := by decide +kernel
theorem dX10_compare_149 : decode cX10_compare 149 = .ok (.getfield 69, 3) := by decide +kernel
theorem dX10_compare_152 : decode cX10_compare 152 = .ok (.iconst 1, 1) := by decide +kernel
theorem dX10_compare_153 : decode cX10_compare 153 = .ok (.isub, 1) := by decide +kernel
theorem dX10_compare_154 : decode cX10_compare 154 = .ok (.istore 5, 2) := by decide +kernel
theorem dX10_compare_156 : decode cX10_compare 156 = .ok (.iload 5, 2) := by decide +kernel
theorem dX10_compare_158 : decode cX10_compare 158 = .ok (.ifCond .lt 42, 3) := by decide +kernel
theorem dX10_compare_161 : decode cX10_compare 161 = .ok (.aload_n 0, 1) := by decide +kernel
theorem dX10_compare_162 : decode cX10_compare 162 = .ok (.getfield 25, 3) := by decide +kernel
theorem dX10_compare_165 : decode cX10_compare 165 = .ok (.iload 5, 2) := by decide +kernel
theorem dX10_compare_167 : decode cX10_compare 167 = .ok (.iaload, 1) := by decide +kernel
theorem dX10_compare_168 : decode cX10_compare 168 = .ok (.aload_n 0, 1) := by decide +kernel
theorem dX10_compare_169 : decode cX10_compare 169 = .ok (.getfield 28, 3) := by decide +kernel
theorem dX10_compare_172 : decode cX10_compare 172 = .ok (.iload 5, 2) := by decide +kernel
theorem dX10_compare_174 : decode cX10_compare 174 = .ok (.iaload, 1) := by decide +kernel
theorem dX10_compare_175 : decode cX10_compare 175 = .ok (.if_icmp .eq 19, 3) := by decide +kernel
theorem dX10_compare_178 : decode cX10_compare 178 = .ok (.aload_n 0, 1) := by decide +kernel
theorem dX10_compare_179 : decode cX10_compare 179 = .ok (.getfield 25, 3) := by decide +kernel
theorem dX10_compare_182 : decode cX10_compare 182 = .ok (.iload 5, 2) := by decide +kernel
theorem dX10_compare_184 : decode cX10_compare 184 = .ok (.iaload, 1) := by decide +kernel
theorem dX10_compare_185 : decode cX10_compare 185 = .ok (.aload_n 0, 1) := by decide +kernel
theorem dX10_compare_186 : decode cX10_compare 186 = .ok (.getfield 28, 3) := by decide +kernel
theorem dX10_compare_189 : decode cX10_compare 189 = .ok (.iload 5, 2) := by decide +kernel
theorem dX10_compare_191 : decode cX10_compare 191 = .ok (.iaload, 1) := by decide +kernel
theorem dX10_compare_192 : decode cX10_compare 192 = .ok (.isub, 1) := by decide +kernel
theorem dX10_compare_193 : decode cX10_compare 193 = .ok (.ireturn, 1) := by decide +kernel
theorem dX10_compare_194 : decode cX10_compare 194 = .ok (.iinc 5 (-1), 3) := by decide +kernel
theorem dX10_compare_197 : decode cX10_compare 197 = .ok (.goto (-41), 3) := by decide +kernel
theorem dX10_compare_200 : decode cX10_compare 200 = .ok (.iconst 0, 1) := by decide +kernel
theorem dX10_compare_201 : decode cX10_compare 201 = .ok (.ireturn, 1) := by decide +kernel
theorem dX10_mantissa_0 : decode cX10_mantissa 0 = .ok (.iload_n 2, 1) := by decide +kernel
theorem dX10_mantissa_1 : decode cX10_mantissa 1 = .ok (.ifCond .eq 8, 3) := by decide +kernel
theorem dX10_mantissa_4 : decode cX10_mantissa 4 = .ok (.bipush 23, 2) := by decide +kernel
theorem dX10_mantissa_6 : decode cX10_mantissa 6 = .ok (.goto 5, 3) := by decide +kernel
theorem dX10_mantissa_9 : decode cX10_mantissa 9 = .ok (.bipush 52, 2) := by decide +kernel
theorem dX10_mantissa_11 : decode cX10_mantissa 11 = .ok (.istore_n 3, 1) := by decide +kernel
theorem dX10_mantissa_12 : decode cX10_mantissa 12 = .ok (.lload_n 0, 1) := by decide +kernel
theorem dX10_mantissa_13 : decode cX10_mantissa 13 = .ok (.lconst 1, 1) := by decide +kernel
theorem dX10_mantissa_14 : decode cX10_mantissa 14 = .ok (.iload_n 3, 1) := by decide +kernel
theorem dX10_mantissa_15 : decode cX10_mantissa 15 = .ok (.lshl, 1) := by decide +kernel
theorem dX10_mantissa_16 : decode cX10_mantissa 16 = .ok (.lconst 1, 1) := by decide +kernel
theorem dX10_mantissa_17 : decode cX10_mantissa 17 = .ok (.lsub, 1) := by decide +kernel
theorem dX10_mantissa_18 : decode cX10_mantissa 18 = .ok (.land, 1) := by decide +kernel
theorem dX10_mantissa_19 : decode cX10_mantissa 19 = .ok (.lstore 4, 2) := by decide +kernel
theorem dX10_mantissa_21 : decode cX10_mantissa 21 = .ok (.lload_n 0, 1) := by decide +kernel
theorem dX10_mantissa_22 : decode cX10_mantissa 22 = .ok (.iload_n 3, 1) := by decide +kernel
theorem dX10_mantissa_23 : decode cX10_mantissa 23 = .ok (.lshr, 1) := by decide +kernel
theorem dX10_mantissa_24 : decode cX10_mantissa 24 = .ok (.lconst 0, 1) := by decide +kernel
theorem dX10_mantissa_25 : decode cX10_mantissa 25 = .ok (.lcmp, 1) := by decide +kernel
theorem dX10_mantissa_26 : decode cX10_mantissa 26 = .ok (.ifCond .ne 8, 3) := by decide +kernel
theorem dX10_mantissa_29 : decode cX10_mantissa 29 = .ok (.lload 4, 2) := by decide +kernel
theorem dX10_mantissa_31 : decode cX10_mantissa 31 = .ok (.goto 9, 3) := by decide +kernel
theorem dX10_mantissa_34 : decode cX10_mantissa 34 = .ok (.lload 4, 2) := by decide +kernel
theorem dX10_mantissa_36 : decode cX10_mantissa 36 = .ok (.lconst 1, 1) := by decide +kernel
theorem dX10_mantissa_37 : decode cX10_mantissa 37 = .ok (.iload_n 3, 1) := by decide +kernel
theorem dX10_mantissa_38 : decode cX10_mantissa 38 = .ok (.lshl, 1) := by decide +kernel
theorem dX10_mantissa_39 : decode cX10_mantissa 39 = .ok (.ladd, 1) := by decide +kernel
theorem dX10_mantissa_40 : decode cX10_mantissa 40 = .ok (.lreturn, 1) := by decide +kernel
theorem dX10_exponent_0 : decode cX10_exponent 0 = .ok (.lload_n 0, 1) := by decide +kernel
theorem dX10_exponent_1 : decode cX10_exponent 1 = .ok (.iload_n 2, 1) := by decide +kernel
theorem dX10_exponent_2 : decode cX10_exponent 2 = .ok (.ifCond .eq 8, 3) := by decide +kernel
theorem dX10_exponent_5 : decode cX10_exponent 5 = .ok (.bipush 23, 2) := by decide +kernel
theorem dX10_exponent_7 : decode cX10_exponent 7 = .ok (.goto 5, 3) := by decide +kernel
theorem dX10_exponent_10 : decode cX10_exponent 10 = .ok (.bipush 52, 2) := by decide +kernel
theorem dX10_exponent_12 : decode cX10_exponent 12 = .ok (.lshr, 1) := by decide +kernel
theorem dX10_exponent_13 : decode cX10_exponent 13 = .ok (.l2i, 1) := by decide +kernel
theorem dX10_exponent_14 : decode cX10_exponent 14 = .ok (.istore_n 3, 1) := by decide +kernel
theorem dX10_exponent_15 : decode cX10_exponent 15 = .ok (.iload_n 3, 1) := by decide +kernel
theorem dX10_exponent_16 : decode cX10_exponent 16 = .ok (.ifCond .ne 7, 3) := by decide +kernel
theorem dX10_exponent_19 : decode cX10_exponent 19 = .ok (.iconst 1, 1) := by decide +kernel
theorem dX10_exponent_20 : decode cX10_exponent 20 = .ok (.goto 4, 3) := by decide +kernel
theorem dX10_exponent_23 : decode cX10_exponent 23 = .ok (.iload_n 3, 1) := by decide +kernel
theorem dX10_exponent_24 : decode cX10_exponent 24 = .ok (.iload_n 2, 1) := by decide +kernel
theorem dX10_exponent_25 : decode cX10_exponent 25 = .ok (.ifCond .eq 9, 3) := by decide +kernel
theorem dX10_exponent_28 : decode cX10_exponent 28 = .ok (.sipush 150, 3) := by decide +kernel
theorem dX10_exponent_31 : decode cX10_exponent 31 = .ok (.goto 6, 3) := by decide +kernel
theorem dX10_exponent_34 : decode cX10_exponent 34 = .ok (.sipush 1075, 3) := by decide +kernel
theorem dX10_exponent_37 : decode cX10_exponent 37 = .ok (.isub, 1) := by decide +kernel
theorem dX10_exponent_38 : decode cX10_exponent 38 = .ok (.ireturn, 1) := by decide +kernel
theorem dX10_greatest_0 : decode cX10_greatest 0 = .ok (.iload_n 0, 1) := by decide +kernel
theorem dX10_greatest_1 : decode cX10_greatest 1 = .ok (.ifCond .eq 9, 3) := by decide +kernel
theorem dX10_greatest_4 : decode cX10_greatest 4 = .ok (.ldc2_w 82, 3) := by decide +kernel
theorem dX10_greatest_7 : decode cX10_greatest 7 = .ok (.goto 6, 3) := by decide +kernel
theorem dX10_greatest_10 : decode cX10_greatest 10 = .ok (.ldc2_w 84, 3) := by decide +kernel
theorem dX10_greatest_13 : decode cX10_greatest 13 = .ok (.lreturn, 1) := by decide +kernel
set_option maxRecDepth 20000 in
theorem ggX10_above_X10_mantissa : GoodIn wsX10_above wsX10_mantissa := goodIn_r _ [5] rfl (by decide +kernel)
set_option maxRecDepth 20000 in
theorem gX10_above_X10_mantissa : GoodIn wsX10_above (va_wsS RX10 88 yX10_mantissa wsX10_mantissa) := goodIn_app (goodIn_of _ (by decide +kernel)) ggX10_above_X10_mantissa
set_option maxRecDepth 20000 in
theorem ggX10_above_X10_exponent : GoodIn wsX10_above wsX10_exponent := goodIn_r _ [8] rfl (by decide +kernel)
set_option maxRecDepth 20000 in
theorem gX10_above_X10_exponent : GoodIn wsX10_above (va_wsS RX10 92 yX10_exponent wsX10_exponent) := goodIn_app (goodIn_of _ (by decide +kernel)) ggX10_above_X10_exponent
set_option maxRecDepth 20000 in
theorem ggX10_above_X10_compare : GoodIn wsX10_above wsX10_compare := goodIn_r _ [12, 13, 14, 15, 16, 17, 18, 19, 20, 21, 22, 23, 4, 24, 25, 26, 27, 28, 29, 30, 31, 32, 33, 34, 35, 36, 37, 38, 39, 40, 41, 42, 43, 44, 45, 46, 47, 48, 49, 50, 51, 52, 53, 54, 55, 56, 57, 58, 59, 60, 61] rfl (by decide +kernel)
set_option maxRecDepth 20000 in
theorem gX10_above_X10_compare : GoodIn wsX10_above (wsV RX10 96 RX10 yX10_compare wsX10_compare) := goodIn_app (goodIn_of _ (by decide +kernel)) ggX10_above_X10_compare
theorem dX10_above_0 : decode cX10_above 0 = .ok (.aload_n 0, 1) := by decide +kernel
theorem dX10_above_1 : decode cX10_above 1 = .ok (.ldc2_w 86, 3) := by decide +kernel
theorem dX10_above_4 : decode cX10_above 4 = .ok (.lload_n 1, 1) := by decide +kernel
theorem dX10_above_5 : decode cX10_above 5 = .ok (.iload_n 3, 1) := by decide +kernel
theorem dX10_above_6 : decode cX10_above 6 = .ok (.invokestatic 88, 3) := by decide +kernel
theorem dX10_above_9 : decode cX10_above 9 = .ok (.lmul, 1) := by decide +kernel
theorem dX10_above_10 : decode cX10_above 10 = .ok (.lconst 1, 1) := by decide +kernel
theorem dX10_above_11 : decode cX10_above 11 = .ok (.ladd, 1) := by decide +kernel
theorem dX10_above_12 : decode cX10_above 12 = .ok (.lload_n 1, 1) := by decide +kernel
theorem dX10_above_13 : decode cX10_above 13 = .ok (.iload_n 3, 1) := by decide +kernel
theorem dX10_above_14 : decode cX10_above 14 = .ok (.invokestatic 92, 3) := by decide +kernel
theorem dX10_above_17 : decode cX10_above 17 = .ok (.iconst 1, 1) := by decide +kernel
theorem dX10_above_18 : decode cX10_above 18 = .ok (.isub, 1) := by decide +kernel
theorem dX10_above_19 : decode cX10_above 19 = .ok (.invokevirtual 96, 3) := by decide +kernel
theorem dX10_above_22 : decode cX10_above 22 = .ok (.ireturn, 1) := by decide +kernel
set_option maxRecDepth 20000 in
theorem ggX10_nearest_X10_greatest : GoodIn wsX10_nearest wsX10_greatest := goodIn_r _ [5, 6, 7] rfl (by decide +kernel)
set_option maxRecDepth 20000 in
theorem gX10_nearest_X10_greatest : GoodIn wsX10_nearest (va_wsS RX10 100 yX10_greatest wsX10_greatest) := goodIn_app (goodIn_of _ (by decide +kernel)) ggX10_nearest_X10_greatest
set_option maxRecDepth 20000 in
theorem ggX10_nearest_X10_mantissa : GoodIn wsX10_nearest wsX10_mantissa := goodIn_r _ [10] rfl (by decide +kernel)
set_option maxRecDepth 20000 in
theorem gX10_nearest_X10_mantissa : GoodIn wsX10_nearest (va_wsS RX10 88 yX10_mantissa wsX10_mantissa) := goodIn_app (goodIn_of _ (by decide +kernel)) ggX10_nearest_X10_mantissa
set_option maxRecDepth 20000 in
theorem ggX10_nearest_X10_exponent : GoodIn wsX10_nearest wsX10_exponent := goodIn_r _ [13] rfl (by decide +kernel)
set_option maxRecDepth 20000 in
theorem gX10_nearest_X10_exponent : GoodIn wsX10_nearest (va_wsS RX10 92 yX10_exponent wsX10_exponent) := goodIn_app (goodIn_of _ (by decide +kernel)) ggX10_nearest_X10_exponent
set_option maxRecDepth 20000 in
theorem ggX10_nearest_X10_compare : GoodIn wsX10_nearest wsX10_compare := goodIn_r _ [17, 18, 19, 20, 21, 22, 23, 24, 25, 26, 27, 28, 4, 29, 30, 31, 32, 33, 34, 35, 36, 37, 38, 39, 40, 45, 46, 47, 48, 49, 50, 51, 52, 53, 54, 55, 56, 57, 58, 59, 60, 61, 62, 63, 64, 65, 66, 67, 68, 69, 70] rfl (by decide +kernel)
set_option maxRecDepth 20000 in
theorem gX10_nearest_X10_compare : GoodIn wsX10_nearest (wsV RX10 96 RX10 yX10_compare wsX10_compare) := goodIn_app (goodIn_of _ (by decide +kernel)) ggX10_nearest_X10_compare
set_option maxRecDepth 20000 in
theorem ggX10_nearest_X10_above : GoodIn wsX10_nearest wsX10_above := goodIn_r _ [44, 1, 8, 9, 4, 10, 11, 12, 13, 14, 15, 16, 17, 18, 19, 20, 21, 22, 23, 24, 25, 26, 27, 28, 29, 30, 31, 32, 33, 34, 35, 36, 37, 38, 39, 40, 45, 46, 47, 48, 49, 50, 51, 52, 53, 54, 55, 56, 57, 58, 59, 60, 61, 62, 63, 64, 65, 66, 67, 68, 69, 70] rfl (by decide +kernel)
set_option maxRecDepth 20000 in
theorem gX10_nearest_X10_above : GoodIn wsX10_nearest (wsV RX10 104 RX10 yX10_above wsX10_above) := goodIn_app (goodIn_of _ (by decide +kernel)) ggX10_nearest_X10_above
theorem dX10_nearest_0 : decode cX10_nearest 0 = .ok (.lconst 0, 1) := by decide +kernel
theorem dX10_nearest_1 : decode cX10_nearest 1 = .ok (.lstore_n 2, 1) := by decide +kernel
theorem dX10_nearest_2 : decode cX10_nearest 2 = .ok (.iload_n 1, 1) := by decide +kernel
theorem dX10_nearest_3 : decode cX10_nearest 3 = .ok (.invokestatic 100, 3) := by decide +kernel
theorem dX10_nearest_6 : decode cX10_nearest 6 = .ok (.lstore 4, 2) := by decide +kernel
theorem dX10_nearest_8 : decode cX10_nearest 8 = .ok (.iconst 0, 1) := by decide +kernel
theorem dX10_nearest_9 : decode cX10_nearest 9 = .ok (.istore 6, 2) := by decide +kernel
theorem dX10_nearest_11 : decode cX10_nearest 11 = .ok (.iload 6, 2) := by decide +kernel
theorem dX10_nearest_13 : decode cX10_nearest 13 = .ok (.bipush 70, 2) := by decide +kernel
theorem dX10_nearest_15 : decode cX10_nearest 15 = .ok (.if_icmp .ge 61, 3) := by decide +kernel
theorem dX10_nearest_18 : decode cX10_nearest 18 = .ok (.lload_n 2, 1) := by decide +kernel
theorem dX10_nearest_19 : decode cX10_nearest 19 = .ok (.lload 4, 2) := by decide +kernel
theorem dX10_nearest_21 : decode cX10_nearest 21 = .ok (.lcmp, 1) := by decide +kernel
theorem dX10_nearest_22 : decode cX10_nearest 22 = .ok (.ifCond .ge 54, 3) := by decide +kernel
theorem dX10_nearest_25 : decode cX10_nearest 25 = .ok (.lload_n 2, 1) := by decide +kernel
theorem dX10_nearest_26 : decode cX10_nearest 26 = .ok (.lload 4, 2) := by decide +kernel
theorem dX10_nearest_28 : decode cX10_nearest 28 = .ok (.lload_n 2, 1) := by decide +kernel
theorem dX10_nearest_29 : decode cX10_nearest 29 = .ok (.lsub, 1) := by decide +kernel
theorem dX10_nearest_30 : decode cX10_nearest 30 = .ok (.lconst 1, 1) := by decide +kernel
theorem dX10_nearest_31 : decode cX10_nearest 31 = .ok (.ladd, 1) := by decide +kernel
theorem dX10_nearest_32 : decode cX10_nearest 32 = .ok (.ldc2_w 86, 3) := by decide +kernel
theorem dX10_nearest_35 : decode cX10_nearest 35 = .ok (.ldiv, 1) := by decide +kernel
theorem dX10_nearest_36 : decode cX10_nearest 36 = .ok (.ladd, 1) := by decide +kernel
theorem dX10_nearest_37 : decode cX10_nearest 37 = .ok (.lstore 7, 2) := by decide +kernel
theorem dX10_nearest_39 : decode cX10_nearest 39 = .ok (.aload_n 0, 1) := by decide +kernel
theorem dX10_nearest_40 : decode cX10_nearest 40 = .ok (.lload 7, 2) := by decide +kernel
theorem dX10_nearest_42 : decode cX10_nearest 42 = .ok (.iload_n 1, 1) := by decide +kernel
theorem dX10_nearest_43 : decode cX10_nearest 43 = .ok (.invokestatic 88, 3) := by decide +kernel
theorem dX10_nearest_46 : decode cX10_nearest 46 = .ok (.lload 7, 2) := by decide +kernel
theorem dX10_nearest_48 : decode cX10_nearest 48 = .ok (.iload_n 1, 1) := by decide +kernel
theorem dX10_nearest_49 : decode cX10_nearest 49 = .ok (.invokestatic 92, 3) := by decide +kernel
theorem dX10_nearest_52 : decode cX10_nearest 52 = .ok (.invokevirtual 96, 3) := by decide +kernel
theorem dX10_nearest_55 : decode cX10_nearest 55 = .ok (.ifCond .lt 9, 3) := by decide +kernel
theorem dX10_nearest_58 : decode cX10_nearest 58 = .ok (.lload 7, 2) := by decide +kernel
theorem dX10_nearest_60 : decode cX10_nearest 60 = .ok (.lstore_n 2, 1) := by decide +kernel
theorem dX10_nearest_61 : decode cX10_nearest 61 = .ok (.goto 9, 3) := by decide +kernel
theorem dX10_nearest_64 : decode cX10_nearest 64 = .ok (.lload 7, 2) := by decide +kernel
theorem dX10_nearest_66 : decode cX10_nearest 66 = .ok (.lconst 1, 1) := by decide +kernel
theorem dX10_nearest_67 : decode cX10_nearest 67 = .ok (.lsub, 1) := by decide +kernel
theorem dX10_nearest_68 : decode cX10_nearest 68 = .ok (.lstore 4, 2) := by decide +kernel
theorem dX10_nearest_70 : decode cX10_nearest 70 = .ok (.iinc 6 1, 3) := by decide +kernel
theorem dX10_nearest_73 : decode cX10_nearest 73 = .ok (.goto (-62), 3) := by decide +kernel
theorem dX10_nearest_76 : decode cX10_nearest 76 = .ok (.aload_n 0, 1) := by decide +kernel
theorem dX10_nearest_77 : decode cX10_nearest 77 = .ok (.lload_n 2, 1) := by decide +kernel
theorem dX10_nearest_78 : decode cX10_nearest 78 = .ok (.iload_n 1, 1) := by decide +kernel
theorem dX10_nearest_79 : decode cX10_nearest 79 = .ok (.invokevirtual 104, 3) := by decide +kernel
theorem dX10_nearest_82 : decode cX10_nearest 82 = .ok (.istore 6, 2) := by decide +kernel
theorem dX10_nearest_84 : decode cX10_nearest 84 = .ok (.iload 6, 2) := by decide +kernel
theorem dX10_nearest_86 : decode cX10_nearest 86 = .ok (.ifCond .gt 16, 3) := by decide +kernel
theorem dX10_nearest_89 : decode cX10_nearest 89 = .ok (.iload 6, 2) := by decide +kernel
theorem dX10_nearest_91 : decode cX10_nearest 91 = .ok (.ifCond .ne 17, 3) := by decide +kernel
theorem dX10_nearest_94 : decode cX10_nearest 94 = .ok (.lload_n 2, 1) := by decide +kernel
theorem dX10_nearest_95 : decode cX10_nearest 95 = .ok (.lconst 1, 1) := by decide +kernel
theorem dX10_nearest_96 : decode cX10_nearest 96 = .ok (.land, 1) := by decide +kernel
theorem dX10_nearest_97 : decode cX10_nearest 97 = .ok (.lconst 1, 1) := by decide +kernel
theorem dX10_nearest_98 : decode cX10_nearest 98 = .ok (.lcmp, 1) := by decide +kernel
theorem dX10_nearest_99 : decode cX10_nearest 99 = .ok (.ifCond .ne 9, 3) := by decide +kernel
theorem dX10_nearest_102 : decode cX10_nearest 102 = .ok (.lload_n 2, 1) := by decide +kernel
theorem dX10_nearest_103 : decode cX10_nearest 103 = .ok (.lconst 1, 1) := by decide +kernel
theorem dX10_nearest_104 : decode cX10_nearest 104 = .ok (.ladd, 1) := by decide +kernel
theorem dX10_nearest_105 : decode cX10_nearest 105 = .ok (.goto 4, 3) := by decide +kernel
theorem dX10_nearest_108 : decode cX10_nearest 108 = .ok (.lload_n 2, 1) := by decide +kernel
theorem dX10_nearest_109 : decode cX10_nearest 109 = .ok (.lreturn, 1) := by decide +kernel
theorem dX10_look_0 : decode cX10_look 0 = .ok (.aload_n 0, 1) := by decide +kernel
theorem dX10_look_1 : decode cX10_look 1 = .ok (.getfield 107, 3) := by decide +kernel
theorem dX10_look_4 : decode cX10_look 4 = .ok (.aload_n 0, 1) := by decide +kernel
theorem dX10_look_5 : decode cX10_look 5 = .ok (.getfield 46, 3) := by decide +kernel
theorem dX10_look_8 : decode cX10_look 8 = .ok (.if_icmp .ge 15, 3) := by decide +kernel
theorem dX10_look_11 : decode cX10_look 11 = .ok (.aload_n 0, 1) := by decide +kernel
theorem dX10_look_12 : decode cX10_look 12 = .ok (.getfield 7, 3) := by decide +kernel
theorem dX10_look_15 : decode cX10_look 15 = .ok (.aload_n 0, 1) := by decide +kernel
theorem dX10_look_16 : decode cX10_look 16 = .ok (.getfield 107, 3) := by decide +kernel
theorem dX10_look_19 : decode cX10_look 19 = .ok (.iaload, 1) := by decide +kernel
theorem dX10_look_20 : decode cX10_look 20 = .ok (.goto 4, 3) := by decide +kernel
theorem dX10_look_23 : decode cX10_look 23 = .ok (.iconst 0, 1) := by decide +kernel
theorem dX10_look_24 : decode cX10_look 24 = .ok (.ireturn, 1) := by decide +kernel
set_option maxRecDepth 20000 in
theorem ggX10_digit_X10_in : GoodIn wsX10_digit wsX10_in := goodIn_r _ [4] rfl (by decide +kernel)
set_option maxRecDepth 20000 in
theorem gX10_digit_X10_in : GoodIn wsX10_digit (va_wsS RX10 38 yX10_in wsX10_in) := goodIn_app (goodIn_of _ (by decide +kernel)) ggX10_digit_X10_in
theorem dX10_digit_0 : decode cX10_digit 0 = .ok (.iload_n 0, 1) := by decide +kernel
theorem dX10_digit_1 : decode cX10_digit 1 = .ok (.bipush 48, 2) := by decide +kernel
theorem dX10_digit_3 : decode cX10_digit 3 = .ok (.bipush 57, 2) := by decide +kernel
theorem dX10_digit_5 : decode cX10_digit 5 = .ok (.invokestatic 38, 3) := by decide +kernel
theorem dX10_digit_8 : decode cX10_digit 8 = .ok (.ifCond .eq 8, 3) := by decide +kernel
theorem dX10_digit_11 : decode cX10_digit 11 = .ok (.iload_n 0, 1) := by decide +kernel
theorem dX10_digit_12 : decode cX10_digit 12 = .ok (.bipush 48, 2) := by decide +kernel
theorem dX10_digit_14 : decode cX10_digit 14 = .ok (.isub, 1) := by decide +kernel
theorem dX10_digit_15 : decode cX10_digit 15 = .ok (.ireturn, 1) := by decide +kernel
theorem dX10_digit_16 : decode cX10_digit 16 = .ok (.iload_n 1, 1) := by decide +kernel
theorem dX10_digit_17 : decode cX10_digit 17 = .ok (.ifCond .eq 22, 3) := by decide +kernel
theorem dX10_digit_20 : decode cX10_digit 20 = .ok (.iload_n 0, 1) := by decide +kernel
theorem dX10_digit_21 : decode cX10_digit 21 = .ok (.bipush 97, 2) := by decide +kernel
theorem dX10_digit_23 : decode cX10_digit 23 = .ok (.bipush 102, 2) := by decide +kernel
theorem dX10_digit_25 : decode cX10_digit 25 = .ok (.invokestatic 38, 3) := by decide +kernel
theorem dX10_digit_28 : decode cX10_digit 28 = .ok (.ifCond .eq 11, 3) := by decide +kernel
theorem dX10_digit_31 : decode cX10_digit 31 = .ok (.iload_n 0, 1) := by decide +kernel
theorem dX10_digit_32 : decode cX10_digit 32 = .ok (.bipush 97, 2) := by decide +kernel
theorem dX10_digit_34 : decode cX10_digit 34 = .ok (.isub, 1) := by decide +kernel
theorem dX10_digit_35 : decode cX10_digit 35 = .ok (.bipush 10, 2) := by decide +kernel
theorem dX10_digit_37 : decode cX10_digit 37 = .ok (.iadd, 1) := by decide +kernel
theorem dX10_digit_38 : decode cX10_digit 38 = .ok (.ireturn, 1) := by decide +kernel
theorem dX10_digit_39 : decode cX10_digit 39 = .ok (.iload_n 1, 1) := by decide +kernel
theorem dX10_digit_40 : decode cX10_digit 40 = .ok (.ifCond .eq 24, 3) := by decide +kernel
theorem dX10_digit_43 : decode cX10_digit 43 = .ok (.iload_n 0, 1) := by decide +kernel
theorem dX10_digit_44 : decode cX10_digit 44 = .ok (.bipush 65, 2) := by decide +kernel
theorem dX10_digit_46 : decode cX10_digit 46 = .ok (.bipush 70, 2) := by decide +kernel
theorem dX10_digit_48 : decode cX10_digit 48 = .ok (.invokestatic 38, 3) := by decide +kernel
theorem dX10_digit_51 : decode cX10_digit 51 = .ok (.ifCond .eq 13, 3) := by decide +kernel
theorem dX10_digit_54 : decode cX10_digit 54 = .ok (.iload_n 0, 1) := by decide +kernel
theorem dX10_digit_55 : decode cX10_digit 55 = .ok (.bipush 65, 2) := by decide +kernel
theorem dX10_digit_57 : decode cX10_digit 57 = .ok (.isub, 1) := by decide +kernel
theorem dX10_digit_58 : decode cX10_digit 58 = .ok (.bipush 10, 2) := by decide +kernel
theorem dX10_digit_60 : decode cX10_digit 60 = .ok (.iadd, 1) := by decide +kernel
theorem dX10_digit_61 : decode cX10_digit 61 = .ok (.goto 4, 3) := by decide +kernel
theorem dX10_digit_64 : decode cX10_digit 64 = .ok (.iconst (-1), 1) := by decide +kernel
theorem dX10_digit_65 : decode cX10_digit 65 = .ok (.ireturn, 1) := by decide +kernel
set_option maxRecDepth 20000 in
theorem ggX10_row_X10_look : GoodIn wsX10_row wsX10_look := goodIn_r _ [10, 4, 11, 12, 26, 27, 28, 29, 30, 31, 32, 33, 34, 35, 36, 37, 38, 39, 40, 41, 42, 43, 44, 45, 46, 47, 48, 49, 50, 51] rfl (by decide +kernel)
set_option maxRecDepth 20000 in
theorem gX10_row_X10_look : GoodIn wsX10_row (wsV RX10 110 RX10 yX10_look wsX10_look) := goodIn_app (goodIn_of _ (by decide +kernel)) ggX10_row_X10_look
set_option maxRecDepth 20000 in
theorem ggX10_row_X10_digit : GoodIn wsX10_row wsX10_digit := goodIn_r _ [15, 16, 17, 9, 18] rfl (by decide +kernel)
set_option maxRecDepth 20000 in
theorem gX10_row_X10_digit : GoodIn wsX10_row (va_wsS RX10 114 yX10_digit wsX10_digit) := goodIn_app (goodIn_of _ (by decide +kernel)) ggX10_row_X10_digit
set_option maxRecDepth 20000 in
theorem ggX10_row_X10_grow : GoodIn wsX10_row wsX10_grow := goodIn_r _ [21, 22, 23, 24, 9, 25] rfl (by decide +kernel)
set_option maxRecDepth 20000 in
theorem gX10_row_X10_grow : GoodIn wsX10_row (va_wsS RX10 55 yX10_grow wsX10_grow) := goodIn_app (goodIn_of _ (by decide +kernel)) ggX10_row_X10_grow
theorem dX10_row_0 : decode cX10_row 0 = .ok (.iconst 0, 1) := by decide +kernel
theorem dX10_row_1 : decode cX10_row 1 = .ok (.istore_n 2, 1) := by decide +kernel
theorem dX10_row_2 : decode cX10_row 2 = .ok (.iconst 0, 1) := by decide +kernel
theorem dX10_row_3 : decode cX10_row 3 = .ok (.istore_n 3, 1) := by decide +kernel
theorem dX10_row_4 : decode cX10_row 4 = .ok (.aload_n 0, 1) := by decide +kernel
theorem dX10_row_5 : decode cX10_row 5 = .ok (.invokevirtual 110, 3) := by decide +kernel
theorem dX10_row_8 : decode cX10_row 8 = .ok (.iload_n 1, 1) := by decide +kernel
theorem dX10_row_9 : decode cX10_row 9 = .ok (.invokestatic 114, 3) := by decide +kernel
theorem dX10_row_12 : decode cX10_row 12 = .ok (.ifCond .ge 16, 3) := by decide +kernel
theorem dX10_row_15 : decode cX10_row 15 = .ok (.iload_n 2, 1) := by decide +kernel
theorem dX10_row_16 : decode cX10_row 16 = .ok (.ifCond .le 108, 3) := by decide +kernel
theorem dX10_row_19 : decode cX10_row 19 = .ok (.aload_n 0, 1) := by decide +kernel
theorem dX10_row_20 : decode cX10_row 20 = .ok (.invokevirtual 110, 3) := by decide +kernel
theorem dX10_row_23 : decode cX10_row 23 = .ok (.bipush 95, 2) := by decide +kernel
theorem dX10_row_25 : decode cX10_row 25 = .ok (.if_icmp .ne 99, 3) := by decide +kernel
theorem dX10_row_28 : decode cX10_row 28 = .ok (.aload_n 0, 1) := by decide +kernel
theorem dX10_row_29 : decode cX10_row 29 = .ok (.invokevirtual 110, 3) := by decide +kernel
theorem dX10_row_32 : decode cX10_row 32 = .ok (.bipush 95, 2) := by decide +kernel
theorem dX10_row_34 : decode cX10_row 34 = .ok (.if_icmp .eq 7, 3) := by decide +kernel
theorem dX10_row_37 : decode cX10_row 37 = .ok (.iconst 1, 1) := by decide +kernel
theorem dX10_row_38 : decode cX10_row 38 = .ok (.goto 4, 3) := by decide +kernel
theorem dX10_row_41 : decode cX10_row 41 = .ok (.iconst 0, 1) := by decide +kernel
theorem dX10_row_42 : decode cX10_row 42 = .ok (.istore_n 3, 1) := by decide +kernel
theorem dX10_row_43 : decode cX10_row 43 = .ok (.iload_n 3, 1) := by decide +kernel
theorem dX10_row_44 : decode cX10_row 44 = .ok (.ifCond .eq 67, 3) := by decide +kernel
theorem dX10_row_47 : decode cX10_row 47 = .ok (.aload_n 0, 1) := by decide +kernel
theorem dX10_row_48 : decode cX10_row 48 = .ok (.getfield 62, 3) := by decide +kernel
theorem dX10_row_51 : decode cX10_row 51 = .ok (.sipush 510, 3) := by decide +kernel
theorem dX10_row_54 : decode cX10_row 54 = .ok (.if_icmp .ge 37, 3) := by decide +kernel
theorem dX10_row_57 : decode cX10_row 57 = .ok (.aload_n 0, 1) := by decide +kernel
theorem dX10_row_58 : decode cX10_row 58 = .ok (.aload_n 0, 1) := by decide +kernel
theorem dX10_row_59 : decode cX10_row 59 = .ok (.getfield 16, 3) := by decide +kernel
theorem dX10_row_62 : decode cX10_row 62 = .ok (.aload_n 0, 1) := by decide +kernel
theorem dX10_row_63 : decode cX10_row 63 = .ok (.getfield 62, 3) := by decide +kernel
theorem dX10_row_66 : decode cX10_row 66 = .ok (.iload_n 1, 1) := by decide +kernel
theorem dX10_row_67 : decode cX10_row 67 = .ok (.ifCond .eq 8, 3) := by decide +kernel
theorem dX10_row_70 : decode cX10_row 70 = .ok (.bipush 16, 2) := by decide +kernel
theorem dX10_row_72 : decode cX10_row 72 = .ok (.goto 5, 3) := by decide +kernel
theorem dX10_row_75 : decode cX10_row 75 = .ok (.bipush 10, 2) := by decide +kernel
theorem dX10_row_77 : decode cX10_row 77 = .ok (.aload_n 0, 1) := by decide +kernel
theorem dX10_row_78 : decode cX10_row 78 = .ok (.invokevirtual 110, 3) := by decide +kernel
theorem dX10_row_81 : decode cX10_row 81 = .ok (.iload_n 1, 1) := by decide +kernel
theorem dX10_row_82 : decode cX10_row 82 = .ok (.invokestatic 114, 3) := by decide +kernel
theorem dX10_row_85 : decode cX10_row 85 = .ok (.invokestatic 55, 3) := by decide +kernel
theorem dX10_row_88 : decode cX10_row 88 = .ok (.putfield 62, 3) := by decide +kernel
theorem dX10_row_91 : decode cX10_row 91 = .ok (.iinc 2 1, 3) := by decide +kernel
theorem dX10_row_94 : decode cX10_row 94 = .ok (.aload_n 0, 1) := by decide +kernel
theorem dX10_row_95 : decode cX10_row 95 = .ok (.getfield 62, 3) := by decide +kernel
theorem dX10_row_98 : decode cX10_row 98 = .ok (.ifCond .le 13, 3) := by decide +kernel
theorem dX10_row_101 : decode cX10_row 101 = .ok (.aload_n 0, 1) := by decide +kernel
theorem dX10_row_102 : decode cX10_row 102 = .ok (.dup, 1) := by decide +kernel
theorem dX10_row_103 : decode cX10_row 103 = .ok (.getfield 118, 3) := by decide +kernel
theorem dX10_row_106 : decode cX10_row 106 = .ok (.iconst 1, 1) := by decide +kernel
theorem dX10_row_107 : decode cX10_row 107 = .ok (.iadd, 1) := by decide +kernel
theorem dX10_row_108 : decode cX10_row 108 = .ok (.putfield 118, 3) := by decide +kernel
theorem dX10_row_111 : decode cX10_row 111 = .ok (.aload_n 0, 1) := by decide +kernel
theorem dX10_row_112 : decode cX10_row 112 = .ok (.dup, 1) := by decide +kernel
theorem dX10_row_113 : decode cX10_row 113 = .ok (.getfield 107, 3) := by decide +kernel
theorem dX10_row_116 : decode cX10_row 116 = .ok (.iconst 1, 1) := by decide +kernel
theorem dX10_row_117 : decode cX10_row 117 = .ok (.iadd, 1) := by decide +kernel
theorem dX10_row_118 : decode cX10_row 118 = .ok (.putfield 107, 3) := by decide +kernel
theorem dX10_row_121 : decode cX10_row 121 = .ok (.goto (-117), 3) := by decide +kernel
theorem dX10_row_124 : decode cX10_row 124 = .ok (.iload_n 2, 1) := by decide +kernel
theorem dX10_row_125 : decode cX10_row 125 = .ok (.ifCond .le 12, 3) := by decide +kernel
theorem dX10_row_128 : decode cX10_row 128 = .ok (.iload_n 3, 1) := by decide +kernel
theorem dX10_row_129 : decode cX10_row 129 = .ok (.ifCond .ne 8, 3) := by decide +kernel
theorem dX10_row_132 : decode cX10_row 132 = .ok (.aload_n 0, 1) := by decide +kernel
theorem dX10_row_133 : decode cX10_row 133 = .ok (.iconst 0, 1) := by decide +kernel
theorem dX10_row_134 : decode cX10_row 134 = .ok (.putfield 121, 3) := by decide +kernel
theorem dX10_row_137 : decode cX10_row 137 = .ok (.iload_n 2, 1) := by decide +kernel
theorem dX10_row_138 : decode cX10_row 138 = .ok (.ireturn, 1) := by decide +kernel
set_option maxRecDepth 20000 in
theorem ggX10_exponentRow_X10_look : GoodIn wsX10_exponentRow wsX10_look := goodIn_r _ [10, 1, 11, 12, 19, 20, 21, 22, 23, 24, 25, 26, 27, 28, 29, 30, 31, 32, 33, 34, 35, 36, 37, 38, 39, 40, 41, 42, 43, 44] rfl (by decide +kernel)
set_option maxRecDepth 20000 in
theorem gX10_exponentRow_X10_look : GoodIn wsX10_exponentRow (wsV RX10 110 RX10 yX10_look wsX10_look) := goodIn_app (goodIn_of _ (by decide +kernel)) ggX10_exponentRow_X10_look
set_option maxRecDepth 20000 in
theorem ggX10_exponentRow_X10_digit : GoodIn wsX10_exponentRow wsX10_digit := goodIn_r _ [15, 16, 17, 9, 18] rfl (by decide +kernel)
set_option maxRecDepth 20000 in
theorem gX10_exponentRow_X10_digit : GoodIn wsX10_exponentRow (va_wsS RX10 114 yX10_digit wsX10_digit) := goodIn_app (goodIn_of _ (by decide +kernel)) ggX10_exponentRow_X10_digit
theorem dX10_exponentRow_0 : decode cX10_exponentRow 0 = .ok (.aload_n 0, 1) := by decide +kernel
theorem dX10_exponentRow_1 : decode cX10_exponentRow 1 = .ok (.dup, 1) := by decide +kernel
theorem dX10_exponentRow_2 : decode cX10_exponentRow 2 = .ok (.getfield 107, 3) := by decide +kernel
theorem dX10_exponentRow_5 : decode cX10_exponentRow 5 = .ok (.iconst 1, 1) := by decide +kernel
theorem dX10_exponentRow_6 : decode cX10_exponentRow 6 = .ok (.iadd, 1) := by decide +kernel
theorem dX10_exponentRow_7 : decode cX10_exponentRow 7 = .ok (.putfield 107, 3) := by decide +kernel
theorem dX10_exponentRow_10 : decode cX10_exponentRow 10 = .ok (.aload_n 0, 1) := by decide +kernel
theorem dX10_exponentRow_11 : decode cX10_exponentRow 11 = .ok (.invokevirtual 110, 3) := by decide +kernel
theorem dX10_exponentRow_14 : decode cX10_exponentRow 14 = .ok (.bipush 45, 2) := by decide +kernel
theorem dX10_exponentRow_16 : decode cX10_exponentRow 16 = .ok (.if_icmp .ne 7, 3) := by decide +kernel
theorem dX10_exponentRow_19 : decode cX10_exponentRow 19 = .ok (.iconst 1, 1) := by decide +kernel
theorem dX10_exponentRow_20 : decode cX10_exponentRow 20 = .ok (.goto 4, 3) := by decide +kernel
theorem dX10_exponentRow_23 : decode cX10_exponentRow 23 = .ok (.iconst 0, 1) := by decide +kernel
theorem dX10_exponentRow_24 : decode cX10_exponentRow 24 = .ok (.istore_n 1, 1) := by decide +kernel
theorem dX10_exponentRow_25 : decode cX10_exponentRow 25 = .ok (.iload_n 1, 1) := by decide +kernel
theorem dX10_exponentRow_26 : decode cX10_exponentRow 26 = .ok (.ifCond .ne 12, 3) := by decide +kernel
theorem dX10_exponentRow_29 : decode cX10_exponentRow 29 = .ok (.aload_n 0, 1) := by decide +kernel
theorem dX10_exponentRow_30 : decode cX10_exponentRow 30 = .ok (.invokevirtual 110, 3) := by decide +kernel
theorem dX10_exponentRow_33 : decode cX10_exponentRow 33 = .ok (.bipush 43, 2) := by decide +kernel
theorem dX10_exponentRow_35 : decode cX10_exponentRow 35 = .ok (.if_icmp .ne 13, 3) := by decide +kernel
theorem dX10_exponentRow_38 : decode cX10_exponentRow 38 = .ok (.aload_n 0, 1) := by decide +kernel
theorem dX10_exponentRow_39 : decode cX10_exponentRow 39 = .ok (.dup, 1) := by decide +kernel
theorem dX10_exponentRow_40 : decode cX10_exponentRow 40 = .ok (.getfield 107, 3) := by decide +kernel
theorem dX10_exponentRow_43 : decode cX10_exponentRow 43 = .ok (.iconst 1, 1) := by decide +kernel
theorem dX10_exponentRow_44 : decode cX10_exponentRow 44 = .ok (.iadd, 1) := by decide +kernel
theorem dX10_exponentRow_45 : decode cX10_exponentRow 45 = .ok (.putfield 107, 3) := by decide +kernel
theorem dX10_exponentRow_48 : decode cX10_exponentRow 48 = .ok (.iconst 0, 1) := by decide +kernel
theorem dX10_exponentRow_49 : decode cX10_exponentRow 49 = .ok (.istore_n 2, 1) := by decide +kernel
theorem dX10_exponentRow_50 : decode cX10_exponentRow 50 = .ok (.iconst 0, 1) := by decide +kernel
theorem dX10_exponentRow_51 : decode cX10_exponentRow 51 = .ok (.istore_n 3, 1) := by decide +kernel
theorem dX10_exponentRow_52 : decode cX10_exponentRow 52 = .ok (.iconst 0, 1) := by decide +kernel
theorem dX10_exponentRow_53 : decode cX10_exponentRow 53 = .ok (.istore 4, 2) := by decide +kernel
theorem dX10_exponentRow_55 : decode cX10_exponentRow 55 = .ok (.aload_n 0, 1) := by decide +kernel
theorem dX10_exponentRow_56 : decode cX10_exponentRow 56 = .ok (.invokevirtual 110, 3) := by decide +kernel
theorem dX10_exponentRow_59 : decode cX10_exponentRow 59 = .ok (.iconst 0, 1) := by decide +kernel
theorem dX10_exponentRow_60 : decode cX10_exponentRow 60 = .ok (.invokestatic 114, 3) := by decide +kernel
theorem dX10_exponentRow_63 : decode cX10_exponentRow 63 = .ok (.ifCond .ge 16, 3) := by decide +kernel
theorem dX10_exponentRow_66 : decode cX10_exponentRow 66 = .ok (.iload_n 2, 1) := by decide +kernel
theorem dX10_exponentRow_67 : decode cX10_exponentRow 67 = .ok (.ifCond .le 74, 3) := by decide +kernel
theorem dX10_exponentRow_70 : decode cX10_exponentRow 70 = .ok (.aload_n 0, 1) := by decide +kernel
theorem dX10_exponentRow_71 : decode cX10_exponentRow 71 = .ok (.invokevirtual 110, 3) := by decide +kernel
theorem dX10_exponentRow_74 : decode cX10_exponentRow 74 = .ok (.bipush 95, 2) := by decide +kernel
theorem dX10_exponentRow_76 : decode cX10_exponentRow 76 = .ok (.if_icmp .ne 65, 3) := by decide +kernel
theorem dX10_exponentRow_79 : decode cX10_exponentRow 79 = .ok (.aload_n 0, 1) := by decide +kernel
theorem dX10_exponentRow_80 : decode cX10_exponentRow 80 = .ok (.invokevirtual 110, 3) := by decide +kernel
theorem dX10_exponentRow_83 : decode cX10_exponentRow 83 = .ok (.bipush 95, 2) := by decide +kernel
theorem dX10_exponentRow_85 : decode cX10_exponentRow 85 = .ok (.if_icmp .eq 7, 3) := by decide +kernel
theorem dX10_exponentRow_88 : decode cX10_exponentRow 88 = .ok (.iconst 1, 1) := by decide +kernel
theorem dX10_exponentRow_89 : decode cX10_exponentRow 89 = .ok (.goto 4, 3) := by decide +kernel
theorem dX10_exponentRow_92 : decode cX10_exponentRow 92 = .ok (.iconst 0, 1) := by decide +kernel
theorem dX10_exponentRow_93 : decode cX10_exponentRow 93 = .ok (.istore 4, 2) := by decide +kernel
theorem dX10_exponentRow_95 : decode cX10_exponentRow 95 = .ok (.iload 4, 2) := by decide +kernel
theorem dX10_exponentRow_97 : decode cX10_exponentRow 97 = .ok (.ifCond .eq 31, 3) := by decide +kernel
theorem dX10_exponentRow_100 : decode cX10_exponentRow 100 = .ok (.iload_n 3, 1) := by decide +kernel
theorem dX10_exponentRow_101 : decode cX10_exponentRow 101 = .ok (.ldc 125, 2) := by decide +kernel
theorem dX10_exponentRow_103 : decode cX10_exponentRow 103 = .ok (.if_icmp .le 8, 3) := by decide +kernel
theorem dX10_exponentRow_106 : decode cX10_exponentRow 106 = .ok (.ldc 126, 2) := by decide +kernel
theorem dX10_exponentRow_108 : decode cX10_exponentRow 108 = .ok (.goto 16, 3) := by decide +kernel
theorem dX10_exponentRow_111 : decode cX10_exponentRow 111 = .ok (.bipush 10, 2) := by decide +kernel
theorem dX10_exponentRow_113 : decode cX10_exponentRow 113 = .ok (.iload_n 3, 1) := by decide +kernel
theorem dX10_exponentRow_114 : decode cX10_exponentRow 114 = .ok (.imul, 1) := by decide +kernel
theorem dX10_exponentRow_115 : decode cX10_exponentRow 115 = .ok (.aload_n 0, 1) := by decide +kernel
theorem dX10_exponentRow_116 : decode cX10_exponentRow 116 = .ok (.invokevirtual 110, 3) := by decide +kernel
theorem dX10_exponentRow_119 : decode cX10_exponentRow 119 = .ok (.iconst 0, 1) := by decide +kernel
theorem dX10_exponentRow_120 : decode cX10_exponentRow 120 = .ok (.invokestatic 114, 3) := by decide +kernel
theorem dX10_exponentRow_123 : decode cX10_exponentRow 123 = .ok (.iadd, 1) := by decide +kernel
theorem dX10_exponentRow_124 : decode cX10_exponentRow 124 = .ok (.istore_n 3, 1) := by decide +kernel
theorem dX10_exponentRow_125 : decode cX10_exponentRow 125 = .ok (.iinc 2 1, 3) := by decide +kernel
theorem dX10_exponentRow_128 : decode cX10_exponentRow 128 = .ok (.aload_n 0, 1) := by decide +kernel
theorem dX10_exponentRow_129 : decode cX10_exponentRow 129 = .ok (.dup, 1) := by decide +kernel
theorem dX10_exponentRow_130 : decode cX10_exponentRow 130 = .ok (.getfield 107, 3) := by decide +kernel
theorem dX10_exponentRow_133 : decode cX10_exponentRow 133 = .ok (.iconst 1, 1) := by decide +kernel
theorem dX10_exponentRow_134 : decode cX10_exponentRow 134 = .ok (.iadd, 1) := by decide +kernel
theorem dX10_exponentRow_135 : decode cX10_exponentRow 135 = .ok (.putfield 107, 3) := by decide +kernel
theorem dX10_exponentRow_138 : decode cX10_exponentRow 138 = .ok (.goto (-83), 3) := by decide +kernel
theorem dX10_exponentRow_141 : decode cX10_exponentRow 141 = .ok (.iload_n 2, 1) := by decide +kernel
theorem dX10_exponentRow_142 : decode cX10_exponentRow 142 = .ok (.ifCond .eq 8, 3) := by decide +kernel
theorem dX10_exponentRow_145 : decode cX10_exponentRow 145 = .ok (.iload 4, 2) := by decide +kernel
theorem dX10_exponentRow_147 : decode cX10_exponentRow 147 = .ok (.ifCond .ne 8, 3) := by decide +kernel
theorem dX10_exponentRow_150 : decode cX10_exponentRow 150 = .ok (.aload_n 0, 1) := by decide +kernel
theorem dX10_exponentRow_151 : decode cX10_exponentRow 151 = .ok (.iconst 0, 1) := by decide +kernel
theorem dX10_exponentRow_152 : decode cX10_exponentRow 152 = .ok (.putfield 121, 3) := by decide +kernel
theorem dX10_exponentRow_155 : decode cX10_exponentRow 155 = .ok (.aload_n 0, 1) := by decide +kernel
theorem dX10_exponentRow_156 : decode cX10_exponentRow 156 = .ok (.dup, 1) := by decide +kernel
theorem dX10_exponentRow_157 : decode cX10_exponentRow 157 = .ok (.getfield 127, 3) := by decide +kernel
theorem dX10_exponentRow_160 : decode cX10_exponentRow 160 = .ok (.iload_n 1, 1) := by decide +kernel
theorem dX10_exponentRow_161 : decode cX10_exponentRow 161 = .ok (.ifCond .eq 8, 3) := by decide +kernel
theorem dX10_exponentRow_164 : decode cX10_exponentRow 164 = .ok (.iload_n 3, 1) := by decide +kernel
theorem dX10_exponentRow_165 : decode cX10_exponentRow 165 = .ok (.ineg, 1) := by decide +kernel
theorem dX10_exponentRow_166 : decode cX10_exponentRow 166 = .ok (.goto 4, 3) := by decide +kernel
theorem dX10_exponentRow_169 : decode cX10_exponentRow 169 = .ok (.iload_n 3, 1) := by decide +kernel
theorem dX10_exponentRow_170 : decode cX10_exponentRow 170 = .ok (.iadd, 1) := by decide +kernel
theorem dX10_exponentRow_171 : decode cX10_exponentRow 171 = .ok (.putfield 127, 3) := by decide +kernel
theorem dX10_exponentRow_174 : decode cX10_exponentRow 174 = .ok (.return_, 1) := by decide +kernel
theorem dX10_isBinary_0 : decode cX10_isBinary 0 = .ok (.aload_n 0, 1) := by decide +kernel
theorem dX10_isBinary_1 : decode cX10_isBinary 1 = .ok (.getfield 46, 3) := by decide +kernel
theorem dX10_isBinary_4 : decode cX10_isBinary 4 = .ok (.iconst 1, 1) := by decide +kernel
theorem dX10_isBinary_5 : decode cX10_isBinary 5 = .ok (.if_icmp .le 40, 3) := by decide +kernel
theorem dX10_isBinary_8 : decode cX10_isBinary 8 = .ok (.aload_n 0, 1) := by decide +kernel
theorem dX10_isBinary_9 : decode cX10_isBinary 9 = .ok (.getfield 7, 3) := by decide +kernel
theorem dX10_isBinary_12 : decode cX10_isBinary 12 = .ok (.iconst 0, 1) := by decide +kernel
theorem dX10_isBinary_13 : decode cX10_isBinary 13 = .ok (.iaload, 1) := by decide +kernel
theorem dX10_isBinary_14 : decode cX10_isBinary 14 = .ok (.bipush 48, 2) := by decide +kernel
theorem dX10_isBinary_16 : decode cX10_isBinary 16 = .ok (.if_icmp .ne 29, 3) := by decide +kernel
theorem dX10_isBinary_19 : decode cX10_isBinary 19 = .ok (.aload_n 0, 1) := by decide +kernel
theorem dX10_isBinary_20 : decode cX10_isBinary 20 = .ok (.getfield 7, 3) := by decide +kernel
theorem dX10_isBinary_23 : decode cX10_isBinary 23 = .ok (.iconst 1, 1) := by decide +kernel
theorem dX10_isBinary_24 : decode cX10_isBinary 24 = .ok (.iaload, 1) := by decide +kernel
theorem dX10_isBinary_25 : decode cX10_isBinary 25 = .ok (.bipush 120, 2) := by decide +kernel
theorem dX10_isBinary_27 : decode cX10_isBinary 27 = .ok (.if_icmp .eq 14, 3) := by decide +kernel
theorem dX10_isBinary_30 : decode cX10_isBinary 30 = .ok (.aload_n 0, 1) := by decide +kernel
theorem dX10_isBinary_31 : decode cX10_isBinary 31 = .ok (.getfield 7, 3) := by decide +kernel
theorem dX10_isBinary_34 : decode cX10_isBinary 34 = .ok (.iconst 1, 1) := by decide +kernel
theorem dX10_isBinary_35 : decode cX10_isBinary 35 = .ok (.iaload, 1) := by decide +kernel
theorem dX10_isBinary_36 : decode cX10_isBinary 36 = .ok (.bipush 88, 2) := by decide +kernel
theorem dX10_isBinary_38 : decode cX10_isBinary 38 = .ok (.if_icmp .ne 7, 3) := by decide +kernel
theorem dX10_isBinary_41 : decode cX10_isBinary 41 = .ok (.iconst 1, 1) := by decide +kernel
theorem dX10_isBinary_42 : decode cX10_isBinary 42 = .ok (.goto 4, 3) := by decide +kernel
theorem dX10_isBinary_45 : decode cX10_isBinary 45 = .ok (.iconst 0, 1) := by decide +kernel
theorem dX10_isBinary_46 : decode cX10_isBinary 46 = .ok (.ireturn, 1) := by decide +kernel
set_option maxRecDepth 20000 in
theorem ggX10_literal_X10_row : GoodIn wsX10_literal wsX10_row := goodIn_r _ [11, 2, 12, 3, 1, 5, 13, 14, 15, 10, 16, 6, 17, 18, 19, 20, 21, 22, 23, 24, 25, 26, 27, 28, 29, 30, 37, 38, 39, 40, 41, 42, 43, 44, 45, 46, 47, 48, 49, 50, 51, 52, 53, 54, 55, 56, 57, 58, 59, 60, 61, 62] rfl (by decide +kernel)
set_option maxRecDepth 20000 in
theorem gX10_literal_X10_row : GoodIn wsX10_literal (wsV RX10 130 RX10 yX10_row wsX10_row) := goodIn_app (goodIn_of _ (by decide +kernel)) ggX10_literal_X10_row
set_option maxRecDepth 20000 in
theorem ggX10_literal_X10_look : GoodIn wsX10_literal wsX10_look := goodIn_r _ [16, 1, 6, 17, 37, 38, 39, 40, 41, 42, 43, 44, 45, 46, 47, 48, 49, 50, 51, 52, 53, 54, 55, 56, 57, 58, 59, 60, 61, 62] rfl (by decide +kernel)
