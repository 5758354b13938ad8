theorem dX9_moveWall_14 : decode cX9_moveWall 14 = .ok (.bipush (-63), 2) := by decide +kernel
theorem dX9_moveWall_16 : decode cX9_moveWall 16 = .ok (.bipush 63, 2) := by decide +kernel
theorem dX9_moveWall_18 : decode cX9_moveWall 18 = .ok (.invokestatic 90, 3) := by decide +kernel
theorem dX9_moveWall_21 : decode cX9_moveWall 21 = .ok (.ifCond .ne 14, 3) := by decide +kernel
theorem dX9_moveWall_24 : decode cX9_moveWall 24 = .ok (.iload_n 3, 1) := by decide +kernel
theorem dX9_moveWall_25 : decode cX9_moveWall 25 = .ok (.bipush (-63), 2) := by decide +kernel
theorem dX9_moveWall_27 : decode cX9_moveWall 27 = .ok (.bipush 63, 2) := by decide +kernel
theorem dX9_moveWall_29 : decode cX9_moveWall 29 = .ok (.invokestatic 90, 3) := by decide +kernel
theorem dX9_moveWall_32 : decode cX9_moveWall 32 = .ok (.ifCond .eq 6, 3) := by decide +kernel
theorem dX9_moveWall_35 : decode cX9_moveWall 35 = .ok (.bipush (-2), 2) := by decide +kernel
theorem dX9_moveWall_37 : decode cX9_moveWall 37 = .ok (.ireturn, 1) := by decide +kernel
theorem dX9_moveWall_38 : decode cX9_moveWall 38 = .ok (.aload_n 0, 1) := by decide +kernel
theorem dX9_moveWall_39 : decode cX9_moveWall 39 = .ok (.getfield 12, 3) := by decide +kernel
theorem dX9_moveWall_42 : decode cX9_moveWall 42 = .ok (.iload_n 1, 1) := by decide +kernel
theorem dX9_moveWall_43 : decode cX9_moveWall 43 = .ok (.invokevirtual 116, 3) := by decide +kernel
theorem dX9_moveWall_46 : decode cX9_moveWall 46 = .ok (.iload_n 2, 1) := by decide +kernel
theorem dX9_moveWall_47 : decode cX9_moveWall 47 = .ok (.iadd, 1) := by decide +kernel
theorem dX9_moveWall_48 : decode cX9_moveWall 48 = .ok (.aload_n 0, 1) := by decide +kernel
theorem dX9_moveWall_49 : decode cX9_moveWall 49 = .ok (.getfield 12, 3) := by decide +kernel
theorem dX9_moveWall_52 : decode cX9_moveWall 52 = .ok (.iload_n 1, 1) := by decide +kernel
theorem dX9_moveWall_53 : decode cX9_moveWall 53 = .ok (.invokevirtual 120, 3) := by decide +kernel
theorem dX9_moveWall_56 : decode cX9_moveWall 56 = .ok (.iload_n 3, 1) := by decide +kernel
theorem dX9_moveWall_57 : decode cX9_moveWall 57 = .ok (.iadd, 1) := by decide +kernel
theorem dX9_moveWall_58 : decode cX9_moveWall 58 = .ok (.invokestatic 86, 3) := by decide +kernel
theorem dX9_moveWall_61 : decode cX9_moveWall 61 = .ok (.ifCond .ne 29, 3) := by decide +kernel
theorem dX9_moveWall_64 : decode cX9_moveWall 64 = .ok (.aload_n 0, 1) := by decide +kernel
theorem dX9_moveWall_65 : decode cX9_moveWall 65 = .ok (.getfield 12, 3) := by decide +kernel
theorem dX9_moveWall_68 : decode cX9_moveWall 68 = .ok (.iload_n 1, 1) := by decide +kernel
theorem dX9_moveWall_69 : decode cX9_moveWall 69 = .ok (.invokevirtual 123, 3) := by decide +kernel
theorem dX9_moveWall_72 : decode cX9_moveWall 72 = .ok (.iload_n 2, 1) := by decide +kernel
theorem dX9_moveWall_73 : decode cX9_moveWall 73 = .ok (.iadd, 1) := by decide +kernel
theorem dX9_moveWall_74 : decode cX9_moveWall 74 = .ok (.aload_n 0, 1) := by decide +kernel
theorem dX9_moveWall_75 : decode cX9_moveWall 75 = .ok (.getfield 12, 3) := by decide +kernel
theorem dX9_moveWall_78 : decode cX9_moveWall 78 = .ok (.iload_n 1, 1) := by decide +kernel
theorem dX9_moveWall_79 : decode cX9_moveWall 79 = .ok (.invokevirtual 126, 3) := by decide +kernel
theorem dX9_moveWall_82 : decode cX9_moveWall 82 = .ok (.iload_n 3, 1) := by decide +kernel
theorem dX9_moveWall_83 : decode cX9_moveWall 83 = .ok (.iadd, 1) := by decide +kernel
theorem dX9_moveWall_84 : decode cX9_moveWall 84 = .ok (.invokestatic 86, 3) := by decide +kernel
theorem dX9_moveWall_87 : decode cX9_moveWall 87 = .ok (.ifCond .eq 6, 3) := by decide +kernel
theorem dX9_moveWall_90 : decode cX9_moveWall 90 = .ok (.bipush (-2), 2) := by decide +kernel
theorem dX9_moveWall_92 : decode cX9_moveWall 92 = .ok (.ireturn, 1) := by decide +kernel
theorem dX9_moveWall_93 : decode cX9_moveWall 93 = .ok (.aload_n 0, 1) := by decide +kernel
theorem dX9_moveWall_94 : decode cX9_moveWall 94 = .ok (.getfield 12, 3) := by decide +kernel
theorem dX9_moveWall_97 : decode cX9_moveWall 97 = .ok (.iload_n 1, 1) := by decide +kernel
theorem dX9_moveWall_98 : decode cX9_moveWall 98 = .ok (.invokevirtual 116, 3) := by decide +kernel
theorem dX9_moveWall_101 : decode cX9_moveWall 101 = .ok (.aload_n 0, 1) := by decide +kernel
theorem dX9_moveWall_102 : decode cX9_moveWall 102 = .ok (.getfield 12, 3) := by decide +kernel
theorem dX9_moveWall_105 : decode cX9_moveWall 105 = .ok (.iload_n 1, 1) := by decide +kernel
theorem dX9_moveWall_106 : decode cX9_moveWall 106 = .ok (.invokevirtual 120, 3) := by decide +kernel
theorem dX9_moveWall_109 : decode cX9_moveWall 109 = .ok (.invokestatic 129, 3) := by decide +kernel
theorem dX9_moveWall_112 : decode cX9_moveWall 112 = .ok (.istore 4, 2) := by decide +kernel
theorem dX9_moveWall_114 : decode cX9_moveWall 114 = .ok (.aload_n 0, 1) := by decide +kernel
theorem dX9_moveWall_115 : decode cX9_moveWall 115 = .ok (.invokevirtual 98, 3) := by decide +kernel
theorem dX9_moveWall_118 : decode cX9_moveWall 118 = .ok (.aload_n 0, 1) := by decide +kernel
theorem dX9_moveWall_119 : decode cX9_moveWall 119 = .ok (.getfield 12, 3) := by decide +kernel
theorem dX9_moveWall_122 : decode cX9_moveWall 122 = .ok (.iload_n 1, 1) := by decide +kernel
theorem dX9_moveWall_123 : decode cX9_moveWall 123 = .ok (.iload_n 2, 1) := by decide +kernel
theorem dX9_moveWall_124 : decode cX9_moveWall 124 = .ok (.iload_n 3, 1) := by decide +kernel
theorem dX9_moveWall_125 : decode cX9_moveWall 125 = .ok (.invokevirtual 133, 3) := by decide +kernel
theorem dX9_moveWall_128 : decode cX9_moveWall 128 = .ok (.iload 4, 2) := by decide +kernel
theorem dX9_moveWall_130 : decode cX9_moveWall 130 = .ok (.ireturn, 1) := by decide +kernel
theorem dX9_turnWall_0 : decode cX9_turnWall 0 = .ok (.aload_n 0, 1) := by decide +kernel
theorem dX9_turnWall_1 : decode cX9_turnWall 1 = .ok (.getfield 12, 3) := by decide +kernel
theorem dX9_turnWall_4 : decode cX9_turnWall 4 = .ok (.iload_n 1, 1) := by decide +kernel
theorem dX9_turnWall_5 : decode cX9_turnWall 5 = .ok (.invokevirtual 105, 3) := by decide +kernel
theorem dX9_turnWall_8 : decode cX9_turnWall 8 = .ok (.ifCond .ne 5, 3) := by decide +kernel
theorem dX9_turnWall_11 : decode cX9_turnWall 11 = .ok (.iconst (-1), 1) := by decide +kernel
theorem dX9_turnWall_12 : decode cX9_turnWall 12 = .ok (.ireturn, 1) := by decide +kernel
theorem dX9_turnWall_13 : decode cX9_turnWall 13 = .ok (.aload_n 0, 1) := by decide +kernel
theorem dX9_turnWall_14 : decode cX9_turnWall 14 = .ok (.invokevirtual 98, 3) := by decide +kernel
theorem dX9_turnWall_17 : decode cX9_turnWall 17 = .ok (.aload_n 0, 1) := by decide +kernel
theorem dX9_turnWall_18 : decode cX9_turnWall 18 = .ok (.getfield 12, 3) := by decide +kernel
theorem dX9_turnWall_21 : decode cX9_turnWall 21 = .ok (.iload_n 1, 1) := by decide +kernel
theorem dX9_turnWall_22 : decode cX9_turnWall 22 = .ok (.invokevirtual 137, 3) := by decide +kernel
theorem dX9_turnWall_25 : decode cX9_turnWall 25 = .ok (.aload_n 0, 1) := by decide +kernel
theorem dX9_turnWall_26 : decode cX9_turnWall 26 = .ok (.getfield 12, 3) := by decide +kernel
theorem dX9_turnWall_29 : decode cX9_turnWall 29 = .ok (.iload_n 1, 1) := by decide +kernel
theorem dX9_turnWall_30 : decode cX9_turnWall 30 = .ok (.invokevirtual 140, 3) := by decide +kernel
theorem dX9_turnWall_33 : decode cX9_turnWall 33 = .ok (.ireturn, 1) := by decide +kernel
theorem dX9_setKind_0 : decode cX9_setKind 0 = .ok (.aload_n 0, 1) := by decide +kernel
theorem dX9_setKind_1 : decode cX9_setKind 1 = .ok (.getfield 12, 3) := by decide +kernel
theorem dX9_setKind_4 : decode cX9_setKind 4 = .ok (.iload_n 1, 1) := by decide +kernel
theorem dX9_setKind_5 : decode cX9_setKind 5 = .ok (.invokevirtual 105, 3) := by decide +kernel
theorem dX9_setKind_8 : decode cX9_setKind 8 = .ok (.ifCond .ne 5, 3) := by decide +kernel
theorem dX9_setKind_11 : decode cX9_setKind 11 = .ok (.iconst (-1), 1) := by decide +kernel
theorem dX9_setKind_12 : decode cX9_setKind 12 = .ok (.ireturn, 1) := by decide +kernel
theorem dX9_setKind_13 : decode cX9_setKind 13 = .ok (.iload_n 2, 1) := by decide +kernel
theorem dX9_setKind_14 : decode cX9_setKind 14 = .ok (.iconst 0, 1) := by decide +kernel
theorem dX9_setKind_15 : decode cX9_setKind 15 = .ok (.iconst 2, 1) := by decide +kernel
theorem dX9_setKind_16 : decode cX9_setKind 16 = .ok (.invokestatic 90, 3) := by decide +kernel
theorem dX9_setKind_19 : decode cX9_setKind 19 = .ok (.ifCond .eq 6, 3) := by decide +kernel
theorem dX9_setKind_22 : decode cX9_setKind 22 = .ok (.bipush (-2), 2) := by decide +kernel
theorem dX9_setKind_24 : decode cX9_setKind 24 = .ok (.ireturn, 1) := by decide +kernel
theorem dX9_setKind_25 : decode cX9_setKind 25 = .ok (.aload_n 0, 1) := by decide +kernel
theorem dX9_setKind_26 : decode cX9_setKind 26 = .ok (.getfield 12, 3) := by decide +kernel
theorem dX9_setKind_29 : decode cX9_setKind 29 = .ok (.iload_n 1, 1) := by decide +kernel
theorem dX9_setKind_30 : decode cX9_setKind 30 = .ok (.invokevirtual 140, 3) := by decide +kernel
theorem dX9_setKind_33 : decode cX9_setKind 33 = .ok (.istore_n 3, 1) := by decide +kernel
theorem dX9_setKind_34 : decode cX9_setKind 34 = .ok (.aload_n 0, 1) := by decide +kernel
theorem dX9_setKind_35 : decode cX9_setKind 35 = .ok (.invokevirtual 98, 3) := by decide +kernel
theorem dX9_setKind_38 : decode cX9_setKind 38 = .ok (.aload_n 0, 1) := by decide +kernel
theorem dX9_setKind_39 : decode cX9_setKind 39 = .ok (.getfield 12, 3) := by decide +kernel
theorem dX9_setKind_42 : decode cX9_setKind 42 = .ok (.iload_n 1, 1) := by decide +kernel
theorem dX9_setKind_43 : decode cX9_setKind 43 = .ok (.iload_n 2, 1) := by decide +kernel
theorem dX9_setKind_44 : decode cX9_setKind 44 = .ok (.invokevirtual 143, 3) := by decide +kernel
theorem dX9_setKind_47 : decode cX9_setKind 47 = .ok (.iload_n 3, 1) := by decide +kernel
theorem dX9_setKind_48 : decode cX9_setKind 48 = .ok (.ireturn, 1) := by decide +kernel
theorem dX9_setWeights_0 : decode cX9_setWeights 0 = .ok (.iload_n 1, 1) := by decide +kernel
theorem dX9_setWeights_1 : decode cX9_setWeights 1 = .ok (.iload_n 2, 1) := by decide +kernel
theorem dX9_setWeights_2 : decode cX9_setWeights 2 = .ok (.invokestatic 147, 3) := by decide +kernel
theorem dX9_setWeights_5 : decode cX9_setWeights 5 = .ok (.ifCond .eq 6, 3) := by decide +kernel
theorem dX9_setWeights_8 : decode cX9_setWeights 8 = .ok (.bipush (-2), 2) := by decide +kernel
theorem dX9_setWeights_10 : decode cX9_setWeights 10 = .ok (.ireturn, 1) := by decide +kernel
theorem dX9_setWeights_11 : decode cX9_setWeights 11 = .ok (.aload_n 0, 1) := by decide +kernel
theorem dX9_setWeights_12 : decode cX9_setWeights 12 = .ok (.getfield 12, 3) := by decide +kernel
theorem dX9_setWeights_15 : decode cX9_setWeights 15 = .ok (.invokevirtual 150, 3) := by decide +kernel
theorem dX9_setWeights_18 : decode cX9_setWeights 18 = .ok (.istore_n 3, 1) := by decide +kernel
theorem dX9_setWeights_19 : decode cX9_setWeights 19 = .ok (.aload_n 0, 1) := by decide +kernel
theorem dX9_setWeights_20 : decode cX9_setWeights 20 = .ok (.invokevirtual 98, 3) := by decide +kernel
theorem dX9_setWeights_23 : decode cX9_setWeights 23 = .ok (.aload_n 0, 1) := by decide +kernel
theorem dX9_setWeights_24 : decode cX9_setWeights 24 = .ok (.getfield 12, 3) := by decide +kernel
theorem dX9_setWeights_27 : decode cX9_setWeights 27 = .ok (.iload_n 1, 1) := by decide +kernel
theorem dX9_setWeights_28 : decode cX9_setWeights 28 = .ok (.iload_n 2, 1) := by decide +kernel
theorem dX9_setWeights_29 : decode cX9_setWeights 29 = .ok (.invokevirtual 153, 3) := by decide +kernel
theorem dX9_setWeights_32 : decode cX9_setWeights 32 = .ok (.iload_n 3, 1) := by decide +kernel
theorem dX9_setWeights_33 : decode cX9_setWeights 33 = .ok (.ireturn, 1) := by decide +kernel
theorem dX9_undo_0 : decode cX9_undo 0 = .ok (.aload_n 0, 1) := by decide +kernel
theorem dX9_undo_1 : decode cX9_undo 1 = .ok (.getfield 25, 3) := by decide +kernel
theorem dX9_undo_4 : decode cX9_undo 4 = .ok (.invokevirtual 156, 3) := by decide +kernel
theorem dX9_undo_7 : decode cX9_undo 7 = .ok (.ifCond .eq 6, 3) := by decide +kernel
theorem dX9_undo_10 : decode cX9_undo 10 = .ok (.bipush (-5), 2) := by decide +kernel
theorem dX9_undo_12 : decode cX9_undo 12 = .ok (.ireturn, 1) := by decide +kernel
theorem dX9_undo_13 : decode cX9_undo 13 = .ok (.aload_n 0, 1) := by decide +kernel
theorem dX9_undo_14 : decode cX9_undo 14 = .ok (.getfield 25, 3) := by decide +kernel
theorem dX9_undo_17 : decode cX9_undo 17 = .ok (.aload_n 0, 1) := by decide +kernel
theorem dX9_undo_18 : decode cX9_undo 18 = .ok (.getfield 12, 3) := by decide +kernel
theorem dX9_undo_21 : decode cX9_undo 21 = .ok (.invokevirtual 160, 3) := by decide +kernel
theorem dX9_undo_24 : decode cX9_undo 24 = .ok (.aload_n 0, 1) := by decide +kernel
theorem dX9_undo_25 : decode cX9_undo 25 = .ok (.iconst 0, 1) := by decide +kernel
theorem dX9_undo_26 : decode cX9_undo 26 = .ok (.putfield 82, 3) := by decide +kernel
theorem dX9_undo_29 : decode cX9_undo 29 = .ok (.aload_n 0, 1) := by decide +kernel
theorem dX9_undo_30 : decode cX9_undo 30 = .ok (.getfield 25, 3) := by decide +kernel
theorem dX9_undo_33 : decode cX9_undo 33 = .ok (.invokevirtual 163, 3) := by decide +kernel
theorem dX9_undo_36 : decode cX9_undo 36 = .ok (.ireturn, 1) := by decide +kernel
theorem dX9_wallCount_0 : decode cX9_wallCount 0 = .ok (.aload_n 0, 1) := by decide +kernel
theorem dX9_wallCount_1 : decode cX9_wallCount 1 = .ok (.getfield 12, 3) := by decide +kernel
theorem dX9_wallCount_4 : decode cX9_wallCount 4 = .ok (.invokevirtual 113, 3) := by decide +kernel
theorem dX9_wallCount_7 : decode cX9_wallCount 7 = .ok (.ireturn, 1) := by decide +kernel
theorem dX9_coordinate_0 : decode cX9_coordinate 0 = .ok (.aload_n 0, 1) := by decide +kernel
theorem dX9_coordinate_1 : decode cX9_coordinate 1 = .ok (.getfield 12, 3) := by decide +kernel
theorem dX9_coordinate_4 : decode cX9_coordinate 4 = .ok (.iload_n 1, 1) := by decide +kernel
theorem dX9_coordinate_5 : decode cX9_coordinate 5 = .ok (.invokevirtual 105, 3) := by decide +kernel
theorem dX9_coordinate_8 : decode cX9_coordinate 8 = .ok (.ifCond .ne 5, 3) := by decide +kernel
theorem dX9_coordinate_11 : decode cX9_coordinate 11 = .ok (.iconst (-1), 1) := by decide +kernel
theorem dX9_coordinate_12 : decode cX9_coordinate 12 = .ok (.ireturn, 1) := by decide +kernel
theorem dX9_coordinate_13 : decode cX9_coordinate 13 = .ok (.iload_n 2, 1) := by decide +kernel
theorem dX9_coordinate_14 : decode cX9_coordinate 14 = .ok (.tableswitch 66 0 3 #[30, 39, 48, 57], 30) := by decide +kernel
theorem dX9_coordinate_44 : decode cX9_coordinate 44 = .ok (.aload_n 0, 1) := by decide +kernel
theorem dX9_coordinate_45 : decode cX9_coordinate 45 = .ok (.getfield 12, 3) := by decide +kernel
theorem dX9_coordinate_48 : decode cX9_coordinate 48 = .ok (.iload_n 1, 1) := by decide +kernel
theorem dX9_coordinate_49 : decode cX9_coordinate 49 = .ok (.invokevirtual 116, 3) := by decide +kernel
theorem dX9_coordinate_52 : decode cX9_coordinate 52 = .ok (.ireturn, 1) := by decide +kernel
theorem dX9_coordinate_53 : decode cX9_coordinate 53 = .ok (.aload_n 0, 1) := by decide +kernel
theorem dX9_coordinate_54 : decode cX9_coordinate 54 = .ok (.getfield 12, 3) := by decide +kernel
theorem dX9_coordinate_57 : decode cX9_coordinate 57 = .ok (.iload_n 1, 1) := by decide +kernel
theorem dX9_coordinate_58 : decode cX9_coordinate 58 = .ok (.invokevirtual 120, 3) := by decide +kernel
theorem dX9_coordinate_61 : decode cX9_coordinate 61 = .ok (.ireturn, 1) := by decide +kernel
theorem dX9_coordinate_62 : decode cX9_coordinate 62 = .ok (.aload_n 0, 1) := by decide +kernel
theorem dX9_coordinate_63 : decode cX9_coordinate 63 = .ok (.getfield 12, 3) := by decide +kernel
theorem dX9_coordinate_66 : decode cX9_coordinate 66 = .ok (.iload_n 1, 1) := by decide +kernel
theorem dX9_coordinate_67 : decode cX9_coordinate 67 = .ok (.invokevirtual 123, 3) := by decide +kernel
theorem dX9_coordinate_70 : decode cX9_coordinate 70 = .ok (.ireturn, 1) := by decide +kernel
theorem dX9_coordinate_71 : decode cX9_coordinate 71 = .ok (.aload_n 0, 1) := by decide +kernel
theorem dX9_coordinate_72 : decode cX9_coordinate 72 = .ok (.getfield 12, 3) := by decide +kernel
theorem dX9_coordinate_75 : decode cX9_coordinate 75 = .ok (.iload_n 1, 1) := by decide +kernel
theorem dX9_coordinate_76 : decode cX9_coordinate 76 = .ok (.invokevirtual 126, 3) := by decide +kernel
theorem dX9_coordinate_79 : decode cX9_coordinate 79 = .ok (.ireturn, 1) := by decide +kernel
theorem dX9_coordinate_80 : decode cX9_coordinate 80 = .ok (.bipush (-2), 2) := by decide +kernel
theorem dX9_coordinate_82 : decode cX9_coordinate 82 = .ok (.ireturn, 1) := by decide +kernel
theorem dX9_kind_0 : decode cX9_kind 0 = .ok (.aload_n 0, 1) := by decide +kernel
theorem dX9_kind_1 : decode cX9_kind 1 = .ok (.getfield 12, 3) := by decide +kernel
theorem dX9_kind_4 : decode cX9_kind 4 = .ok (.iload_n 1, 1) := by decide +kernel
theorem dX9_kind_5 : decode cX9_kind 5 = .ok (.invokevirtual 105, 3) := by decide +kernel
theorem dX9_kind_8 : decode cX9_kind 8 = .ok (.ifCond .ne 5, 3) := by decide +kernel
theorem dX9_kind_11 : decode cX9_kind 11 = .ok (.iconst (-1), 1) := by decide +kernel
theorem dX9_kind_12 : decode cX9_kind 12 = .ok (.ireturn, 1) := by decide +kernel
theorem dX9_kind_13 : decode cX9_kind 13 = .ok (.aload_n 0, 1) := by decide +kernel
theorem dX9_kind_14 : decode cX9_kind 14 = .ok (.getfield 12, 3) := by decide +kernel
theorem dX9_kind_17 : decode cX9_kind 17 = .ok (.iload_n 1, 1) := by decide +kernel
theorem dX9_kind_18 : decode cX9_kind 18 = .ok (.invokevirtual 140, 3) := by decide +kernel
theorem dX9_kind_21 : decode cX9_kind 21 = .ok (.aload_n 0, 1) := by decide +kernel
theorem dX9_kind_22 : decode cX9_kind 22 = .ok (.getfield 12, 3) := by decide +kernel
theorem dX9_kind_25 : decode cX9_kind 25 = .ok (.iload_n 1, 1) := by decide +kernel
theorem dX9_kind_26 : decode cX9_kind 26 = .ok (.invokevirtual 166, 3) := by decide +kernel
theorem dX9_kind_29 : decode cX9_kind 29 = .ok (.ifCond .eq 8, 3) := by decide +kernel
theorem dX9_kind_32 : decode cX9_kind 32 = .ok (.bipush 10, 2) := by decide +kernel
theorem dX9_kind_34 : decode cX9_kind 34 = .ok (.goto 4, 3) := by decide +kernel
theorem dX9_kind_37 : decode cX9_kind 37 = .ok (.iconst 0, 1) := by decide +kernel
theorem dX9_kind_38 : decode cX9_kind 38 = .ok (.iadd, 1) := by decide +kernel
theorem dX9_kind_39 : decode cX9_kind 39 = .ok (.ireturn, 1) := by decide +kernel
theorem dX9_weights_0 : decode cX9_weights 0 = .ok (.aload_n 0, 1) := by decide +kernel
theorem dX9_weights_1 : decode cX9_weights 1 = .ok (.getfield 12, 3) := by decide +kernel
theorem dX9_weights_4 : decode cX9_weights 4 = .ok (.invokevirtual 150, 3) := by decide +kernel
theorem dX9_weights_7 : decode cX9_weights 7 = .ok (.ireturn, 1) := by decide +kernel
theorem dX9_appendText_0 : decode cX9_appendText 0 = .ok (.iload_n 1, 1) := by decide +kernel
theorem dX9_appendText_1 : decode cX9_appendText 1 = .ok (.bipush 32, 2) := by decide +kernel
theorem dX9_appendText_3 : decode cX9_appendText 3 = .ok (.bipush 126, 2) := by decide +kernel
theorem dX9_appendText_5 : decode cX9_appendText 5 = .ok (.invokestatic 90, 3) := by decide +kernel
theorem dX9_appendText_8 : decode cX9_appendText 8 = .ok (.ifCond .eq 6, 3) := by decide +kernel
theorem dX9_appendText_11 : decode cX9_appendText 11 = .ok (.bipush (-2), 2) := by decide +kernel
theorem dX9_appendText_13 : decode cX9_appendText 13 = .ok (.ireturn, 1) := by decide +kernel
theorem dX9_appendText_14 : decode cX9_appendText 14 = .ok (.aload_n 0, 1) := by decide +kernel
theorem dX9_appendText_15 : decode cX9_appendText 15 = .ok (.getfield 32, 3) := by decide +kernel
theorem dX9_appendText_18 : decode cX9_appendText 18 = .ok (.invokevirtual 169, 3) := by decide +kernel
theorem dX9_appendText_21 : decode cX9_appendText 21 = .ok (.ifCond .eq 6, 3) := by decide +kernel
theorem dX9_appendText_24 : decode cX9_appendText 24 = .ok (.bipush (-3), 2) := by decide +kernel
theorem dX9_appendText_26 : decode cX9_appendText 26 = .ok (.ireturn, 1) := by decide +kernel
theorem dX9_appendText_27 : decode cX9_appendText 27 = .ok (.aload_n 0, 1) := by decide +kernel
theorem dX9_appendText_28 : decode cX9_appendText 28 = .ok (.getfield 32, 3) := by decide +kernel
theorem dX9_appendText_31 : decode cX9_appendText 31 = .ok (.iload_n 1, 1) := by decide +kernel
theorem dX9_appendText_32 : decode cX9_appendText 32 = .ok (.invokevirtual 172, 3) := by decide +kernel
theorem dX9_appendText_35 : decode cX9_appendText 35 = .ok (.aload_n 0, 1) := by decide +kernel
theorem dX9_appendText_36 : decode cX9_appendText 36 = .ok (.getfield 32, 3) := by decide +kernel
theorem dX9_appendText_39 : decode cX9_appendText 39 = .ok (.invokevirtual 175, 3) := by decide +kernel
theorem dX9_appendText_42 : decode cX9_appendText 42 = .ok (.ireturn, 1) := by decide +kernel
theorem dX9_clearText_0 : decode cX9_clearText 0 = .ok (.aload_n 0, 1) := by decide +kernel
theorem dX9_clearText_1 : decode cX9_clearText 1 = .ok (.getfield 32, 3) := by decide +kernel
theorem dX9_clearText_4 : decode cX9_clearText 4 = .ok (.invokevirtual 175, 3) := by decide +kernel
theorem dX9_clearText_7 : decode cX9_clearText 7 = .ok (.istore_n 1, 1) := by decide +kernel
theorem dX9_clearText_8 : decode cX9_clearText 8 = .ok (.aload_n 0, 1) := by decide +kernel
theorem dX9_clearText_9 : decode cX9_clearText 9 = .ok (.getfield 32, 3) := by decide +kernel
theorem dX9_clearText_12 : decode cX9_clearText 12 = .ok (.invokevirtual 178, 3) := by decide +kernel
theorem dX9_clearText_15 : decode cX9_clearText 15 = .ok (.iload_n 1, 1) := by decide +kernel
theorem dX9_clearText_16 : decode cX9_clearText 16 = .ok (.ireturn, 1) := by decide +kernel
theorem dX9_load_0 : decode cX9_load 0 = .ok (.aload_n 0, 1) := by decide +kernel
theorem dX9_load_1 : decode cX9_load 1 = .ok (.getfield 32, 3) := by decide +kernel
theorem dX9_load_4 : decode cX9_load 4 = .ok (.aload_n 0, 1) := by decide +kernel
theorem dX9_load_5 : decode cX9_load 5 = .ok (.getfield 19, 3) := by decide +kernel
theorem dX9_load_8 : decode cX9_load 8 = .ok (.invokevirtual 181, 3) := by decide +kernel
theorem dX9_load_11 : decode cX9_load 11 = .ok (.ifCond .ne 6, 3) := by decide +kernel
theorem dX9_load_14 : decode cX9_load 14 = .ok (.bipush (-9), 2) := by decide +kernel
theorem dX9_load_16 : decode cX9_load 16 = .ok (.ireturn, 1) := by decide +kernel
theorem dX9_load_17 : decode cX9_load 17 = .ok (.aload_n 0, 1) := by decide +kernel
theorem dX9_load_18 : decode cX9_load 18 = .ok (.invokevirtual 98, 3) := by decide +kernel
theorem dX9_load_21 : decode cX9_load 21 = .ok (.aload_n 0, 1) := by decide +kernel
theorem dX9_load_22 : decode cX9_load 22 = .ok (.getfield 12, 3) := by decide +kernel
theorem dX9_load_25 : decode cX9_load 25 = .ok (.aload_n 0, 1) := by decide +kernel
theorem dX9_load_26 : decode cX9_load 26 = .ok (.getfield 19, 3) := by decide +kernel
theorem dX9_load_29 : decode cX9_load 29 = .ok (.invokevirtual 185, 3) := by decide +kernel
theorem dX9_load_32 : decode cX9_load 32 = .ok (.aload_n 0, 1) := by decide +kernel
theorem dX9_load_33 : decode cX9_load 33 = .ok (.getfield 12, 3) := by decide +kernel
theorem dX9_load_36 : decode cX9_load 36 = .ok (.invokevirtual 113, 3) := by decide +kernel
theorem dX9_load_39 : decode cX9_load 39 = .ok (.ireturn, 1) := by decide +kernel
theorem dX9_faultPlace_0 : decode cX9_faultPlace 0 = .ok (.aload_n 0, 1) := by decide +kernel
theorem dX9_faultPlace_1 : decode cX9_faultPlace 1 = .ok (.getfield 32, 3) := by decide +kernel
theorem dX9_faultPlace_4 : decode cX9_faultPlace 4 = .ok (.invokevirtual 188, 3) := by decide +kernel
theorem dX9_faultPlace_7 : decode cX9_faultPlace 7 = .ok (.ireturn, 1) := by decide +kernel
theorem dX9_faultKind_0 : decode cX9_faultKind 0 = .ok (.aload_n 0, 1) := by decide +kernel
theorem dX9_faultKind_1 : decode cX9_faultKind 1 = .ok (.getfield 32, 3) := by decide +kernel
theorem dX9_faultKind_4 : decode cX9_faultKind 4 = .ok (.invokevirtual 191, 3) := by decide +kernel
theorem dX9_faultKind_7 : decode cX9_faultKind 7 = .ok (.ireturn, 1) := by decide +kernel
theorem dX9_faultItem_0 : decode cX9_faultItem 0 = .ok (.aload_n 0, 1) := by decide +kernel
theorem dX9_faultItem_1 : decode cX9_faultItem 1 = .ok (.getfield 32, 3) := by decide +kernel
theorem dX9_faultItem_4 : decode cX9_faultItem 4 = .ok (.invokevirtual 194, 3) := by decide +kernel
theorem dX9_faultItem_7 : decode cX9_faultItem 7 = .ok (.ireturn, 1) := by decide +kernel
theorem dX9_nodeCount_0 : decode cX9_nodeCount 0 = .ok (.aload_n 0, 1) := by decide +kernel
theorem dX9_nodeCount_1 : decode cX9_nodeCount 1 = .ok (.invokevirtual 197, 3) := by decide +kernel
theorem dX9_nodeCount_4 : decode cX9_nodeCount 4 = .ok (.aload_n 0, 1) := by decide +kernel
theorem dX9_nodeCount_5 : decode cX9_nodeCount 5 = .ok (.getfield 41, 3) := by decide +kernel
theorem dX9_nodeCount_8 : decode cX9_nodeCount 8 = .ok (.invokevirtual 200, 3) := by decide +kernel
theorem dX9_nodeCount_11 : decode cX9_nodeCount 11 = .ok (.ireturn, 1) := by decide +kernel
theorem dX9_nodeWall_0 : decode cX9_nodeWall 0 = .ok (.aload_n 0, 1) := by decide +kernel
theorem dX9_nodeWall_1 : decode cX9_nodeWall 1 = .ok (.invokevirtual 197, 3) := by decide +kernel
theorem dX9_nodeWall_4 : decode cX9_nodeWall 4 = .ok (.aload_n 0, 1) := by decide +kernel
theorem dX9_nodeWall_5 : decode cX9_nodeWall 5 = .ok (.getfield 41, 3) := by decide +kernel
theorem dX9_nodeWall_8 : decode cX9_nodeWall 8 = .ok (.iload_n 1, 1) := by decide +kernel
theorem dX9_nodeWall_9 : decode cX9_nodeWall 9 = .ok (.invokevirtual 203, 3) := by decide +kernel
theorem dX9_nodeWall_12 : decode cX9_nodeWall 12 = .ok (.ifCond .eq 14, 3) := by decide +kernel
theorem dX9_nodeWall_15 : decode cX9_nodeWall 15 = .ok (.aload_n 0, 1) := by decide +kernel
theorem dX9_nodeWall_16 : decode cX9_nodeWall 16 = .ok (.getfield 41, 3) := by decide +kernel
theorem dX9_nodeWall_19 : decode cX9_nodeWall 19 = .ok (.iload_n 1, 1) := by decide +kernel
theorem dX9_nodeWall_20 : decode cX9_nodeWall 20 = .ok (.invokevirtual 206, 3) := by decide +kernel
theorem dX9_nodeWall_23 : decode cX9_nodeWall 23 = .ok (.goto 5, 3) := by decide +kernel
theorem dX9_nodeWall_26 : decode cX9_nodeWall 26 = .ok (.bipush (-7), 2) := by decide +kernel
theorem dX9_nodeWall_28 : decode cX9_nodeWall 28 = .ok (.ireturn, 1) := by decide +kernel
theorem dX9_nodeChild_0 : decode cX9_nodeChild 0 = .ok (.iload_n 2, 1) := by decide +kernel
theorem dX9_nodeChild_1 : decode cX9_nodeChild 1 = .ok (.iconst 0, 1) := by decide +kernel
theorem dX9_nodeChild_2 : decode cX9_nodeChild 2 = .ok (.iconst 1, 1) := by decide +kernel
theorem dX9_nodeChild_3 : decode cX9_nodeChild 3 = .ok (.invokestatic 90, 3) := by decide +kernel
theorem dX9_nodeChild_6 : decode cX9_nodeChild 6 = .ok (.ifCond .eq 6, 3) := by decide +kernel
theorem dX9_nodeChild_9 : decode cX9_nodeChild 9 = .ok (.bipush (-2), 2) := by decide +kernel
theorem dX9_nodeChild_11 : decode cX9_nodeChild 11 = .ok (.ireturn, 1) := by decide +kernel
theorem dX9_nodeChild_12 : decode cX9_nodeChild 12 = .ok (.aload_n 0, 1) := by decide +kernel
theorem dX9_nodeChild_13 : decode cX9_nodeChild 13 = .ok (.invokevirtual 197, 3) := by decide +kernel
theorem dX9_nodeChild_16 : decode cX9_nodeChild 16 = .ok (.aload_n 0, 1) := by decide +kernel
theorem dX9_nodeChild_17 : decode cX9_nodeChild 17 = .ok (.getfield 41, 3) := by decide +kernel
theorem dX9_nodeChild_20 : decode cX9_nodeChild 20 = .ok (.iload_n 1, 1) := by decide +kernel
theorem dX9_nodeChild_21 : decode cX9_nodeChild 21 = .ok (.invokevirtual 203, 3) := by decide +kernel
theorem dX9_nodeChild_24 : decode cX9_nodeChild 24 = .ok (.ifCond .ne 6, 3) := by decide +kernel
theorem dX9_nodeChild_27 : decode cX9_nodeChild 27 = .ok (.bipush (-7), 2) := by decide +kernel
theorem dX9_nodeChild_29 : decode cX9_nodeChild 29 = .ok (.ireturn, 1) := by decide +kernel
theorem dX9_nodeChild_30 : decode cX9_nodeChild 30 = .ok (.iload_n 2, 1) := by decide +kernel
theorem dX9_nodeChild_31 : decode cX9_nodeChild 31 = .ok (.ifCond .ne 14, 3) := by decide +kernel
theorem dX9_nodeChild_34 : decode cX9_nodeChild 34 = .ok (.aload_n 0, 1) := by decide +kernel
theorem dX9_nodeChild_35 : decode cX9_nodeChild 35 = .ok (.getfield 41, 3) := by decide +kernel
theorem dX9_nodeChild_38 : decode cX9_nodeChild 38 = .ok (.iload_n 1, 1) := by decide +kernel
theorem dX9_nodeChild_39 : decode cX9_nodeChild 39 = .ok (.invokevirtual 209, 3) := by decide +kernel
theorem dX9_nodeChild_42 : decode cX9_nodeChild 42 = .ok (.goto 11, 3) := by decide +kernel
theorem dX9_nodeChild_45 : decode cX9_nodeChild 45 = .ok (.aload_n 0, 1) := by decide +kernel
theorem dX9_nodeChild_46 : decode cX9_nodeChild 46 = .ok (.getfield 41, 3) := by decide +kernel
theorem dX9_nodeChild_49 : decode cX9_nodeChild 49 = .ok (.iload_n 1, 1) := by decide +kernel
theorem dX9_nodeChild_50 : decode cX9_nodeChild 50 = .ok (.invokevirtual 212, 3) := by decide +kernel
theorem dX9_nodeChild_53 : decode cX9_nodeChild 53 = .ok (.istore_n 3, 1) := by decide +kernel
theorem dX9_nodeChild_54 : decode cX9_nodeChild 54 = .ok (.iload_n 3, 1) := by decide +kernel
theorem dX9_nodeChild_55 : decode cX9_nodeChild 55 = .ok (.ifCond .lt 7, 3) := by decide +kernel
theorem dX9_nodeChild_58 : decode cX9_nodeChild 58 = .ok (.iload_n 3, 1) := by decide +kernel
theorem dX9_nodeChild_59 : decode cX9_nodeChild 59 = .ok (.goto 5, 3) := by decide +kernel
theorem dX9_nodeChild_62 : decode cX9_nodeChild 62 = .ok (.bipush (-8), 2) := by decide +kernel
theorem dX9_nodeChild_64 : decode cX9_nodeChild 64 = .ok (.ireturn, 1) := by decide +kernel
theorem dX9_nodeDepth_0 : decode cX9_nodeDepth 0 = .ok (.aload_n 0, 1) := by decide +kernel
theorem dX9_nodeDepth_1 : decode cX9_nodeDepth 1 = .ok (.invokevirtual 197, 3) := by decide +kernel
theorem dX9_nodeDepth_4 : decode cX9_nodeDepth 4 = .ok (.aload_n 0, 1) := by decide +kernel
theorem dX9_nodeDepth_5 : decode cX9_nodeDepth 5 = .ok (.getfield 41, 3) := by decide +kernel
theorem dX9_nodeDepth_8 : decode cX9_nodeDepth 8 = .ok (.iload_n 1, 1) := by decide +kernel
theorem dX9_nodeDepth_9 : decode cX9_nodeDepth 9 = .ok (.invokevirtual 203, 3) := by decide +kernel
theorem dX9_nodeDepth_12 : decode cX9_nodeDepth 12 = .ok (.ifCond .eq 14, 3) := by decide +kernel
theorem dX9_nodeDepth_15 : decode cX9_nodeDepth 15 = .ok (.aload_n 0, 1) := by decide +kernel
theorem dX9_nodeDepth_16 : decode cX9_nodeDepth 16 = .ok (.getfield 41, 3) := by decide +kernel
theorem dX9_nodeDepth_19 : decode cX9_nodeDepth 19 = .ok (.iload_n 1, 1) := by decide +kernel
theorem dX9_nodeDepth_20 : decode cX9_nodeDepth 20 = .ok (.invokevirtual 215, 3) := by decide +kernel
theorem dX9_nodeDepth_23 : decode cX9_nodeDepth 23 = .ok (.goto 5, 3) := by decide +kernel
theorem dX9_nodeDepth_26 : decode cX9_nodeDepth 26 = .ok (.bipush (-7), 2) := by decide +kernel
theorem dX9_nodeDepth_28 : decode cX9_nodeDepth 28 = .ok (.ireturn, 1) := by decide +kernel
theorem dX9_pieceCount_0 : decode cX9_pieceCount 0 = .ok (.aload_n 0, 1) := by decide +kernel
theorem dX9_pieceCount_1 : decode cX9_pieceCount 1 = .ok (.invokevirtual 197, 3) := by decide +kernel
theorem dX9_pieceCount_4 : decode cX9_pieceCount 4 = .ok (.aload_n 0, 1) := by decide +kernel
theorem dX9_pieceCount_5 : decode cX9_pieceCount 5 = .ok (.getfield 41, 3) := by decide +kernel
theorem dX9_pieceCount_8 : decode cX9_pieceCount 8 = .ok (.invokevirtual 218, 3) := by decide +kernel
theorem dX9_pieceCount_11 : decode cX9_pieceCount 11 = .ok (.ireturn, 1) := by decide +kernel
theorem dX9_pieceWall_0 : decode cX9_pieceWall 0 = .ok (.aload_n 0, 1) := by decide +kernel
theorem dX9_pieceWall_1 : decode cX9_pieceWall 1 = .ok (.invokevirtual 197, 3) := by decide +kernel
theorem dX9_pieceWall_4 : decode cX9_pieceWall 4 = .ok (.aload_n 0, 1) := by decide +kernel
theorem dX9_pieceWall_5 : decode cX9_pieceWall 5 = .ok (.getfield 41, 3) := by decide +kernel
theorem dX9_pieceWall_8 : decode cX9_pieceWall 8 = .ok (.iload_n 1, 1) := by decide +kernel
theorem dX9_pieceWall_9 : decode cX9_pieceWall 9 = .ok (.invokevirtual 221, 3) := by decide +kernel
theorem dX9_pieceWall_12 : decode cX9_pieceWall 12 = .ok (.ifCond .eq 14, 3) := by decide +kernel
theorem dX9_pieceWall_15 : decode cX9_pieceWall 15 = .ok (.aload_n 0, 1) := by decide +kernel
theorem dX9_pieceWall_16 : decode cX9_pieceWall 16 = .ok (.getfield 41, 3) := by decide +kernel
theorem dX9_pieceWall_19 : decode cX9_pieceWall 19 = .ok (.iload_n 1, 1) := by decide +kernel
theorem dX9_pieceWall_20 : decode cX9_pieceWall 20 = .ok (.invokevirtual 224, 3) := by decide +kernel
theorem dX9_pieceWall_23 : decode cX9_pieceWall 23 = .ok (.goto 5, 3) := by decide +kernel
theorem dX9_pieceWall_26 : decode cX9_pieceWall 26 = .ok (.bipush (-6), 2) := by decide +kernel
theorem dX9_pieceWall_28 : decode cX9_pieceWall 28 = .ok (.ireturn, 1) := by decide +kernel
theorem dX9_pieceNode_0 : decode cX9_pieceNode 0 = .ok (.aload_n 0, 1) := by decide +kernel
theorem dX9_pieceNode_1 : decode cX9_pieceNode 1 = .ok (.invokevirtual 197, 3) := by decide +kernel
theorem dX9_pieceNode_4 : decode cX9_pieceNode 4 = .ok (.aload_n 0, 1) := by decide +kernel
theorem dX9_pieceNode_5 : decode cX9_pieceNode 5 = .ok (.getfield 41, 3) := by decide +kernel
theorem dX9_pieceNode_8 : decode cX9_pieceNode 8 = .ok (.iload_n 1, 1) := by decide +kernel
theorem dX9_pieceNode_9 : decode cX9_pieceNode 9 = .ok (.invokevirtual 221, 3) := by decide +kernel
theorem dX9_pieceNode_12 : decode cX9_pieceNode 12 = .ok (.ifCond .eq 14, 3) := by decide +kernel
theorem dX9_pieceNode_15 : decode cX9_pieceNode 15 = .ok (.aload_n 0, 1) := by decide +kernel
theorem dX9_pieceNode_16 : decode cX9_pieceNode 16 = .ok (.getfield 41, 3) := by decide +kernel
theorem dX9_pieceNode_19 : decode cX9_pieceNode 19 = .ok (.iload_n 1, 1) := by decide +kernel
theorem dX9_pieceNode_20 : decode cX9_pieceNode 20 = .ok (.invokevirtual 227, 3) := by decide +kernel
theorem dX9_pieceNode_23 : decode cX9_pieceNode 23 = .ok (.goto 5, 3) := by decide +kernel
theorem dX9_pieceNode_26 : decode cX9_pieceNode 26 = .ok (.bipush (-6), 2) := by decide +kernel
theorem dX9_pieceNode_28 : decode cX9_pieceNode 28 = .ok (.ireturn, 1) := by decide +kernel
theorem dX9_pieceBound_0 : decode cX9_pieceBound 0 = .ok (.iload_n 2, 1) := by decide +kernel
theorem dX9_pieceBound_1 : decode cX9_pieceBound 1 = .ok (.iconst 0, 1) := by decide +kernel
theorem dX9_pieceBound_2 : decode cX9_pieceBound 2 = .ok (.iconst 3, 1) := by decide +kernel
theorem dX9_pieceBound_3 : decode cX9_pieceBound 3 = .ok (.invokestatic 90, 3) := by decide +kernel
theorem dX9_pieceBound_6 : decode cX9_pieceBound 6 = .ok (.ifCond .eq 6, 3) := by decide +kernel
theorem dX9_pieceBound_9 : decode cX9_pieceBound 9 = .ok (.bipush (-2), 2) := by decide +kernel
theorem dX9_pieceBound_11 : decode cX9_pieceBound 11 = .ok (.ireturn, 1) := by decide +kernel
theorem dX9_pieceBound_12 : decode cX9_pieceBound 12 = .ok (.aload_n 0, 1) := by decide +kernel
theorem dX9_pieceBound_13 : decode cX9_pieceBound 13 = .ok (.invokevirtual 197, 3) := by decide +kernel
theorem dX9_pieceBound_16 : decode cX9_pieceBound 16 = .ok (.aload_n 0, 1) := by decide +kernel
theorem dX9_pieceBound_17 : decode cX9_pieceBound 17 = .ok (.getfield 41, 3) := by decide +kernel
theorem dX9_pieceBound_20 : decode cX9_pieceBound 20 = .ok (.iload_n 1, 1) := by decide +kernel
theorem dX9_pieceBound_21 : decode cX9_pieceBound 21 = .ok (.invokevirtual 221, 3) := by decide +kernel
theorem dX9_pieceBound_24 : decode cX9_pieceBound 24 = .ok (.ifCond .eq 15, 3) := by decide +kernel
theorem dX9_pieceBound_27 : decode cX9_pieceBound 27 = .ok (.aload_n 0, 1) := by decide +kernel
theorem dX9_pieceBound_28 : decode cX9_pieceBound 28 = .ok (.getfield 41, 3) := by decide +kernel
theorem dX9_pieceBound_31 : decode cX9_pieceBound 31 = .ok (.iload_n 1, 1) := by decide +kernel
theorem dX9_pieceBound_32 : decode cX9_pieceBound 32 = .ok (.iload_n 2, 1) := by decide +kernel
theorem dX9_pieceBound_33 : decode cX9_pieceBound 33 = .ok (.invokevirtual 230, 3) := by decide +kernel
theorem dX9_pieceBound_36 : decode cX9_pieceBound 36 = .ok (.goto 5, 3) := by decide +kernel
theorem dX9_pieceBound_39 : decode cX9_pieceBound 39 = .ok (.bipush (-6), 2) := by decide +kernel
theorem dX9_pieceBound_41 : decode cX9_pieceBound 41 = .ok (.ireturn, 1) := by decide +kernel
theorem dX9_pieceLength_0 : decode cX9_pieceLength 0 = .ok (.aload_n 0, 1) := by decide +kernel
theorem dX9_pieceLength_1 : decode cX9_pieceLength 1 = .ok (.invokevirtual 197, 3) := by decide +kernel
theorem dX9_pieceLength_4 : decode cX9_pieceLength 4 = .ok (.aload_n 0, 1) := by decide +kernel
theorem dX9_pieceLength_5 : decode cX9_pieceLength 5 = .ok (.getfield 41, 3) := by decide +kernel
theorem dX9_pieceLength_8 : decode cX9_pieceLength 8 = .ok (.iload_n 1, 1) := by decide +kernel
theorem dX9_pieceLength_9 : decode cX9_pieceLength 9 = .ok (.invokevirtual 221, 3) := by decide +kernel
theorem dX9_pieceLength_12 : decode cX9_pieceLength 12 = .ok (.ifCond .ne 7, 3) := by decide +kernel
theorem dX9_pieceLength_15 : decode cX9_pieceLength 15 = .ok (.ldc2_w 233, 3) := by decide +kernel
theorem dX9_pieceLength_18 : decode cX9_pieceLength 18 = .ok (.dreturn, 1) := by decide +kernel
theorem dX9_pieceLength_19 : decode cX9_pieceLength 19 = .ok (.aload_n 0, 1) := by decide +kernel
theorem dX9_pieceLength_20 : decode cX9_pieceLength 20 = .ok (.getfield 41, 3) := by decide +kernel
theorem dX9_pieceLength_23 : decode cX9_pieceLength 23 = .ok (.iload_n 1, 1) := by decide +kernel
theorem dX9_pieceLength_24 : decode cX9_pieceLength 24 = .ok (.iconst 0, 1) := by decide +kernel
theorem dX9_pieceLength_25 : decode cX9_pieceLength 25 = .ok (.invokevirtual 230, 3) := by decide +kernel
theorem dX9_pieceLength_28 : decode cX9_pieceLength 28 = .ok (.aload_n 0, 1) := by decide +kernel
theorem dX9_pieceLength_29 : decode cX9_pieceLength 29 = .ok (.getfield 41, 3) := by decide +kernel
theorem dX9_pieceLength_32 : decode cX9_pieceLength 32 = .ok (.iload_n 1, 1) := by decide +kernel
theorem dX9_pieceLength_33 : decode cX9_pieceLength 33 = .ok (.iconst 1, 1) := by decide +kernel
theorem dX9_pieceLength_34 : decode cX9_pieceLength 34 = .ok (.invokevirtual 230, 3) := by decide +kernel
theorem dX9_pieceLength_37 : decode cX9_pieceLength 37 = .ok (.invokestatic 235, 3) := by decide +kernel
theorem dX9_pieceLength_40 : decode cX9_pieceLength 40 = .ok (.dstore_n 2, 1) := by decide +kernel
theorem dX9_pieceLength_41 : decode cX9_pieceLength 41 = .ok (.aload_n 0, 1) := by decide +kernel
theorem dX9_pieceLength_42 : decode cX9_pieceLength 42 = .ok (.getfield 41, 3) := by decide +kernel
theorem dX9_pieceLength_45 : decode cX9_pieceLength 45 = .ok (.iload_n 1, 1) := by decide +kernel
theorem dX9_pieceLength_46 : decode cX9_pieceLength 46 = .ok (.iconst 2, 1) := by decide +kernel
theorem dX9_pieceLength_47 : decode cX9_pieceLength 47 = .ok (.invokevirtual 230, 3) := by decide +kernel
theorem dX9_pieceLength_50 : decode cX9_pieceLength 50 = .ok (.aload_n 0, 1) := by decide +kernel
theorem dX9_pieceLength_51 : decode cX9_pieceLength 51 = .ok (.getfield 41, 3) := by decide +kernel
theorem dX9_pieceLength_54 : decode cX9_pieceLength 54 = .ok (.iload_n 1, 1) := by decide +kernel
theorem dX9_pieceLength_55 : decode cX9_pieceLength 55 = .ok (.iconst 3, 1) := by decide +kernel
theorem dX9_pieceLength_56 : decode cX9_pieceLength 56 = .ok (.invokevirtual 230, 3) := by decide +kernel
theorem dX9_pieceLength_59 : decode cX9_pieceLength 59 = .ok (.invokestatic 235, 3) := by decide +kernel
theorem dX9_pieceLength_62 : decode cX9_pieceLength 62 = .ok (.dstore 4, 2) := by decide +kernel
theorem dX9_pieceLength_64 : decode cX9_pieceLength 64 = .ok (.dload 4, 2) := by decide +kernel
theorem dX9_pieceLength_66 : decode cX9_pieceLength 66 = .ok (.dload_n 2, 1) := by decide +kernel
theorem dX9_pieceLength_67 : decode cX9_pieceLength 67 = .ok (.dsub, 1) := by decide +kernel
theorem dX9_pieceLength_68 : decode cX9_pieceLength 68 = .ok (.aload_n 0, 1) := by decide +kernel
theorem dX9_pieceLength_69 : decode cX9_pieceLength 69 = .ok (.getfield 12, 3) := by decide +kernel
theorem dX9_pieceLength_72 : decode cX9_pieceLength 72 = .ok (.aload_n 0, 1) := by decide +kernel
theorem dX9_pieceLength_73 : decode cX9_pieceLength 73 = .ok (.getfield 41, 3) := by decide +kernel
theorem dX9_pieceLength_76 : decode cX9_pieceLength 76 = .ok (.iload_n 1, 1) := by decide +kernel
theorem dX9_pieceLength_77 : decode cX9_pieceLength 77 = .ok (.invokevirtual 224, 3) := by decide +kernel
theorem dX9_pieceLength_80 : decode cX9_pieceLength 80 = .ok (.invokevirtual 239, 3) := by decide +kernel
theorem dX9_pieceLength_83 : decode cX9_pieceLength 83 = .ok (.invokestatic 242, 3) := by decide +kernel
theorem dX9_pieceLength_86 : decode cX9_pieceLength 86 = .ok (.dmul, 1) := by decide +kernel
theorem dX9_pieceLength_87 : decode cX9_pieceLength 87 = .ok (.dreturn, 1) := by decide +kernel
theorem dX9_locate_0 : decode cX9_locate 0 = .ok (.iload_n 1, 1) := by decide +kernel
theorem dX9_locate_1 : decode cX9_locate 1 = .ok (.iload_n 2, 1) := by decide +kernel
theorem dX9_locate_2 : decode cX9_locate 2 = .ok (.invokestatic 86, 3) := by decide +kernel
theorem dX9_locate_5 : decode cX9_locate 5 = .ok (.ifCond .eq 6, 3) := by decide +kernel
theorem dX9_locate_8 : decode cX9_locate 8 = .ok (.bipush (-2), 2) := by decide +kernel
theorem dX9_locate_10 : decode cX9_locate 10 = .ok (.ireturn, 1) := by decide +kernel
theorem dX9_locate_11 : decode cX9_locate 11 = .ok (.aload_n 0, 1) := by decide +kernel
theorem dX9_locate_12 : decode cX9_locate 12 = .ok (.invokevirtual 197, 3) := by decide +kernel
theorem dX9_locate_15 : decode cX9_locate 15 = .ok (.aload_n 0, 1) := by decide +kernel
theorem dX9_locate_16 : decode cX9_locate 16 = .ok (.getfield 41, 3) := by decide +kernel
theorem dX9_locate_19 : decode cX9_locate 19 = .ok (.iload_n 1, 1) := by decide +kernel
theorem dX9_locate_20 : decode cX9_locate 20 = .ok (.iload_n 2, 1) := by decide +kernel
theorem dX9_locate_21 : decode cX9_locate 21 = .ok (.invokevirtual 246, 3) := by decide +kernel
theorem dX9_locate_24 : decode cX9_locate 24 = .ok (.ireturn, 1) := by decide +kernel
theorem dX9_meanLeafDepth_0 : decode cX9_meanLeafDepth 0 = .ok (.aload_n 0, 1) := by decide +kernel
theorem dX9_meanLeafDepth_1 : decode cX9_meanLeafDepth 1 = .ok (.invokevirtual 197, 3) := by decide +kernel
theorem dX9_meanLeafDepth_4 : decode cX9_meanLeafDepth 4 = .ok (.aload_n 0, 1) := by decide +kernel
theorem dX9_meanLeafDepth_5 : decode cX9_meanLeafDepth 5 = .ok (.getfield 41, 3) := by decide +kernel
theorem dX9_meanLeafDepth_8 : decode cX9_meanLeafDepth 8 = .ok (.invokevirtual 249, 3) := by decide +kernel
theorem dX9_meanLeafDepth_11 : decode cX9_meanLeafDepth 11 = .ok (.aload_n 0, 1) := by decide +kernel
theorem dX9_meanLeafDepth_12 : decode cX9_meanLeafDepth 12 = .ok (.getfield 41, 3) := by decide +kernel
theorem dX9_meanLeafDepth_15 : decode cX9_meanLeafDepth 15 = .ok (.invokevirtual 252, 3) := by decide +kernel
theorem dX9_meanLeafDepth_18 : decode cX9_meanLeafDepth 18 = .ok (.invokestatic 235, 3) := by decide +kernel
theorem dX9_meanLeafDepth_21 : decode cX9_meanLeafDepth 21 = .ok (.dreturn, 1) := by decide +kernel
theorem dX9_buildCount_0 : decode cX9_buildCount 0 = .ok (.aload_n 0, 1) := by decide +kernel
theorem dX9_buildCount_1 : decode cX9_buildCount 1 = .ok (.getfield 78, 3) := by decide +kernel
theorem dX9_buildCount_4 : decode cX9_buildCount 4 = .ok (.ireturn, 1) := by decide +kernel
theorem dX9_drawCount_0 : decode cX9_drawCount 0 = .ok (.iload_n 1, 1) := by decide +kernel
theorem dX9_drawCount_1 : decode cX9_drawCount 1 = .ok (.iload_n 2, 1) := by decide +kernel
theorem dX9_drawCount_2 : decode cX9_drawCount 2 = .ok (.invokestatic 86, 3) := by decide +kernel
theorem dX9_drawCount_5 : decode cX9_drawCount 5 = .ok (.ifCond .eq 6, 3) := by decide +kernel
theorem dX9_drawCount_8 : decode cX9_drawCount 8 = .ok (.bipush (-2), 2) := by decide +kernel
theorem dX9_drawCount_10 : decode cX9_drawCount 10 = .ok (.ireturn, 1) := by decide +kernel
theorem dX9_drawCount_11 : decode cX9_drawCount 11 = .ok (.aload_n 0, 1) := by decide +kernel
theorem dX9_drawCount_12 : decode cX9_drawCount 12 = .ok (.invokevirtual 197, 3) := by decide +kernel
theorem dX9_drawCount_15 : decode cX9_drawCount 15 = .ok (.aload_n 0, 1) := by decide +kernel
theorem dX9_drawCount_16 : decode cX9_drawCount 16 = .ok (.getfield 53, 3) := by decide +kernel
theorem dX9_drawCount_19 : decode cX9_drawCount 19 = .ok (.iload_n 1, 1) := by decide +kernel
theorem dX9_drawCount_20 : decode cX9_drawCount 20 = .ok (.iload_n 2, 1) := by decide +kernel
theorem dX9_drawCount_21 : decode cX9_drawCount 21 = .ok (.invokevirtual 255, 3) := by decide +kernel
theorem dX9_drawCount_24 : decode cX9_drawCount 24 = .ok (.aload_n 0, 1) := by decide +kernel
theorem dX9_drawCount_25 : decode cX9_drawCount 25 = .ok (.getfield 53, 3) := by decide +kernel
theorem dX9_drawCount_28 : decode cX9_drawCount 28 = .ok (.invokevirtual 258, 3) := by decide +kernel
theorem dX9_drawCount_31 : decode cX9_drawCount 31 = .ok (.ireturn, 1) := by decide +kernel
theorem dX9_drawPiece_0 : decode cX9_drawPiece 0 = .ok (.iload_n 1, 1) := by decide +kernel
theorem dX9_drawPiece_1 : decode cX9_drawPiece 1 = .ok (.iload_n 2, 1) := by decide +kernel
theorem dX9_drawPiece_2 : decode cX9_drawPiece 2 = .ok (.invokestatic 86, 3) := by decide +kernel
theorem dX9_drawPiece_5 : decode cX9_drawPiece 5 = .ok (.ifCond .ne 7, 3) := by decide +kernel
theorem dX9_drawPiece_8 : decode cX9_drawPiece 8 = .ok (.iload_n 3, 1) := by decide +kernel
theorem dX9_drawPiece_9 : decode cX9_drawPiece 9 = .ok (.ifCond .ge 6, 3) := by decide +kernel
theorem dX9_drawPiece_12 : decode cX9_drawPiece 12 = .ok (.bipush (-2), 2) := by decide +kernel
theorem dX9_drawPiece_14 : decode cX9_drawPiece 14 = .ok (.ireturn, 1) := by decide +kernel
theorem dX9_drawPiece_15 : decode cX9_drawPiece 15 = .ok (.aload_n 0, 1) := by decide +kernel
theorem dX9_drawPiece_16 : decode cX9_drawPiece 16 = .ok (.invokevirtual 197, 3) := by decide +kernel
theorem dX9_drawPiece_19 : decode cX9_drawPiece 19 = .ok (.aload_n 0, 1) := by decide +kernel
theorem dX9_drawPiece_20 : decode cX9_drawPiece 20 = .ok (.getfield 53, 3) := by decide +kernel
theorem dX9_drawPiece_23 : decode cX9_drawPiece 23 = .ok (.iload_n 1, 1) := by decide +kernel
theorem dX9_drawPiece_24 : decode cX9_drawPiece 24 = .ok (.iload_n 2, 1) := by decide +kernel
theorem dX9_drawPiece_25 : decode cX9_drawPiece 25 = .ok (.invokevirtual 255, 3) := by decide +kernel
theorem dX9_drawPiece_28 : decode cX9_drawPiece 28 = .ok (.iload_n 3, 1) := by decide +kernel
theorem dX9_drawPiece_29 : decode cX9_drawPiece 29 = .ok (.aload_n 0, 1) := by decide +kernel
theorem dX9_drawPiece_30 : decode cX9_drawPiece 30 = .ok (.getfield 53, 3) := by decide +kernel
theorem dX9_drawPiece_33 : decode cX9_drawPiece 33 = .ok (.invokevirtual 258, 3) := by decide +kernel
theorem dX9_drawPiece_36 : decode cX9_drawPiece 36 = .ok (.if_icmp .ge 14, 3) := by decide +kernel
theorem dX9_drawPiece_39 : decode cX9_drawPiece 39 = .ok (.aload_n 0, 1) := by decide +kernel
theorem dX9_drawPiece_40 : decode cX9_drawPiece 40 = .ok (.getfield 53, 3) := by decide +kernel
theorem dX9_drawPiece_43 : decode cX9_drawPiece 43 = .ok (.iload_n 3, 1) := by decide +kernel
theorem dX9_drawPiece_44 : decode cX9_drawPiece 44 = .ok (.invokevirtual 259, 3) := by decide +kernel
theorem dX9_drawPiece_47 : decode cX9_drawPiece 47 = .ok (.goto 5, 3) := by decide +kernel
theorem dX9_drawPiece_50 : decode cX9_drawPiece 50 = .ok (.bipush (-8), 2) := by decide +kernel
theorem dX9_drawPiece_52 : decode cX9_drawPiece 52 = .ok (.ireturn, 1) := by decide +kernel
theorem dX9_paintCount_0 : decode cX9_paintCount 0 = .ok (.iload_n 1, 1) := by decide +kernel
theorem dX9_paintCount_1 : decode cX9_paintCount 1 = .ok (.iload_n 2, 1) := by decide +kernel
theorem dX9_paintCount_2 : decode cX9_paintCount 2 = .ok (.iload_n 3, 1) := by decide +kernel
theorem dX9_paintCount_3 : decode cX9_paintCount 3 = .ok (.iload 4, 2) := by decide +kernel
theorem dX9_paintCount_5 : decode cX9_paintCount 5 = .ok (.invokestatic 262, 3) := by decide +kernel
theorem dX9_paintCount_8 : decode cX9_paintCount 8 = .ok (.ifCond .eq 6, 3) := by decide +kernel
theorem dX9_paintCount_11 : decode cX9_paintCount 11 = .ok (.bipush (-2), 2) := by decide +kernel
theorem dX9_paintCount_13 : decode cX9_paintCount 13 = .ok (.ireturn, 1) := by decide +kernel
theorem dX9_paintCount_14 : decode cX9_paintCount 14 = .ok (.aload_n 0, 1) := by decide +kernel
theorem dX9_paintCount_15 : decode cX9_paintCount 15 = .ok (.invokevirtual 197, 3) := by decide +kernel
theorem dX9_paintCount_18 : decode cX9_paintCount 18 = .ok (.aload_n 0, 1) := by decide +kernel
theorem dX9_paintCount_19 : decode cX9_paintCount 19 = .ok (.getfield 53, 3) := by decide +kernel
theorem dX9_paintCount_22 : decode cX9_paintCount 22 = .ok (.iload_n 1, 1) := by decide +kernel
theorem dX9_paintCount_23 : decode cX9_paintCount 23 = .ok (.iload_n 2, 1) := by decide +kernel
theorem dX9_paintCount_24 : decode cX9_paintCount 24 = .ok (.invokevirtual 255, 3) := by decide +kernel
theorem dX9_paintCount_27 : decode cX9_paintCount 27 = .ok (.aload_n 0, 1) := by decide +kernel
theorem dX9_paintCount_28 : decode cX9_paintCount 28 = .ok (.getfield 67, 3) := by decide +kernel
theorem dX9_paintCount_31 : decode cX9_paintCount 31 = .ok (.iload_n 1, 1) := by decide +kernel
theorem dX9_paintCount_32 : decode cX9_paintCount 32 = .ok (.iload_n 2, 1) := by decide +kernel
theorem dX9_paintCount_33 : decode cX9_paintCount 33 = .ok (.invokevirtual 266, 3) := by decide +kernel
theorem dX9_paintCount_36 : decode cX9_paintCount 36 = .ok (.iconst 0, 1) := by decide +kernel
theorem dX9_paintCount_37 : decode cX9_paintCount 37 = .ok (.istore 5, 2) := by decide +kernel
theorem dX9_paintCount_39 : decode cX9_paintCount 39 = .ok (.iconst 0, 1) := by decide +kernel
theorem dX9_paintCount_40 : decode cX9_paintCount 40 = .ok (.istore 6, 2) := by decide +kernel
theorem dX9_paintCount_42 : decode cX9_paintCount 42 = .ok (.iload 6, 2) := by decide +kernel
theorem dX9_paintCount_44 : decode cX9_paintCount 44 = .ok (.bipush 32, 2) := by decide +kernel
theorem dX9_paintCount_46 : decode cX9_paintCount 46 = .ok (.if_icmp .ge 30, 3) := by decide +kernel
theorem dX9_paintCount_49 : decode cX9_paintCount 49 = .ok (.aload_n 0, 1) := by decide +kernel
theorem dX9_paintCount_50 : decode cX9_paintCount 50 = .ok (.getfield 67, 3) := by decide +kernel
theorem dX9_paintCount_53 : decode cX9_paintCount 53 = .ok (.iload_n 3, 1) := by decide +kernel
theorem dX9_paintCount_54 : decode cX9_paintCount 54 = .ok (.iload 4, 2) := by decide +kernel
theorem dX9_paintCount_56 : decode cX9_paintCount 56 = .ok (.iload 6, 2) := by decide +kernel
theorem dX9_paintCount_58 : decode cX9_paintCount 58 = .ok (.invokevirtual 269, 3) := by decide +kernel
theorem dX9_paintCount_61 : decode cX9_paintCount 61 = .ok (.iload 5, 2) := by decide +kernel
theorem dX9_paintCount_63 : decode cX9_paintCount 63 = .ok (.aload_n 0, 1) := by decide +kernel
theorem dX9_paintCount_64 : decode cX9_paintCount 64 = .ok (.invokevirtual 272, 3) := by decide +kernel
theorem dX9_paintCount_67 : decode cX9_paintCount 67 = .ok (.iadd, 1) := by decide +kernel
theorem dX9_paintCount_68 : decode cX9_paintCount 68 = .ok (.istore 5, 2) := by decide +kernel
theorem dX9_paintCount_70 : decode cX9_paintCount 70 = .ok (.iinc 6 1, 3) := by decide +kernel
theorem dX9_paintCount_73 : decode cX9_paintCount 73 = .ok (.goto (-31), 3) := by decide +kernel
theorem dX9_paintCount_76 : decode cX9_paintCount 76 = .ok (.iload 5, 2) := by decide +kernel
theorem dX9_paintCount_78 : decode cX9_paintCount 78 = .ok (.ireturn, 1) := by decide +kernel
theorem dX9_paintedPiece_0 : decode cX9_paintedPiece 0 = .ok (.iload_n 1, 1) := by decide +kernel
theorem dX9_paintedPiece_1 : decode cX9_paintedPiece 1 = .ok (.iload_n 2, 1) := by decide +kernel
theorem dX9_paintedPiece_2 : decode cX9_paintedPiece 2 = .ok (.iload_n 3, 1) := by decide +kernel
theorem dX9_paintedPiece_3 : decode cX9_paintedPiece 3 = .ok (.iload 4, 2) := by decide +kernel
theorem dX9_paintedPiece_5 : decode cX9_paintedPiece 5 = .ok (.invokestatic 262, 3) := by decide +kernel
theorem dX9_paintedPiece_8 : decode cX9_paintedPiece 8 = .ok (.ifCond .ne 11, 3) := by decide +kernel
theorem dX9_paintedPiece_11 : decode cX9_paintedPiece 11 = .ok (.iload 5, 2) := by decide +kernel
theorem dX9_paintedPiece_13 : decode cX9_paintedPiece 13 = .ok (.invokestatic 275, 3) := by decide +kernel
theorem dX9_paintedPiece_16 : decode cX9_paintedPiece 16 = .ok (.ifCond .eq 6, 3) := by decide +kernel
theorem dX9_paintedPiece_19 : decode cX9_paintedPiece 19 = .ok (.bipush (-2), 2) := by decide +kernel
theorem dX9_paintedPiece_21 : decode cX9_paintedPiece 21 = .ok (.ireturn, 1) := by decide +kernel
theorem dX9_paintedPiece_22 : decode cX9_paintedPiece 22 = .ok (.aload_n 0, 1) := by decide +kernel
theorem dX9_paintedPiece_23 : decode cX9_paintedPiece 23 = .ok (.invokevirtual 197, 3) := by decide +kernel
theorem dX9_paintedPiece_26 : decode cX9_paintedPiece 26 = .ok (.aload_n 0, 1) := by decide +kernel
theorem dX9_paintedPiece_27 : decode cX9_paintedPiece 27 = .ok (.getfield 53, 3) := by decide +kernel
theorem dX9_paintedPiece_30 : decode cX9_paintedPiece 30 = .ok (.iload_n 1, 1) := by decide +kernel
theorem dX9_paintedPiece_31 : decode cX9_paintedPiece 31 = .ok (.iload_n 2, 1) := by decide +kernel
theorem dX9_paintedPiece_32 : decode cX9_paintedPiece 32 = .ok (.invokevirtual 255, 3) := by decide +kernel
theorem dX9_paintedPiece_35 : decode cX9_paintedPiece 35 = .ok (.aload_n 0, 1) := by decide +kernel
theorem dX9_paintedPiece_36 : decode cX9_paintedPiece 36 = .ok (.getfield 67, 3) := by decide +kernel
theorem dX9_paintedPiece_39 : decode cX9_paintedPiece 39 = .ok (.iload_n 1, 1) := by decide +kernel
theorem dX9_paintedPiece_40 : decode cX9_paintedPiece 40 = .ok (.iload_n 2, 1) := by decide +kernel
theorem dX9_paintedPiece_41 : decode cX9_paintedPiece 41 = .ok (.invokevirtual 266, 3) := by decide +kernel
theorem dX9_paintedPiece_44 : decode cX9_paintedPiece 44 = .ok (.aload_n 0, 1) := by decide +kernel
theorem dX9_paintedPiece_45 : decode cX9_paintedPiece 45 = .ok (.getfield 67, 3) := by decide +kernel
theorem dX9_paintedPiece_48 : decode cX9_paintedPiece 48 = .ok (.iload_n 3, 1) := by decide +kernel
theorem dX9_paintedPiece_49 : decode cX9_paintedPiece 49 = .ok (.iload 4, 2) := by decide +kernel
theorem dX9_paintedPiece_51 : decode cX9_paintedPiece 51 = .ok (.iload 5, 2) := by decide +kernel
theorem dX9_paintedPiece_53 : decode cX9_paintedPiece 53 = .ok (.invokevirtual 269, 3) := by decide +kernel
theorem dX9_paintedPiece_56 : decode cX9_paintedPiece 56 = .ok (.aload_n 0, 1) := by decide +kernel
theorem dX9_paintedPiece_57 : decode cX9_paintedPiece 57 = .ok (.getfield 53, 3) := by decide +kernel
theorem dX9_paintedPiece_60 : decode cX9_paintedPiece 60 = .ok (.invokevirtual 258, 3) := by decide +kernel
theorem dX9_paintedPiece_63 : decode cX9_paintedPiece 63 = .ok (.iconst 1, 1) := by decide +kernel
theorem dX9_paintedPiece_64 : decode cX9_paintedPiece 64 = .ok (.isub, 1) := by decide +kernel
theorem dX9_paintedPiece_65 : decode cX9_paintedPiece 65 = .ok (.istore 6, 2) := by decide +kernel
theorem dX9_paintedPiece_67 : decode cX9_paintedPiece 67 = .ok (.iload 6, 2) := by decide +kernel
theorem dX9_paintedPiece_69 : decode cX9_paintedPiece 69 = .ok (.ifCond .lt 52, 3) := by decide +kernel
theorem dX9_paintedPiece_72 : decode cX9_paintedPiece 72 = .ok (.aload_n 0, 1) := by decide +kernel
theorem dX9_paintedPiece_73 : decode cX9_paintedPiece 73 = .ok (.getfield 53, 3) := by decide +kernel
theorem dX9_paintedPiece_76 : decode cX9_paintedPiece 76 = .ok (.iload 6, 2) := by decide +kernel
theorem dX9_paintedPiece_78 : decode cX9_paintedPiece 78 = .ok (.invokevirtual 259, 3) := by decide +kernel
theorem dX9_paintedPiece_81 : decode cX9_paintedPiece 81 = .ok (.istore 7, 2) := by decide +kernel
theorem dX9_paintedPiece_83 : decode cX9_paintedPiece 83 = .ok (.aload_n 0, 1) := by decide +kernel
theorem dX9_paintedPiece_84 : decode cX9_paintedPiece 84 = .ok (.getfield 12, 3) := by decide +kernel
theorem dX9_paintedPiece_87 : decode cX9_paintedPiece 87 = .ok (.aload_n 0, 1) := by decide +kernel
theorem dX9_paintedPiece_88 : decode cX9_paintedPiece 88 = .ok (.getfield 41, 3) := by decide +kernel
theorem dX9_paintedPiece_91 : decode cX9_paintedPiece 91 = .ok (.iload 7, 2) := by decide +kernel
theorem dX9_paintedPiece_93 : decode cX9_paintedPiece 93 = .ok (.invokevirtual 224, 3) := by decide +kernel
theorem dX9_paintedPiece_96 : decode cX9_paintedPiece 96 = .ok (.invokevirtual 140, 3) := by decide +kernel
theorem dX9_paintedPiece_99 : decode cX9_paintedPiece 99 = .ok (.iconst 1, 1) := by decide +kernel
theorem dX9_paintedPiece_100 : decode cX9_paintedPiece 100 = .ok (.if_icmp .eq 15, 3) := by decide +kernel
theorem dX9_paintedPiece_103 : decode cX9_paintedPiece 103 = .ok (.aload_n 0, 1) := by decide +kernel
theorem dX9_paintedPiece_104 : decode cX9_paintedPiece 104 = .ok (.iload 7, 2) := by decide +kernel
theorem dX9_paintedPiece_106 : decode cX9_paintedPiece 106 = .ok (.invokevirtual 278, 3) := by decide +kernel
theorem dX9_paintedPiece_109 : decode cX9_paintedPiece 109 = .ok (.ifCond .eq 6, 3) := by decide +kernel
theorem dX9_paintedPiece_112 : decode cX9_paintedPiece 112 = .ok (.iload 7, 2) := by decide +kernel
theorem dX9_paintedPiece_114 : decode cX9_paintedPiece 114 = .ok (.ireturn, 1) := by decide +kernel
theorem dX9_paintedPiece_115 : decode cX9_paintedPiece 115 = .ok (.iinc 6 (-1), 3) := by decide +kernel
theorem dX9_paintedPiece_118 : decode cX9_paintedPiece 118 = .ok (.goto (-51), 3) := by decide +kernel
theorem dX9_paintedPiece_121 : decode cX9_paintedPiece 121 = .ok (.bipush (-8), 2) := by decide +kernel
theorem dX9_paintedPiece_123 : decode cX9_paintedPiece 123 = .ok (.ireturn, 1) := by decide +kernel
theorem dX9_blocker_0 : decode cX9_blocker 0 = .ok (.iload_n 1, 1) := by decide +kernel
theorem dX9_blocker_1 : decode cX9_blocker 1 = .ok (.iload_n 2, 1) := by decide +kernel
theorem dX9_blocker_2 : decode cX9_blocker 2 = .ok (.invokestatic 86, 3) := by decide +kernel
theorem dX9_blocker_5 : decode cX9_blocker 5 = .ok (.ifCond .ne 23, 3) := by decide +kernel
theorem dX9_blocker_8 : decode cX9_blocker 8 = .ok (.iload_n 3, 1) := by decide +kernel
theorem dX9_blocker_9 : decode cX9_blocker 9 = .ok (.iload 4, 2) := by decide +kernel
theorem dX9_blocker_11 : decode cX9_blocker 11 = .ok (.invokestatic 86, 3) := by decide +kernel
theorem dX9_blocker_14 : decode cX9_blocker 14 = .ok (.ifCond .ne 14, 3) := by decide +kernel
theorem dX9_blocker_17 : decode cX9_blocker 17 = .ok (.iload_n 1, 1) := by decide +kernel
theorem dX9_blocker_18 : decode cX9_blocker 18 = .ok (.iload_n 3, 1) := by decide +kernel
theorem dX9_blocker_19 : decode cX9_blocker 19 = .ok (.if_icmp .ne 12, 3) := by decide +kernel
theorem dX9_blocker_22 : decode cX9_blocker 22 = .ok (.iload_n 2, 1) := by decide +kernel
theorem dX9_blocker_23 : decode cX9_blocker 23 = .ok (.iload 4, 2) := by decide +kernel
theorem dX9_blocker_25 : decode cX9_blocker 25 = .ok (.if_icmp .ne 6, 3) := by decide +kernel
theorem dX9_blocker_28 : decode cX9_blocker 28 = .ok (.bipush (-2), 2) := by decide +kernel
theorem dX9_blocker_30 : decode cX9_blocker 30 = .ok (.ireturn, 1) := by decide +kernel
theorem dX9_blocker_31 : decode cX9_blocker 31 = .ok (.aload_n 0, 1) := by decide +kernel
theorem dX9_blocker_32 : decode cX9_blocker 32 = .ok (.getfield 67, 3) := by decide +kernel
theorem dX9_blocker_35 : decode cX9_blocker 35 = .ok (.iload_n 1, 1) := by decide +kernel
theorem dX9_blocker_36 : decode cX9_blocker 36 = .ok (.iload_n 2, 1) := by decide +kernel
theorem dX9_blocker_37 : decode cX9_blocker 37 = .ok (.invokevirtual 266, 3) := by decide +kernel
theorem dX9_blocker_40 : decode cX9_blocker 40 = .ok (.aload_n 0, 1) := by decide +kernel
theorem dX9_blocker_41 : decode cX9_blocker 41 = .ok (.getfield 67, 3) := by decide +kernel
theorem dX9_blocker_44 : decode cX9_blocker 44 = .ok (.iload_n 3, 1) := by decide +kernel
theorem dX9_blocker_45 : decode cX9_blocker 45 = .ok (.iload_n 1, 1) := by decide +kernel
theorem dX9_blocker_46 : decode cX9_blocker 46 = .ok (.isub, 1) := by decide +kernel
theorem dX9_blocker_47 : decode cX9_blocker 47 = .ok (.iload 4, 2) := by decide +kernel
theorem dX9_blocker_49 : decode cX9_blocker 49 = .ok (.iload_n 2, 1) := by decide +kernel
theorem dX9_blocker_50 : decode cX9_blocker 50 = .ok (.isub, 1) := by decide +kernel
theorem dX9_blocker_51 : decode cX9_blocker 51 = .ok (.invokevirtual 281, 3) := by decide +kernel
theorem dX9_blocker_54 : decode cX9_blocker 54 = .ok (.aload_n 0, 1) := by decide +kernel
theorem dX9_blocker_55 : decode cX9_blocker 55 = .ok (.getfield 67, 3) := by decide +kernel
theorem dX9_blocker_58 : decode cX9_blocker 58 = .ok (.invokevirtual 284, 3) := by decide +kernel
theorem dX9_blocker_61 : decode cX9_blocker 61 = .ok (.aload_n 0, 1) := by decide +kernel
theorem dX9_blocker_62 : decode cX9_blocker 62 = .ok (.getfield 67, 3) := by decide +kernel
theorem dX9_blocker_65 : decode cX9_blocker 65 = .ok (.invokevirtual 287, 3) := by decide +kernel
theorem dX9_blocker_68 : decode cX9_blocker 68 = .ok (.ifCond .eq 13, 3) := by decide +kernel
theorem dX9_blocker_71 : decode cX9_blocker 71 = .ok (.aload_n 0, 1) := by decide +kernel
theorem dX9_blocker_72 : decode cX9_blocker 72 = .ok (.getfield 67, 3) := by decide +kernel
theorem dX9_blocker_75 : decode cX9_blocker 75 = .ok (.invokevirtual 290, 3) := by decide +kernel
theorem dX9_blocker_78 : decode cX9_blocker 78 = .ok (.goto 5, 3) := by decide +kernel
theorem dX9_blocker_81 : decode cX9_blocker 81 = .ok (.bipush (-8), 2) := by decide +kernel
theorem dX9_blocker_83 : decode cX9_blocker 83 = .ok (.ireturn, 1) := by decide +kernel
theorem dX9_columnWall_0 : decode cX9_columnWall 0 = .ok (.iload_n 1, 1) := by decide +kernel
theorem dX9_columnWall_1 : decode cX9_columnWall 1 = .ok (.iload_n 2, 1) := by decide +kernel
theorem dX9_columnWall_2 : decode cX9_columnWall 2 = .ok (.iload_n 3, 1) := by decide +kernel
theorem dX9_columnWall_3 : decode cX9_columnWall 3 = .ok (.iload 4, 2) := by decide +kernel
theorem dX9_columnWall_5 : decode cX9_columnWall 5 = .ok (.invokestatic 262, 3) := by decide +kernel
theorem dX9_columnWall_8 : decode cX9_columnWall 8 = .ok (.ifCond .ne 11, 3) := by decide +kernel
theorem dX9_columnWall_11 : decode cX9_columnWall 11 = .ok (.iload 5, 2) := by decide +kernel
theorem dX9_columnWall_13 : decode cX9_columnWall 13 = .ok (.invokestatic 275, 3) := by decide +kernel
theorem dX9_columnWall_16 : decode cX9_columnWall 16 = .ok (.ifCond .eq 6, 3) := by decide +kernel
theorem dX9_columnWall_19 : decode cX9_columnWall 19 = .ok (.bipush (-2), 2) := by decide +kernel
theorem dX9_columnWall_21 : decode cX9_columnWall 21 = .ok (.ireturn, 1) := by decide +kernel
theorem dX9_columnWall_22 : decode cX9_columnWall 22 = .ok (.aload_n 0, 1) := by decide +kernel
theorem dX9_columnWall_23 : decode cX9_columnWall 23 = .ok (.getfield 67, 3) := by decide +kernel
theorem dX9_columnWall_26 : decode cX9_columnWall 26 = .ok (.iload_n 1, 1) := by decide +kernel
theorem dX9_columnWall_27 : decode cX9_columnWall 27 = .ok (.iload_n 2, 1) := by decide +kernel
theorem dX9_columnWall_28 : decode cX9_columnWall 28 = .ok (.invokevirtual 266, 3) := by decide +kernel
theorem dX9_columnWall_31 : decode cX9_columnWall 31 = .ok (.aload_n 0, 1) := by decide +kernel
theorem dX9_columnWall_32 : decode cX9_columnWall 32 = .ok (.getfield 67, 3) := by decide +kernel
theorem dX9_columnWall_35 : decode cX9_columnWall 35 = .ok (.iload_n 3, 1) := by decide +kernel
theorem dX9_columnWall_36 : decode cX9_columnWall 36 = .ok (.iload 4, 2) := by decide +kernel
theorem dX9_columnWall_38 : decode cX9_columnWall 38 = .ok (.iload 5, 2) := by decide +kernel
theorem dX9_columnWall_40 : decode cX9_columnWall 40 = .ok (.invokevirtual 269, 3) := by decide +kernel
theorem dX9_columnWall_43 : decode cX9_columnWall 43 = .ok (.aload_n 0, 1) := by decide +kernel
theorem dX9_columnWall_44 : decode cX9_columnWall 44 = .ok (.getfield 67, 3) := by decide +kernel
theorem dX9_columnWall_47 : decode cX9_columnWall 47 = .ok (.invokevirtual 284, 3) := by decide +kernel
theorem dX9_columnWall_50 : decode cX9_columnWall 50 = .ok (.aload_n 0, 1) := by decide +kernel
theorem dX9_columnWall_51 : decode cX9_columnWall 51 = .ok (.getfield 67, 3) := by decide +kernel
theorem dX9_columnWall_54 : decode cX9_columnWall 54 = .ok (.invokevirtual 290, 3) := by decide +kernel
theorem dX9_columnWall_57 : decode cX9_columnWall 57 = .ok (.ireturn, 1) := by decide +kernel
theorem dX9_columnDistance_0 : decode cX9_columnDistance 0 = .ok (.iload_n 1, 1) := by decide +kernel
theorem dX9_columnDistance_1 : decode cX9_columnDistance 1 = .ok (.iload_n 2, 1) := by decide +kernel
theorem dX9_columnDistance_2 : decode cX9_columnDistance 2 = .ok (.iload_n 3, 1) := by decide +kernel
theorem dX9_columnDistance_3 : decode cX9_columnDistance 3 = .ok (.iload 4, 2) := by decide +kernel
theorem dX9_columnDistance_5 : decode cX9_columnDistance 5 = .ok (.invokestatic 262, 3) := by decide +kernel
theorem dX9_columnDistance_8 : decode cX9_columnDistance 8 = .ok (.ifCond .ne 21, 3) := by decide +kernel
theorem dX9_columnDistance_11 : decode cX9_columnDistance 11 = .ok (.iload 5, 2) := by decide +kernel
theorem dX9_columnDistance_13 : decode cX9_columnDistance 13 = .ok (.invokestatic 275, 3) := by decide +kernel
theorem dX9_columnDistance_16 : decode cX9_columnDistance 16 = .ok (.ifCond .ne 13, 3) := by decide +kernel
theorem dX9_columnDistance_19 : decode cX9_columnDistance 19 = .ok (.iload 6, 2) := by decide +kernel
theorem dX9_columnDistance_21 : decode cX9_columnDistance 21 = .ok (.iconst 0, 1) := by decide +kernel
theorem dX9_columnDistance_22 : decode cX9_columnDistance 22 = .ok (.iconst 1, 1) := by decide +kernel
theorem dX9_columnDistance_23 : decode cX9_columnDistance 23 = .ok (.invokestatic 90, 3) := by decide +kernel
theorem dX9_columnDistance_26 : decode cX9_columnDistance 26 = .ok (.ifCond .eq 6, 3) := by decide +kernel
theorem dX9_columnDistance_29 : decode cX9_columnDistance 29 = .ok (.bipush (-2), 2) := by decide +kernel
theorem dX9_columnDistance_31 : decode cX9_columnDistance 31 = .ok (.ireturn, 1) := by decide +kernel
theorem dX9_columnDistance_32 : decode cX9_columnDistance 32 = .ok (.aload_n 0, 1) := by decide +kernel
theorem dX9_columnDistance_33 : decode cX9_columnDistance 33 = .ok (.getfield 67, 3) := by decide +kernel
theorem dX9_columnDistance_36 : decode cX9_columnDistance 36 = .ok (.iload_n 1, 1) := by decide +kernel
theorem dX9_columnDistance_37 : decode cX9_columnDistance 37 = .ok (.iload_n 2, 1) := by decide +kernel
theorem dX9_columnDistance_38 : decode cX9_columnDistance 38 = .ok (.invokevirtual 266, 3) := by decide +kernel
theorem dX9_columnDistance_41 : decode cX9_columnDistance 41 = .ok (.aload_n 0, 1) := by decide +kernel
theorem dX9_columnDistance_42 : decode cX9_columnDistance 42 = .ok (.getfield 67, 3) := by decide +kernel
theorem dX9_columnDistance_45 : decode cX9_columnDistance 45 = .ok (.iload_n 3, 1) := by decide +kernel
theorem dX9_columnDistance_46 : decode cX9_columnDistance 46 = .ok (.iload 4, 2) := by decide +kernel
theorem dX9_columnDistance_48 : decode cX9_columnDistance 48 = .ok (.iload 5, 2) := by decide +kernel
theorem dX9_columnDistance_50 : decode cX9_columnDistance 50 = .ok (.invokevirtual 269, 3) := by decide +kernel
theorem dX9_columnDistance_53 : decode cX9_columnDistance 53 = .ok (.aload_n 0, 1) := by decide +kernel
theorem dX9_columnDistance_54 : decode cX9_columnDistance 54 = .ok (.getfield 67, 3) := by decide +kernel
theorem dX9_columnDistance_57 : decode cX9_columnDistance 57 = .ok (.invokevirtual 284, 3) := by decide +kernel
theorem dX9_columnDistance_60 : decode cX9_columnDistance 60 = .ok (.aload_n 0, 1) := by decide +kernel
theorem dX9_columnDistance_61 : decode cX9_columnDistance 61 = .ok (.getfield 67, 3) := by decide +kernel
theorem dX9_columnDistance_64 : decode cX9_columnDistance 64 = .ok (.invokevirtual 290, 3) := by decide +kernel
theorem dX9_columnDistance_67 : decode cX9_columnDistance 67 = .ok (.bipush (-8), 2) := by decide +kernel
theorem dX9_columnDistance_69 : decode cX9_columnDistance 69 = .ok (.if_icmp .ne 6, 3) := by decide +kernel
theorem dX9_columnDistance_72 : decode cX9_columnDistance 72 = .ok (.bipush (-8), 2) := by decide +kernel
theorem dX9_columnDistance_74 : decode cX9_columnDistance 74 = .ok (.ireturn, 1) := by decide +kernel
theorem dX9_columnDistance_75 : decode cX9_columnDistance 75 = .ok (.aload_n 0, 1) := by decide +kernel
theorem dX9_columnDistance_76 : decode cX9_columnDistance 76 = .ok (.getfield 67, 3) := by decide +kernel
theorem dX9_columnDistance_79 : decode cX9_columnDistance 79 = .ok (.invokevirtual 293, 3) := by decide +kernel
theorem dX9_columnDistance_82 : decode cX9_columnDistance 82 = .ok (.i2l, 1) := by decide +kernel
theorem dX9_columnDistance_83 : decode cX9_columnDistance 83 = .ok (.aload_n 0, 1) := by decide +kernel
theorem dX9_columnDistance_84 : decode cX9_columnDistance 84 = .ok (.getfield 67, 3) := by decide +kernel
theorem dX9_columnDistance_87 : decode cX9_columnDistance 87 = .ok (.invokevirtual 296, 3) := by decide +kernel
theorem dX9_columnDistance_90 : decode cX9_columnDistance 90 = .ok (.i2l, 1) := by decide +kernel
theorem dX9_columnDistance_91 : decode cX9_columnDistance 91 = .ok (.iload 6, 2) := by decide +kernel
theorem dX9_columnDistance_93 : decode cX9_columnDistance 93 = .ok (.invokestatic 299, 3) := by decide +kernel
theorem dX9_columnDistance_96 : decode cX9_columnDistance 96 = .ok (.l2i, 1) := by decide +kernel
theorem dX9_columnDistance_97 : decode cX9_columnDistance 97 = .ok (.ireturn, 1) := by decide +kernel
theorem dX9_paneCount_0 : decode cX9_paneCount 0 = .ok (.iload_n 1, 1) := by decide +kernel
theorem dX9_paneCount_1 : decode cX9_paneCount 1 = .ok (.iload_n 2, 1) := by decide +kernel
theorem dX9_paneCount_2 : decode cX9_paneCount 2 = .ok (.iload_n 3, 1) := by decide +kernel
theorem dX9_paneCount_3 : decode cX9_paneCount 3 = .ok (.iload 4, 2) := by decide +kernel
theorem dX9_paneCount_5 : decode cX9_paneCount 5 = .ok (.invokestatic 262, 3) := by decide +kernel
theorem dX9_paneCount_8 : decode cX9_paneCount 8 = .ok (.ifCond .ne 11, 3) := by decide +kernel
theorem dX9_paneCount_11 : decode cX9_paneCount 11 = .ok (.iload 5, 2) := by decide +kernel
theorem dX9_paneCount_13 : decode cX9_paneCount 13 = .ok (.invokestatic 275, 3) := by decide +kernel
theorem dX9_paneCount_16 : decode cX9_paneCount 16 = .ok (.ifCond .eq 6, 3) := by decide +kernel
theorem dX9_paneCount_19 : decode cX9_paneCount 19 = .ok (.bipush (-2), 2) := by decide +kernel
theorem dX9_paneCount_21 : decode cX9_paneCount 21 = .ok (.ireturn, 1) := by decide +kernel
theorem dX9_paneCount_22 : decode cX9_paneCount 22 = .ok (.aload_n 0, 1) := by decide +kernel
theorem dX9_paneCount_23 : decode cX9_paneCount 23 = .ok (.getfield 67, 3) := by decide +kernel
theorem dX9_paneCount_26 : decode cX9_paneCount 26 = .ok (.iload_n 1, 1) := by decide +kernel
theorem dX9_paneCount_27 : decode cX9_paneCount 27 = .ok (.iload_n 2, 1) := by decide +kernel
theorem dX9_paneCount_28 : decode cX9_paneCount 28 = .ok (.invokevirtual 266, 3) := by decide +kernel
theorem dX9_paneCount_31 : decode cX9_paneCount 31 = .ok (.aload_n 0, 1) := by decide +kernel
theorem dX9_paneCount_32 : decode cX9_paneCount 32 = .ok (.getfield 67, 3) := by decide +kernel
theorem dX9_paneCount_35 : decode cX9_paneCount 35 = .ok (.iload_n 3, 1) := by decide +kernel
theorem dX9_paneCount_36 : decode cX9_paneCount 36 = .ok (.iload 4, 2) := by decide +kernel
theorem dX9_paneCount_38 : decode cX9_paneCount 38 = .ok (.iload 5, 2) := by decide +kernel
theorem dX9_paneCount_40 : decode cX9_paneCount 40 = .ok (.invokevirtual 269, 3) := by decide +kernel
theorem dX9_paneCount_43 : decode cX9_paneCount 43 = .ok (.aload_n 0, 1) := by decide +kernel
theorem dX9_paneCount_44 : decode cX9_paneCount 44 = .ok (.getfield 67, 3) := by decide +kernel
theorem dX9_paneCount_47 : decode cX9_paneCount 47 = .ok (.invokevirtual 284, 3) := by decide +kernel
theorem dX9_paneCount_50 : decode cX9_paneCount 50 = .ok (.aload_n 0, 1) := by decide +kernel
theorem dX9_paneCount_51 : decode cX9_paneCount 51 = .ok (.getfield 67, 3) := by decide +kernel
theorem dX9_paneCount_54 : decode cX9_paneCount 54 = .ok (.invokevirtual 303, 3) := by decide +kernel
theorem dX9_paneCount_57 : decode cX9_paneCount 57 = .ok (.ireturn, 1) := by decide +kernel
theorem dX9_seenColumns_0 : decode cX9_seenColumns 0 = .ok (.iload_n 1, 1) := by decide +kernel
theorem dX9_seenColumns_1 : decode cX9_seenColumns 1 = .ok (.iload_n 2, 1) := by decide +kernel
theorem dX9_seenColumns_2 : decode cX9_seenColumns 2 = .ok (.iload_n 3, 1) := by decide +kernel
theorem dX9_seenColumns_3 : decode cX9_seenColumns 3 = .ok (.iload 4, 2) := by decide +kernel
theorem dX9_seenColumns_5 : decode cX9_seenColumns 5 = .ok (.invokestatic 262, 3) := by decide +kernel
theorem dX9_seenColumns_8 : decode cX9_seenColumns 8 = .ok (.ifCond .eq 6, 3) := by decide +kernel
theorem dX9_seenColumns_11 : decode cX9_seenColumns 11 = .ok (.bipush (-2), 2) := by decide +kernel
theorem dX9_seenColumns_13 : decode cX9_seenColumns 13 = .ok (.ireturn, 1) := by decide +kernel
theorem dX9_seenColumns_14 : decode cX9_seenColumns 14 = .ok (.aload_n 0, 1) := by decide +kernel
theorem dX9_seenColumns_15 : decode cX9_seenColumns 15 = .ok (.getfield 12, 3) := by decide +kernel
theorem dX9_seenColumns_18 : decode cX9_seenColumns 18 = .ok (.iload 5, 2) := by decide +kernel
theorem dX9_seenColumns_20 : decode cX9_seenColumns 20 = .ok (.invokevirtual 105, 3) := by decide +kernel
theorem dX9_seenColumns_23 : decode cX9_seenColumns 23 = .ok (.ifCond .ne 5, 3) := by decide +kernel
theorem dX9_seenColumns_26 : decode cX9_seenColumns 26 = .ok (.iconst (-1), 1) := by decide +kernel
theorem dX9_seenColumns_27 : decode cX9_seenColumns 27 = .ok (.ireturn, 1) := by decide +kernel
theorem dX9_seenColumns_28 : decode cX9_seenColumns 28 = .ok (.aload_n 0, 1) := by decide +kernel
theorem dX9_seenColumns_29 : decode cX9_seenColumns 29 = .ok (.getfield 67, 3) := by decide +kernel
theorem dX9_seenColumns_32 : decode cX9_seenColumns 32 = .ok (.iload_n 1, 1) := by decide +kernel
theorem dX9_seenColumns_33 : decode cX9_seenColumns 33 = .ok (.iload_n 2, 1) := by decide +kernel
theorem dX9_seenColumns_34 : decode cX9_seenColumns 34 = .ok (.invokevirtual 266, 3) := by decide +kernel
theorem dX9_seenColumns_37 : decode cX9_seenColumns 37 = .ok (.iconst 0, 1) := by decide +kernel
theorem dX9_seenColumns_38 : decode cX9_seenColumns 38 = .ok (.istore 6, 2) := by decide +kernel
theorem dX9_seenColumns_40 : decode cX9_seenColumns 40 = .ok (.iconst 0, 1) := by decide +kernel
theorem dX9_seenColumns_41 : decode cX9_seenColumns 41 = .ok (.istore 7, 2) := by decide +kernel
theorem dX9_seenColumns_43 : decode cX9_seenColumns 43 = .ok (.iload 7, 2) := by decide +kernel
theorem dX9_seenColumns_45 : decode cX9_seenColumns 45 = .ok (.bipush 32, 2) := by decide +kernel
theorem dX9_seenColumns_47 : decode cX9_seenColumns 47 = .ok (.if_icmp .ge 43, 3) := by decide +kernel
theorem dX9_seenColumns_50 : decode cX9_seenColumns 50 = .ok (.aload_n 0, 1) := by decide +kernel
theorem dX9_seenColumns_51 : decode cX9_seenColumns 51 = .ok (.getfield 67, 3) := by decide +kernel
theorem dX9_seenColumns_54 : decode cX9_seenColumns 54 = .ok (.iload_n 3, 1) := by decide +kernel
theorem dX9_seenColumns_55 : decode cX9_seenColumns 55 = .ok (.iload 4, 2) := by decide +kernel
theorem dX9_seenColumns_57 : decode cX9_seenColumns 57 = .ok (.iload 7, 2) := by decide +kernel
theorem dX9_seenColumns_59 : decode cX9_seenColumns 59 = .ok (.invokevirtual 269, 3) := by decide +kernel
theorem dX9_seenColumns_62 : decode cX9_seenColumns 62 = .ok (.aload_n 0, 1) := by decide +kernel
theorem dX9_seenColumns_63 : decode cX9_seenColumns 63 = .ok (.getfield 67, 3) := by decide +kernel
theorem dX9_seenColumns_66 : decode cX9_seenColumns 66 = .ok (.invokevirtual 284, 3) := by decide +kernel
theorem dX9_seenColumns_69 : decode cX9_seenColumns 69 = .ok (.aload_n 0, 1) := by decide +kernel
theorem dX9_seenColumns_70 : decode cX9_seenColumns 70 = .ok (.getfield 67, 3) := by decide +kernel
theorem dX9_seenColumns_73 : decode cX9_seenColumns 73 = .ok (.invokevirtual 290, 3) := by decide +kernel
theorem dX9_seenColumns_76 : decode cX9_seenColumns 76 = .ok (.iload 5, 2) := by decide +kernel
theorem dX9_seenColumns_78 : decode cX9_seenColumns 78 = .ok (.if_icmp .ne 6, 3) := by decide +kernel
theorem dX9_seenColumns_81 : decode cX9_seenColumns 81 = .ok (.iinc 6 1, 3) := by decide +kernel
theorem dX9_seenColumns_84 : decode cX9_seenColumns 84 = .ok (.iinc 7 1, 3) := by decide +kernel
theorem dX9_seenColumns_87 : decode cX9_seenColumns 87 = .ok (.goto (-44), 3) := by decide +kernel
theorem dX9_seenColumns_90 : decode cX9_seenColumns 90 = .ok (.iload 6, 2) := by decide +kernel
theorem dX9_seenColumns_92 : decode cX9_seenColumns 92 = .ok (.ireturn, 1) := by decide +kernel
theorem dX9_seenPoints_0 : decode cX9_seenPoints 0 = .ok (.iload_n 1, 1) := by decide +kernel
theorem dX9_seenPoints_1 : decode cX9_seenPoints 1 = .ok (.iload_n 2, 1) := by decide +kernel
theorem dX9_seenPoints_2 : decode cX9_seenPoints 2 = .ok (.invokestatic 86, 3) := by decide +kernel
theorem dX9_seenPoints_5 : decode cX9_seenPoints 5 = .ok (.ifCond .eq 8, 3) := by decide +kernel
theorem dX9_seenPoints_8 : decode cX9_seenPoints 8 = .ok (.bipush (-2), 2) := by decide +kernel
theorem dX9_seenPoints_10 : decode cX9_seenPoints 10 = .ok (.goto 9, 3) := by decide +kernel
theorem dX9_seenPoints_13 : decode cX9_seenPoints 13 = .ok (.aload_n 0, 1) := by decide +kernel
theorem dX9_seenPoints_14 : decode cX9_seenPoints 14 = .ok (.iload_n 1, 1) := by decide +kernel
theorem dX9_seenPoints_15 : decode cX9_seenPoints 15 = .ok (.iload_n 2, 1) := by decide +kernel
theorem dX9_seenPoints_16 : decode cX9_seenPoints 16 = .ok (.invokevirtual 306, 3) := by decide +kernel
theorem dX9_seenPoints_19 : decode cX9_seenPoints 19 = .ok (.ireturn, 1) := by decide +kernel
theorem dX9_lookout_0 : decode cX9_lookout 0 = .ok (.iload_n 1, 1) := by decide +kernel
theorem dX9_lookout_1 : decode cX9_lookout 1 = .ok (.iconst 0, 1) := by decide +kernel
theorem dX9_lookout_2 : decode cX9_lookout 2 = .ok (.iconst 1, 1) := by decide +kernel
theorem dX9_lookout_3 : decode cX9_lookout 3 = .ok (.invokestatic 90, 3) := by decide +kernel
theorem dX9_lookout_6 : decode cX9_lookout 6 = .ok (.ifCond .eq 6, 3) := by decide +kernel
theorem dX9_lookout_9 : decode cX9_lookout 9 = .ok (.bipush (-2), 2) := by decide +kernel
theorem dX9_lookout_11 : decode cX9_lookout 11 = .ok (.ireturn, 1) := by decide +kernel
theorem dX9_lookout_12 : decode cX9_lookout 12 = .ok (.iconst 0, 1) := by decide +kernel
theorem dX9_lookout_13 : decode cX9_lookout 13 = .ok (.istore_n 2, 1) := by decide +kernel
theorem dX9_lookout_14 : decode cX9_lookout 14 = .ok (.iconst (-1), 1) := by decide +kernel
theorem dX9_lookout_15 : decode cX9_lookout 15 = .ok (.istore_n 3, 1) := by decide +kernel
theorem dX9_lookout_16 : decode cX9_lookout 16 = .ok (.iconst 0, 1) := by decide +kernel
theorem dX9_lookout_17 : decode cX9_lookout 17 = .ok (.istore 4, 2) := by decide +kernel
theorem dX9_lookout_19 : decode cX9_lookout 19 = .ok (.iload 4, 2) := by decide +kernel
theorem dX9_lookout_21 : decode cX9_lookout 21 = .ok (.bipush 8, 2) := by decide +kernel
theorem dX9_lookout_23 : decode cX9_lookout 23 = .ok (.if_icmp .ge 64, 3) := by decide +kernel
theorem dX9_lookout_26 : decode cX9_lookout 26 = .ok (.iconst 0, 1) := by decide +kernel
theorem dX9_lookout_27 : decode cX9_lookout 27 = .ok (.istore 5, 2) := by decide +kernel
theorem dX9_lookout_29 : decode cX9_lookout 29 = .ok (.iload 5, 2) := by decide +kernel
theorem dX9_lookout_31 : decode cX9_lookout 31 = .ok (.bipush 8, 2) := by decide +kernel
theorem dX9_lookout_33 : decode cX9_lookout 33 = .ok (.if_icmp .ge 48, 3) := by decide +kernel
theorem dX9_lookout_36 : decode cX9_lookout 36 = .ok (.aload_n 0, 1) := by decide +kernel
theorem dX9_lookout_37 : decode cX9_lookout 37 = .ok (.iload 4, 2) := by decide +kernel
theorem dX9_lookout_39 : decode cX9_lookout 39 = .ok (.bipush 8, 2) := by decide +kernel
theorem dX9_lookout_41 : decode cX9_lookout 41 = .ok (.imul, 1) := by decide +kernel
theorem dX9_lookout_42 : decode cX9_lookout 42 = .ok (.iload 5, 2) := by decide +kernel
theorem dX9_lookout_44 : decode cX9_lookout 44 = .ok (.bipush 8, 2) := by decide +kernel
theorem dX9_lookout_46 : decode cX9_lookout 46 = .ok (.imul, 1) := by decide +kernel
theorem dX9_lookout_47 : decode cX9_lookout 47 = .ok (.invokevirtual 306, 3) := by decide +kernel
theorem dX9_lookout_50 : decode cX9_lookout 50 = .ok (.istore 6, 2) := by decide +kernel
theorem dX9_lookout_52 : decode cX9_lookout 52 = .ok (.iload 6, 2) := by decide +kernel
theorem dX9_lookout_54 : decode cX9_lookout 54 = .ok (.iload_n 3, 1) := by decide +kernel
theorem dX9_lookout_55 : decode cX9_lookout 55 = .ok (.if_icmp .le 20, 3) := by decide +kernel
theorem dX9_lookout_58 : decode cX9_lookout 58 = .ok (.iload 6, 2) := by decide +kernel
theorem dX9_lookout_60 : decode cX9_lookout 60 = .ok (.istore_n 3, 1) := by decide +kernel
theorem dX9_lookout_61 : decode cX9_lookout 61 = .ok (.iload 4, 2) := by decide +kernel
theorem dX9_lookout_63 : decode cX9_lookout 63 = .ok (.bipush 8, 2) := by decide +kernel
theorem dX9_lookout_65 : decode cX9_lookout 65 = .ok (.imul, 1) := by decide +kernel
theorem dX9_lookout_66 : decode cX9_lookout 66 = .ok (.iload 5, 2) := by decide +kernel
theorem dX9_lookout_68 : decode cX9_lookout 68 = .ok (.bipush 8, 2) := by decide +kernel
theorem dX9_lookout_70 : decode cX9_lookout 70 = .ok (.imul, 1) := by decide +kernel
theorem dX9_lookout_71 : decode cX9_lookout 71 = .ok (.invokestatic 129, 3) := by decide +kernel
theorem dX9_lookout_74 : decode cX9_lookout 74 = .ok (.istore_n 2, 1) := by decide +kernel
theorem dX9_lookout_75 : decode cX9_lookout 75 = .ok (.iinc 5 1, 3) := by decide +kernel
theorem dX9_lookout_78 : decode cX9_lookout 78 = .ok (.goto (-49), 3) := by decide +kernel
theorem dX9_lookout_81 : decode cX9_lookout 81 = .ok (.iinc 4 1, 3) := by decide +kernel
theorem dX9_lookout_84 : decode cX9_lookout 84 = .ok (.goto (-65), 3) := by decide +kernel
theorem dX9_lookout_87 : decode cX9_lookout 87 = .ok (.iload_n 1, 1) := by decide +kernel
theorem dX9_lookout_88 : decode cX9_lookout 88 = .ok (.ifCond .ne 7, 3) := by decide +kernel
theorem dX9_lookout_91 : decode cX9_lookout 91 = .ok (.iload_n 2, 1) := by decide +kernel
theorem dX9_lookout_92 : decode cX9_lookout 92 = .ok (.goto 4, 3) := by decide +kernel
theorem dX9_lookout_95 : decode cX9_lookout 95 = .ok (.iload_n 3, 1) := by decide +kernel
theorem dX9_lookout_96 : decode cX9_lookout 96 = .ok (.ireturn, 1) := by decide +kernel
theorem dX9_walk_0 : decode cX9_walk 0 = .ok (.iload_n 1, 1) := by decide +kernel
theorem dX9_walk_1 : decode cX9_walk 1 = .ok (.iload_n 2, 1) := by decide +kernel
theorem dX9_walk_2 : decode cX9_walk 2 = .ok (.invokestatic 86, 3) := by decide +kernel
theorem dX9_walk_5 : decode cX9_walk 5 = .ok (.ifCond .ne 12, 3) := by decide +kernel
theorem dX9_walk_8 : decode cX9_walk 8 = .ok (.iload_n 3, 1) := by decide +kernel
theorem dX9_walk_9 : decode cX9_walk 9 = .ok (.iload 4, 2) := by decide +kernel
theorem dX9_walk_11 : decode cX9_walk 11 = .ok (.invokestatic 309, 3) := by decide +kernel
theorem dX9_walk_14 : decode cX9_walk 14 = .ok (.ifCond .eq 6, 3) := by decide +kernel
theorem dX9_walk_17 : decode cX9_walk 17 = .ok (.bipush (-2), 2) := by decide +kernel
theorem dX9_walk_19 : decode cX9_walk 19 = .ok (.ireturn, 1) := by decide +kernel
theorem dX9_walk_20 : decode cX9_walk 20 = .ok (.aload_n 0, 1) := by decide +kernel
theorem dX9_walk_21 : decode cX9_walk 21 = .ok (.iload_n 1, 1) := by decide +kernel
theorem dX9_walk_22 : decode cX9_walk 22 = .ok (.iload_n 2, 1) := by decide +kernel
theorem dX9_walk_23 : decode cX9_walk 23 = .ok (.iload_n 3, 1) := by decide +kernel
theorem dX9_walk_24 : decode cX9_walk 24 = .ok (.iload 4, 2) := by decide +kernel
theorem dX9_walk_26 : decode cX9_walk 26 = .ok (.invokevirtual 312, 3) := by decide +kernel
theorem dX9_walk_29 : decode cX9_walk 29 = .ok (.ireturn, 1) := by decide +kernel
theorem dX9_wander_0 : decode cX9_wander 0 = .ok (.iload_n 1, 1) := by decide +kernel
theorem dX9_wander_1 : decode cX9_wander 1 = .ok (.iload_n 2, 1) := by decide +kernel
theorem dX9_wander_2 : decode cX9_wander 2 = .ok (.invokestatic 86, 3) := by decide +kernel
theorem dX9_wander_5 : decode cX9_wander 5 = .ok (.ifCond .ne 18, 3) := by decide +kernel
theorem dX9_wander_8 : decode cX9_wander 8 = .ok (.iload_n 3, 1) := by decide +kernel
theorem dX9_wander_9 : decode cX9_wander 9 = .ok (.ifCond .lt 14, 3) := by decide +kernel
theorem dX9_wander_12 : decode cX9_wander 12 = .ok (.iload 4, 2) := by decide +kernel
theorem dX9_wander_14 : decode cX9_wander 14 = .ok (.iconst 1, 1) := by decide +kernel
theorem dX9_wander_15 : decode cX9_wander 15 = .ok (.bipush 60, 2) := by decide +kernel
theorem dX9_wander_17 : decode cX9_wander 17 = .ok (.invokestatic 90, 3) := by decide +kernel
theorem dX9_wander_20 : decode cX9_wander 20 = .ok (.ifCond .eq 6, 3) := by decide +kernel
theorem dX9_wander_23 : decode cX9_wander 23 = .ok (.bipush (-2), 2) := by decide +kernel
theorem dX9_wander_25 : decode cX9_wander 25 = .ok (.ireturn, 1) := by decide +kernel
theorem dX9_wander_26 : decode cX9_wander 26 = .ok (.iload_n 3, 1) := by decide +kernel
theorem dX9_wander_27 : decode cX9_wander 27 = .ok (.i2l, 1) := by decide +kernel
theorem dX9_wander_28 : decode cX9_wander 28 = .ok (.lstore 5, 2) := by decide +kernel
theorem dX9_wander_30 : decode cX9_wander 30 = .ok (.iload_n 1, 1) := by decide +kernel
theorem dX9_wander_31 : decode cX9_wander 31 = .ok (.iload_n 2, 1) := by decide +kernel
theorem dX9_wander_32 : decode cX9_wander 32 = .ok (.invokestatic 129, 3) := by decide +kernel
theorem dX9_wander_35 : decode cX9_wander 35 = .ok (.istore 7, 2) := by decide +kernel
theorem dX9_wander_37 : decode cX9_wander 37 = .ok (.iconst 0, 1) := by decide +kernel
theorem dX9_wander_38 : decode cX9_wander 38 = .ok (.istore 8, 2) := by decide +kernel
theorem dX9_wander_40 : decode cX9_wander 40 = .ok (.iload 8, 2) := by decide +kernel
theorem dX9_wander_42 : decode cX9_wander 42 = .ok (.iload 4, 2) := by decide +kernel
theorem dX9_wander_44 : decode cX9_wander 44 = .ok (.if_icmp .ge 57, 3) := by decide +kernel
theorem dX9_wander_47 : decode cX9_wander 47 = .ok (.lload 5, 2) := by decide +kernel
theorem dX9_wander_49 : decode cX9_wander 49 = .ok (.invokestatic 316, 3) := by decide +kernel
theorem dX9_wander_52 : decode cX9_wander 52 = .ok (.lstore 5, 2) := by decide +kernel
theorem dX9_wander_54 : decode cX9_wander 54 = .ok (.lload 5, 2) := by decide +kernel
theorem dX9_wander_56 : decode cX9_wander 56 = .ok (.invokestatic 320, 3) := by decide +kernel
theorem dX9_wander_59 : decode cX9_wander 59 = .ok (.istore 9, 2) := by decide +kernel
theorem dX9_wander_61 : decode cX9_wander 61 = .ok (.lload 5, 2) := by decide +kernel
theorem dX9_wander_63 : decode cX9_wander 63 = .ok (.invokestatic 316, 3) := by decide +kernel
theorem dX9_wander_66 : decode cX9_wander 66 = .ok (.lstore 5, 2) := by decide +kernel
theorem dX9_wander_68 : decode cX9_wander 68 = .ok (.lload 5, 2) := by decide +kernel
theorem dX9_wander_70 : decode cX9_wander 70 = .ok (.invokestatic 320, 3) := by decide +kernel
theorem dX9_wander_73 : decode cX9_wander 73 = .ok (.istore 10, 2) := by decide +kernel
theorem dX9_wander_75 : decode cX9_wander 75 = .ok (.aload_n 0, 1) := by decide +kernel
theorem dX9_wander_76 : decode cX9_wander 76 = .ok (.iload 7, 2) := by decide +kernel
theorem dX9_wander_78 : decode cX9_wander 78 = .ok (.bipush 64, 2) := by decide +kernel
theorem dX9_wander_80 : decode cX9_wander 80 = .ok (.idiv, 1) := by decide +kernel
theorem dX9_wander_81 : decode cX9_wander 81 = .ok (.iload 7, 2) := by decide +kernel
theorem dX9_wander_83 : decode cX9_wander 83 = .ok (.bipush 64, 2) := by decide +kernel
theorem dX9_wander_85 : decode cX9_wander 85 = .ok (.irem, 1) := by decide +kernel
theorem dX9_wander_86 : decode cX9_wander 86 = .ok (.iload 9, 2) := by decide +kernel
theorem dX9_wander_88 : decode cX9_wander 88 = .ok (.iload 10, 2) := by decide +kernel
theorem dX9_wander_90 : decode cX9_wander 90 = .ok (.invokevirtual 312, 3) := by decide +kernel
theorem dX9_wander_93 : decode cX9_wander 93 = .ok (.istore 7, 2) := by decide +kernel
theorem dX9_wander_95 : decode cX9_wander 95 = .ok (.iinc 8 1, 3) := by decide +kernel
theorem dX9_wander_98 : decode cX9_wander 98 = .ok (.goto (-58), 3) := by decide +kernel
theorem dX9_wander_101 : decode cX9_wander 101 = .ok (.iload 7, 2) := by decide +kernel
theorem dX9_wander_103 : decode cX9_wander 103 = .ok (.ireturn, 1) := by decide +kernel
theorem dX9_nearestWall_0 : decode cX9_nearestWall 0 = .ok (.iload_n 1, 1) := by decide +kernel
theorem dX9_nearestWall_1 : decode cX9_nearestWall 1 = .ok (.iload_n 2, 1) := by decide +kernel
theorem dX9_nearestWall_2 : decode cX9_nearestWall 2 = .ok (.invokestatic 86, 3) := by decide +kernel
theorem dX9_nearestWall_5 : decode cX9_nearestWall 5 = .ok (.ifCond .eq 6, 3) := by decide +kernel
theorem dX9_nearestWall_8 : decode cX9_nearestWall 8 = .ok (.bipush (-2), 2) := by decide +kernel
theorem dX9_nearestWall_10 : decode cX9_nearestWall 10 = .ok (.ireturn, 1) := by decide +kernel
theorem dX9_nearestWall_11 : decode cX9_nearestWall 11 = .ok (.aload_n 0, 1) := by decide +kernel
theorem dX9_nearestWall_12 : decode cX9_nearestWall 12 = .ok (.getfield 74, 3) := by decide +kernel
theorem dX9_nearestWall_15 : decode cX9_nearestWall 15 = .ok (.iload_n 1, 1) := by decide +kernel
theorem dX9_nearestWall_16 : decode cX9_nearestWall 16 = .ok (.iload_n 2, 1) := by decide +kernel
theorem dX9_nearestWall_17 : decode cX9_nearestWall 17 = .ok (.invokevirtual 324, 3) := by decide +kernel
theorem dX9_nearestWall_20 : decode cX9_nearestWall 20 = .ok (.aload_n 0, 1) := by decide +kernel
theorem dX9_nearestWall_21 : decode cX9_nearestWall 21 = .ok (.getfield 74, 3) := by decide +kernel
theorem dX9_nearestWall_24 : decode cX9_nearestWall 24 = .ok (.invokevirtual 327, 3) := by decide +kernel
theorem dX9_nearestWall_27 : decode cX9_nearestWall 27 = .ok (.ireturn, 1) := by decide +kernel
theorem dX9_clearance_0 : decode cX9_clearance 0 = .ok (.iload_n 1, 1) := by decide +kernel
theorem dX9_clearance_1 : decode cX9_clearance 1 = .ok (.iload_n 2, 1) := by decide +kernel
theorem dX9_clearance_2 : decode cX9_clearance 2 = .ok (.invokestatic 86, 3) := by decide +kernel
theorem dX9_clearance_5 : decode cX9_clearance 5 = .ok (.ifCond .ne 12, 3) := by decide +kernel
theorem dX9_clearance_8 : decode cX9_clearance 8 = .ok (.iload_n 3, 1) := by decide +kernel
theorem dX9_clearance_9 : decode cX9_clearance 9 = .ok (.iconst 0, 1) := by decide +kernel
theorem dX9_clearance_10 : decode cX9_clearance 10 = .ok (.iconst 1, 1) := by decide +kernel
theorem dX9_clearance_11 : decode cX9_clearance 11 = .ok (.invokestatic 90, 3) := by decide +kernel
theorem dX9_clearance_14 : decode cX9_clearance 14 = .ok (.ifCond .eq 7, 3) := by decide +kernel
theorem dX9_clearance_17 : decode cX9_clearance 17 = .ok (.ldc2_w 330, 3) := by decide +kernel
theorem dX9_clearance_20 : decode cX9_clearance 20 = .ok (.lreturn, 1) := by decide +kernel
theorem dX9_clearance_21 : decode cX9_clearance 21 = .ok (.aload_n 0, 1) := by decide +kernel
theorem dX9_clearance_22 : decode cX9_clearance 22 = .ok (.getfield 74, 3) := by decide +kernel
theorem dX9_clearance_25 : decode cX9_clearance 25 = .ok (.iload_n 1, 1) := by decide +kernel
theorem dX9_clearance_26 : decode cX9_clearance 26 = .ok (.iload_n 2, 1) := by decide +kernel
theorem dX9_clearance_27 : decode cX9_clearance 27 = .ok (.invokevirtual 324, 3) := by decide +kernel
theorem dX9_clearance_30 : decode cX9_clearance 30 = .ok (.aload_n 0, 1) := by decide +kernel
theorem dX9_clearance_31 : decode cX9_clearance 31 = .ok (.getfield 74, 3) := by decide +kernel
theorem dX9_clearance_34 : decode cX9_clearance 34 = .ok (.invokevirtual 327, 3) := by decide +kernel
theorem dX9_clearance_37 : decode cX9_clearance 37 = .ok (.bipush (-8), 2) := by decide +kernel
theorem dX9_clearance_39 : decode cX9_clearance 39 = .ok (.if_icmp .ne 7, 3) := by decide +kernel
theorem dX9_clearance_42 : decode cX9_clearance 42 = .ok (.ldc2_w 332, 3) := by decide +kernel
theorem dX9_clearance_45 : decode cX9_clearance 45 = .ok (.lreturn, 1) := by decide +kernel
theorem dX9_clearance_46 : decode cX9_clearance 46 = .ok (.aload_n 0, 1) := by decide +kernel
theorem dX9_clearance_47 : decode cX9_clearance 47 = .ok (.getfield 74, 3) := by decide +kernel
theorem dX9_clearance_50 : decode cX9_clearance 50 = .ok (.invokevirtual 334, 3) := by decide +kernel
theorem dX9_clearance_53 : decode cX9_clearance 53 = .ok (.aload_n 0, 1) := by decide +kernel
theorem dX9_clearance_54 : decode cX9_clearance 54 = .ok (.getfield 74, 3) := by decide +kernel
theorem dX9_clearance_57 : decode cX9_clearance 57 = .ok (.invokevirtual 338, 3) := by decide +kernel
theorem dX9_clearance_60 : decode cX9_clearance 60 = .ok (.iload_n 3, 1) := by decide +kernel
theorem dX9_clearance_61 : decode cX9_clearance 61 = .ok (.invokestatic 299, 3) := by decide +kernel
theorem dX9_clearance_64 : decode cX9_clearance 64 = .ok (.lreturn, 1) := by decide +kernel
theorem dX9_piecesWith_0 : decode cX9_piecesWith 0 = .ok (.iload_n 1, 1) := by decide +kernel
theorem dX9_piecesWith_1 : decode cX9_piecesWith 1 = .ok (.iload_n 2, 1) := by decide +kernel
theorem dX9_piecesWith_2 : decode cX9_piecesWith 2 = .ok (.invokestatic 147, 3) := by decide +kernel
theorem dX9_piecesWith_5 : decode cX9_piecesWith 5 = .ok (.ifCond .eq 6, 3) := by decide +kernel
theorem dX9_piecesWith_8 : decode cX9_piecesWith 8 = .ok (.bipush (-2), 2) := by decide +kernel
theorem dX9_piecesWith_10 : decode cX9_piecesWith 10 = .ok (.ireturn, 1) := by decide +kernel
theorem dX9_piecesWith_11 : decode cX9_piecesWith 11 = .ok (.aload_n 0, 1) := by decide +kernel
theorem dX9_piecesWith_12 : decode cX9_piecesWith 12 = .ok (.getfield 45, 3) := by decide +kernel
theorem dX9_piecesWith_15 : decode cX9_piecesWith 15 = .ok (.iload_n 1, 1) := by decide +kernel
theorem dX9_piecesWith_16 : decode cX9_piecesWith 16 = .ok (.iload_n 2, 1) := by decide +kernel
theorem dX9_piecesWith_17 : decode cX9_piecesWith 17 = .ok (.iconst 0, 1) := by decide +kernel
theorem dX9_piecesWith_18 : decode cX9_piecesWith 18 = .ok (.invokevirtual 341, 3) := by decide +kernel
theorem dX9_piecesWith_21 : decode cX9_piecesWith 21 = .ok (.aload_n 0, 1) := by decide +kernel
theorem dX9_piecesWith_22 : decode cX9_piecesWith 22 = .ok (.getfield 45, 3) := by decide +kernel
theorem dX9_piecesWith_25 : decode cX9_piecesWith 25 = .ok (.invokevirtual 218, 3) := by decide +kernel
theorem dX9_piecesWith_28 : decode cX9_piecesWith 28 = .ok (.ireturn, 1) := by decide +kernel
theorem dX9_bestWeights_0 : decode cX9_bestWeights 0 = .ok (.iconst 0, 1) := by decide +kernel
theorem dX9_bestWeights_1 : decode cX9_bestWeights 1 = .ok (.istore_n 1, 1) := by decide +kernel
theorem dX9_bestWeights_2 : decode cX9_bestWeights 2 = .ok (.iconst (-1), 1) := by decide +kernel
theorem dX9_bestWeights_3 : decode cX9_bestWeights 3 = .ok (.istore_n 2, 1) := by decide +kernel
theorem dX9_bestWeights_4 : decode cX9_bestWeights 4 = .ok (.iconst 0, 1) := by decide +kernel
theorem dX9_bestWeights_5 : decode cX9_bestWeights 5 = .ok (.istore_n 3, 1) := by decide +kernel
theorem dX9_bestWeights_6 : decode cX9_bestWeights 6 = .ok (.iconst 0, 1) := by decide +kernel
theorem dX9_bestWeights_7 : decode cX9_bestWeights 7 = .ok (.istore 4, 2) := by decide +kernel
theorem dX9_bestWeights_9 : decode cX9_bestWeights 9 = .ok (.iload 4, 2) := by decide +kernel
theorem dX9_bestWeights_11 : decode cX9_bestWeights 11 = .ok (.iconst 3, 1) := by decide +kernel
theorem dX9_bestWeights_12 : decode cX9_bestWeights 12 = .ok (.if_icmp .gt 91, 3) := by decide +kernel
theorem dX9_bestWeights_15 : decode cX9_bestWeights 15 = .ok (.iconst 0, 1) := by decide +kernel
theorem dX9_bestWeights_16 : decode cX9_bestWeights 16 = .ok (.istore 5, 2) := by decide +kernel
theorem dX9_bestWeights_18 : decode cX9_bestWeights 18 = .ok (.iload 5, 2) := by decide +kernel
theorem dX9_bestWeights_20 : decode cX9_bestWeights 20 = .ok (.iconst 3, 1) := by decide +kernel
theorem dX9_bestWeights_21 : decode cX9_bestWeights 21 = .ok (.if_icmp .gt 76, 3) := by decide +kernel
theorem dX9_bestWeights_24 : decode cX9_bestWeights 24 = .ok (.aload_n 0, 1) := by decide +kernel
theorem dX9_bestWeights_25 : decode cX9_bestWeights 25 = .ok (.getfield 45, 3) := by decide +kernel
theorem dX9_bestWeights_28 : decode cX9_bestWeights 28 = .ok (.iload 4, 2) := by decide +kernel
theorem dX9_bestWeights_30 : decode cX9_bestWeights 30 = .ok (.iload 5, 2) := by decide +kernel
theorem dX9_bestWeights_32 : decode cX9_bestWeights 32 = .ok (.iconst 0, 1) := by decide +kernel
theorem dX9_bestWeights_33 : decode cX9_bestWeights 33 = .ok (.invokevirtual 341, 3) := by decide +kernel
theorem dX9_bestWeights_36 : decode cX9_bestWeights 36 = .ok (.aload_n 0, 1) := by decide +kernel
theorem dX9_bestWeights_37 : decode cX9_bestWeights 37 = .ok (.getfield 45, 3) := by decide +kernel
theorem dX9_bestWeights_40 : decode cX9_bestWeights 40 = .ok (.invokevirtual 218, 3) := by decide +kernel
theorem dX9_bestWeights_43 : decode cX9_bestWeights 43 = .ok (.istore 6, 2) := by decide +kernel
theorem dX9_bestWeights_45 : decode cX9_bestWeights 45 = .ok (.aload_n 0, 1) := by decide +kernel
theorem dX9_bestWeights_46 : decode cX9_bestWeights 46 = .ok (.getfield 45, 3) := by decide +kernel
theorem dX9_bestWeights_49 : decode cX9_bestWeights 49 = .ok (.invokevirtual 345, 3) := by decide +kernel
theorem dX9_bestWeights_52 : decode cX9_bestWeights 52 = .ok (.istore 7, 2) := by decide +kernel
theorem dX9_bestWeights_54 : decode cX9_bestWeights 54 = .ok (.iload_n 2, 1) := by decide +kernel
theorem dX9_bestWeights_55 : decode cX9_bestWeights 55 = .ok (.ifCond .lt 21, 3) := by decide +kernel
theorem dX9_bestWeights_58 : decode cX9_bestWeights 58 = .ok (.iload 6, 2) := by decide +kernel
theorem dX9_bestWeights_60 : decode cX9_bestWeights 60 = .ok (.iload_n 2, 1) := by decide +kernel
theorem dX9_bestWeights_61 : decode cX9_bestWeights 61 = .ok (.if_icmp .lt 15, 3) := by decide +kernel
theorem dX9_bestWeights_64 : decode cX9_bestWeights 64 = .ok (.iload 6, 2) := by decide +kernel
theorem dX9_bestWeights_66 : decode cX9_bestWeights 66 = .ok (.iload_n 2, 1) := by decide +kernel
theorem dX9_bestWeights_67 : decode cX9_bestWeights 67 = .ok (.if_icmp .ne 24, 3) := by decide +kernel
theorem dX9_bestWeights_70 : decode cX9_bestWeights 70 = .ok (.iload 7, 2) := by decide +kernel
theorem dX9_bestWeights_72 : decode cX9_bestWeights 72 = .ok (.iload_n 3, 1) := by decide +kernel
theorem dX9_bestWeights_73 : decode cX9_bestWeights 73 = .ok (.if_icmp .ge 18, 3) := by decide +kernel
theorem dX9_bestWeights_76 : decode cX9_bestWeights 76 = .ok (.iload 6, 2) := by decide +kernel
theorem dX9_bestWeights_78 : decode cX9_bestWeights 78 = .ok (.istore_n 2, 1) := by decide +kernel
theorem dX9_bestWeights_79 : decode cX9_bestWeights 79 = .ok (.iload 7, 2) := by decide +kernel
theorem dX9_bestWeights_81 : decode cX9_bestWeights 81 = .ok (.istore_n 3, 1) := by decide +kernel
theorem dX9_bestWeights_82 : decode cX9_bestWeights 82 = .ok (.bipush 10, 2) := by decide +kernel
theorem dX9_bestWeights_84 : decode cX9_bestWeights 84 = .ok (.iload 4, 2) := by decide +kernel
theorem dX9_bestWeights_86 : decode cX9_bestWeights 86 = .ok (.imul, 1) := by decide +kernel
theorem dX9_bestWeights_87 : decode cX9_bestWeights 87 = .ok (.iload 5, 2) := by decide +kernel
theorem dX9_bestWeights_89 : decode cX9_bestWeights 89 = .ok (.iadd, 1) := by decide +kernel
theorem dX9_bestWeights_90 : decode cX9_bestWeights 90 = .ok (.istore_n 1, 1) := by decide +kernel
theorem dX9_bestWeights_91 : decode cX9_bestWeights 91 = .ok (.iinc 5 1, 3) := by decide +kernel
theorem dX9_bestWeights_94 : decode cX9_bestWeights 94 = .ok (.goto (-76), 3) := by decide +kernel
theorem dX9_bestWeights_97 : decode cX9_bestWeights 97 = .ok (.iinc 4 1, 3) := by decide +kernel
theorem dX9_bestWeights_100 : decode cX9_bestWeights 100 = .ok (.goto (-91), 3) := by decide +kernel
theorem dX9_bestWeights_103 : decode cX9_bestWeights 103 = .ok (.iload_n 1, 1) := by decide +kernel
theorem dX9_bestWeights_104 : decode cX9_bestWeights 104 = .ok (.ireturn, 1) := by decide +kernel
theorem dX9_leastPieces_0 : decode cX9_leastPieces 0 = .ok (.aload_n 0, 1) := by decide +kernel
theorem dX9_leastPieces_1 : decode cX9_leastPieces 1 = .ok (.getfield 12, 3) := by decide +kernel
theorem dX9_leastPieces_4 : decode cX9_leastPieces 4 = .ok (.invokevirtual 348, 3) := by decide +kernel
theorem dX9_leastPieces_7 : decode cX9_leastPieces 7 = .ok (.iconst 5, 1) := by decide +kernel
theorem dX9_leastPieces_8 : decode cX9_leastPieces 8 = .ok (.if_icmp .le 6, 3) := by decide +kernel
theorem dX9_leastPieces_11 : decode cX9_leastPieces 11 = .ok (.bipush (-5), 2) := by decide +kernel
theorem dX9_leastPieces_13 : decode cX9_leastPieces 13 = .ok (.ireturn, 1) := by decide +kernel
theorem dX9_leastPieces_14 : decode cX9_leastPieces 14 = .ok (.aload_n 0, 1) := by decide +kernel
theorem dX9_leastPieces_15 : decode cX9_leastPieces 15 = .ok (.getfield 60, 3) := by decide +kernel
theorem dX9_leastPieces_18 : decode cX9_leastPieces 18 = .ok (.invokevirtual 351, 3) := by decide +kernel
theorem dX9_leastPieces_21 : decode cX9_leastPieces 21 = .ok (.aload_n 0, 1) := by decide +kernel
theorem dX9_leastPieces_22 : decode cX9_leastPieces 22 = .ok (.getfield 60, 3) := by decide +kernel
theorem dX9_leastPieces_25 : decode cX9_leastPieces 25 = .ok (.invokevirtual 354, 3) := by decide +kernel
theorem dX9_leastPieces_28 : decode cX9_leastPieces 28 = .ok (.ireturn, 1) := by decide +kernel
theorem dX9_bestRoot_0 : decode cX9_bestRoot 0 = .ok (.aload_n 0, 1) := by decide +kernel
theorem dX9_bestRoot_1 : decode cX9_bestRoot 1 = .ok (.getfield 12, 3) := by decide +kernel
theorem dX9_bestRoot_4 : decode cX9_bestRoot 4 = .ok (.invokevirtual 348, 3) := by decide +kernel
theorem dX9_bestRoot_7 : decode cX9_bestRoot 7 = .ok (.iconst 5, 1) := by decide +kernel
theorem dX9_bestRoot_8 : decode cX9_bestRoot 8 = .ok (.if_icmp .le 6, 3) := by decide +kernel
theorem dX9_bestRoot_11 : decode cX9_bestRoot 11 = .ok (.bipush (-5), 2) := by decide +kernel
theorem dX9_bestRoot_13 : decode cX9_bestRoot 13 = .ok (.ireturn, 1) := by decide +kernel
theorem dX9_bestRoot_14 : decode cX9_bestRoot 14 = .ok (.aload_n 0, 1) := by decide +kernel
theorem dX9_bestRoot_15 : decode cX9_bestRoot 15 = .ok (.getfield 60, 3) := by decide +kernel
theorem dX9_bestRoot_18 : decode cX9_bestRoot 18 = .ok (.invokevirtual 351, 3) := by decide +kernel
theorem dX9_bestRoot_21 : decode cX9_bestRoot 21 = .ok (.aload_n 0, 1) := by decide +kernel
theorem dX9_bestRoot_22 : decode cX9_bestRoot 22 = .ok (.getfield 60, 3) := by decide +kernel
theorem dX9_bestRoot_25 : decode cX9_bestRoot 25 = .ok (.invokevirtual 357, 3) := by decide +kernel
theorem dX9_bestRoot_28 : decode cX9_bestRoot 28 = .ok (.ireturn, 1) := by decide +kernel
theorem dX9_isOutside_0 : decode cX9_isOutside 0 = .ok (.iload_n 0, 1) := by decide +kernel
theorem dX9_isOutside_1 : decode cX9_isOutside 1 = .ok (.iload_n 1, 1) := by decide +kernel
theorem dX9_isOutside_2 : decode cX9_isOutside 2 = .ok (.if_icmp .lt 8, 3) := by decide +kernel
theorem dX9_isOutside_5 : decode cX9_isOutside 5 = .ok (.iload_n 0, 1) := by decide +kernel
theorem dX9_isOutside_6 : decode cX9_isOutside 6 = .ok (.iload_n 2, 1) := by decide +kernel
theorem dX9_isOutside_7 : decode cX9_isOutside 7 = .ok (.if_icmp .le 7, 3) := by decide +kernel
theorem dX9_isOutside_10 : decode cX9_isOutside 10 = .ok (.iconst 1, 1) := by decide +kernel
theorem dX9_isOutside_11 : decode cX9_isOutside 11 = .ok (.goto 4, 3) := by decide +kernel
theorem dX9_isOutside_14 : decode cX9_isOutside 14 = .ok (.iconst 0, 1) := by decide +kernel
theorem dX9_isOutside_15 : decode cX9_isOutside 15 = .ok (.ireturn, 1) := by decide +kernel
theorem dX9_isBadPoint_0 : decode cX9_isBadPoint 0 = .ok (.iload_n 0, 1) := by decide +kernel
theorem dX9_isBadPoint_1 : decode cX9_isBadPoint 1 = .ok (.iconst 0, 1) := by decide +kernel
theorem dX9_isBadPoint_2 : decode cX9_isBadPoint 2 = .ok (.bipush 63, 2) := by decide +kernel
theorem dX9_isBadPoint_4 : decode cX9_isBadPoint 4 = .ok (.invokestatic 90, 3) := by decide +kernel
theorem dX9_isBadPoint_7 : decode cX9_isBadPoint 7 = .ok (.ifCond .ne 13, 3) := by decide +kernel
theorem dX9_isBadPoint_10 : decode cX9_isBadPoint 10 = .ok (.iload_n 1, 1) := by decide +kernel
theorem dX9_isBadPoint_11 : decode cX9_isBadPoint 11 = .ok (.iconst 0, 1) := by decide +kernel
theorem dX9_isBadPoint_12 : decode cX9_isBadPoint 12 = .ok (.bipush 63, 2) := by decide +kernel
theorem dX9_isBadPoint_14 : decode cX9_isBadPoint 14 = .ok (.invokestatic 90, 3) := by decide +kernel
theorem dX9_isBadPoint_17 : decode cX9_isBadPoint 17 = .ok (.ifCond .eq 7, 3) := by decide +kernel
theorem dX9_isBadPoint_20 : decode cX9_isBadPoint 20 = .ok (.iconst 1, 1) := by decide +kernel
theorem dX9_isBadPoint_21 : decode cX9_isBadPoint 21 = .ok (.goto 4, 3) := by decide +kernel
theorem dX9_isBadPoint_24 : decode cX9_isBadPoint 24 = .ok (.iconst 0, 1) := by decide +kernel
theorem dX9_isBadPoint_25 : decode cX9_isBadPoint 25 = .ok (.ireturn, 1) := by decide +kernel
theorem dX9_isBadDirection_0 : decode cX9_isBadDirection 0 = .ok (.iload_n 0, 1) := by decide +kernel
theorem dX9_isBadDirection_1 : decode cX9_isBadDirection 1 = .ok (.bipush (-8), 2) := by decide +kernel
theorem dX9_isBadDirection_3 : decode cX9_isBadDirection 3 = .ok (.bipush 8, 2) := by decide +kernel
theorem dX9_isBadDirection_5 : decode cX9_isBadDirection 5 = .ok (.invokestatic 90, 3) := by decide +kernel
theorem dX9_isBadDirection_8 : decode cX9_isBadDirection 8 = .ok (.ifCond .ne 14, 3) := by decide +kernel
theorem dX9_isBadDirection_11 : decode cX9_isBadDirection 11 = .ok (.iload_n 1, 1) := by decide +kernel
theorem dX9_isBadDirection_12 : decode cX9_isBadDirection 12 = .ok (.bipush (-8), 2) := by decide +kernel
theorem dX9_isBadDirection_14 : decode cX9_isBadDirection 14 = .ok (.bipush 8, 2) := by decide +kernel
theorem dX9_isBadDirection_16 : decode cX9_isBadDirection 16 = .ok (.invokestatic 90, 3) := by decide +kernel
theorem dX9_isBadDirection_19 : decode cX9_isBadDirection 19 = .ok (.ifCond .eq 7, 3) := by decide +kernel
theorem dX9_isBadDirection_22 : decode cX9_isBadDirection 22 = .ok (.iconst 1, 1) := by decide +kernel
theorem dX9_isBadDirection_23 : decode cX9_isBadDirection 23 = .ok (.goto 4, 3) := by decide +kernel
theorem dX9_isBadDirection_26 : decode cX9_isBadDirection 26 = .ok (.iconst 0, 1) := by decide +kernel
theorem dX9_isBadDirection_27 : decode cX9_isBadDirection 27 = .ok (.ireturn, 1) := by decide +kernel
theorem dX9_isBadPicture_0 : decode cX9_isBadPicture 0 = .ok (.iload_n 0, 1) := by decide +kernel
theorem dX9_isBadPicture_1 : decode cX9_isBadPicture 1 = .ok (.iload_n 1, 1) := by decide +kernel
theorem dX9_isBadPicture_2 : decode cX9_isBadPicture 2 = .ok (.invokestatic 86, 3) := by decide +kernel
theorem dX9_isBadPicture_5 : decode cX9_isBadPicture 5 = .ok (.ifCond .ne 19, 3) := by decide +kernel
theorem dX9_isBadPicture_8 : decode cX9_isBadPicture 8 = .ok (.iload_n 2, 1) := by decide +kernel
theorem dX9_isBadPicture_9 : decode cX9_isBadPicture 9 = .ok (.iload_n 3, 1) := by decide +kernel
theorem dX9_isBadPicture_10 : decode cX9_isBadPicture 10 = .ok (.invokestatic 309, 3) := by decide +kernel
theorem dX9_isBadPicture_13 : decode cX9_isBadPicture 13 = .ok (.ifCond .ne 11, 3) := by decide +kernel
theorem dX9_isBadPicture_16 : decode cX9_isBadPicture 16 = .ok (.iload_n 2, 1) := by decide +kernel
theorem dX9_isBadPicture_17 : decode cX9_isBadPicture 17 = .ok (.ifCond .ne 11, 3) := by decide +kernel
theorem dX9_isBadPicture_20 : decode cX9_isBadPicture 20 = .ok (.iload_n 3, 1) := by decide +kernel
theorem dX9_isBadPicture_21 : decode cX9_isBadPicture 21 = .ok (.ifCond .ne 7, 3) := by decide +kernel
theorem dX9_isBadPicture_24 : decode cX9_isBadPicture 24 = .ok (.iconst 1, 1) := by decide +kernel
theorem dX9_isBadPicture_25 : decode cX9_isBadPicture 25 = .ok (.goto 4, 3) := by decide +kernel
theorem dX9_isBadPicture_28 : decode cX9_isBadPicture 28 = .ok (.iconst 0, 1) := by decide +kernel
theorem dX9_isBadPicture_29 : decode cX9_isBadPicture 29 = .ok (.ireturn, 1) := by decide +kernel
theorem dX9_isBadColumn_0 : decode cX9_isBadColumn 0 = .ok (.iload_n 0, 1) := by decide +kernel
theorem dX9_isBadColumn_1 : decode cX9_isBadColumn 1 = .ok (.iconst 0, 1) := by decide +kernel
theorem dX9_isBadColumn_2 : decode cX9_isBadColumn 2 = .ok (.bipush 31, 2) := by decide +kernel
theorem dX9_isBadColumn_4 : decode cX9_isBadColumn 4 = .ok (.invokestatic 90, 3) := by decide +kernel
theorem dX9_isBadColumn_7 : decode cX9_isBadColumn 7 = .ok (.ireturn, 1) := by decide +kernel
theorem dX9_areBadWeights_0 : decode cX9_areBadWeights 0 = .ok (.iload_n 0, 1) := by decide +kernel
theorem dX9_areBadWeights_1 : decode cX9_areBadWeights 1 = .ok (.iconst 0, 1) := by decide +kernel
theorem dX9_areBadWeights_2 : decode cX9_areBadWeights 2 = .ok (.bipush 9, 2) := by decide +kernel
theorem dX9_areBadWeights_4 : decode cX9_areBadWeights 4 = .ok (.invokestatic 90, 3) := by decide +kernel
theorem dX9_areBadWeights_7 : decode cX9_areBadWeights 7 = .ok (.ifCond .ne 13, 3) := by decide +kernel
theorem dX9_areBadWeights_10 : decode cX9_areBadWeights 10 = .ok (.iload_n 1, 1) := by decide +kernel
theorem dX9_areBadWeights_11 : decode cX9_areBadWeights 11 = .ok (.iconst 0, 1) := by decide +kernel
theorem dX9_areBadWeights_12 : decode cX9_areBadWeights 12 = .ok (.bipush 9, 2) := by decide +kernel
theorem dX9_areBadWeights_14 : decode cX9_areBadWeights 14 = .ok (.invokestatic 90, 3) := by decide +kernel
theorem dX9_areBadWeights_17 : decode cX9_areBadWeights 17 = .ok (.ifCond .eq 7, 3) := by decide +kernel
theorem dX9_areBadWeights_20 : decode cX9_areBadWeights 20 = .ok (.iconst 1, 1) := by decide +kernel
theorem dX9_areBadWeights_21 : decode cX9_areBadWeights 21 = .ok (.goto 4, 3) := by decide +kernel
theorem dX9_areBadWeights_24 : decode cX9_areBadWeights 24 = .ok (.iconst 0, 1) := by decide +kernel
theorem dX9_areBadWeights_25 : decode cX9_areBadWeights 25 = .ok (.ireturn, 1) := by decide +kernel
theorem dX9_pointCode_0 : decode cX9_pointCode 0 = .ok (.bipush 64, 2) := by decide +kernel
theorem dX9_pointCode_2 : decode cX9_pointCode 2 = .ok (.iload_n 0, 1) := by decide +kernel
theorem dX9_pointCode_3 : decode cX9_pointCode 3 = .ok (.imul, 1) := by decide +kernel
theorem dX9_pointCode_4 : decode cX9_pointCode 4 = .ok (.iload_n 1, 1) := by decide +kernel
theorem dX9_pointCode_5 : decode cX9_pointCode 5 = .ok (.iadd, 1) := by decide +kernel
theorem dX9_pointCode_6 : decode cX9_pointCode 6 = .ok (.ireturn, 1) := by decide +kernel
theorem dX9_beginEdit_0 : decode cX9_beginEdit 0 = .ok (.aload_n 0, 1) := by decide +kernel
theorem dX9_beginEdit_1 : decode cX9_beginEdit 1 = .ok (.getfield 25, 3) := by decide +kernel
theorem dX9_beginEdit_4 : decode cX9_beginEdit 4 = .ok (.aload_n 0, 1) := by decide +kernel
theorem dX9_beginEdit_5 : decode cX9_beginEdit 5 = .ok (.getfield 12, 3) := by decide +kernel
theorem dX9_beginEdit_8 : decode cX9_beginEdit 8 = .ok (.invokevirtual 360, 3) := by decide +kernel
theorem dX9_beginEdit_11 : decode cX9_beginEdit 11 = .ok (.aload_n 0, 1) := by decide +kernel
theorem dX9_beginEdit_12 : decode cX9_beginEdit 12 = .ok (.iconst 0, 1) := by decide +kernel
theorem dX9_beginEdit_13 : decode cX9_beginEdit 13 = .ok (.putfield 82, 3) := by decide +kernel
theorem dX9_beginEdit_16 : decode cX9_beginEdit 16 = .ok (.return_, 1) := by decide +kernel
theorem dX9_needTree_0 : decode cX9_needTree 0 = .ok (.aload_n 0, 1) := by decide +kernel
theorem dX9_needTree_1 : decode cX9_needTree 1 = .ok (.getfield 82, 3) := by decide +kernel
theorem dX9_needTree_4 : decode cX9_needTree 4 = .ok (.ifCond .eq 4, 3) := by decide +kernel
theorem dX9_needTree_7 : decode cX9_needTree 7 = .ok (.return_, 1) := by decide +kernel
theorem dX9_needTree_8 : decode cX9_needTree 8 = .ok (.aload_n 0, 1) := by decide +kernel
theorem dX9_needTree_9 : decode cX9_needTree 9 = .ok (.getfield 16, 3) := by decide +kernel
theorem dX9_needTree_12 : decode cX9_needTree 12 = .ok (.aload_n 0, 1) := by decide +kernel
theorem dX9_needTree_13 : decode cX9_needTree 13 = .ok (.getfield 12, 3) := by decide +kernel
theorem dX9_needTree_16 : decode cX9_needTree 16 = .ok (.invokevirtual 363, 3) := by decide +kernel
theorem dX9_needTree_19 : decode cX9_needTree 19 = .ok (.ifCond .ne 24, 3) := by decide +kernel
theorem dX9_needTree_22 : decode cX9_needTree 22 = .ok (.aload_n 0, 1) := by decide +kernel
theorem dX9_needTree_23 : decode cX9_needTree 23 = .ok (.getfield 16, 3) := by decide +kernel
theorem dX9_needTree_26 : decode cX9_needTree 26 = .ok (.aload_n 0, 1) := by decide +kernel
theorem dX9_needTree_27 : decode cX9_needTree 27 = .ok (.getfield 12, 3) := by decide +kernel
theorem dX9_needTree_30 : decode cX9_needTree 30 = .ok (.invokevirtual 366, 3) := by decide +kernel
theorem dX9_needTree_33 : decode cX9_needTree 33 = .ok (.aload_n 0, 1) := by decide +kernel
theorem dX9_needTree_34 : decode cX9_needTree 34 = .ok (.dup, 1) := by decide +kernel
theorem dX9_needTree_35 : decode cX9_needTree 35 = .ok (.getfield 78, 3) := by decide +kernel
theorem dX9_needTree_38 : decode cX9_needTree 38 = .ok (.iconst 1, 1) := by decide +kernel
theorem dX9_needTree_39 : decode cX9_needTree 39 = .ok (.iadd, 1) := by decide +kernel
theorem dX9_needTree_40 : decode cX9_needTree 40 = .ok (.putfield 78, 3) := by decide +kernel
theorem dX9_needTree_43 : decode cX9_needTree 43 = .ok (.aload_n 0, 1) := by decide +kernel
theorem dX9_needTree_44 : decode cX9_needTree 44 = .ok (.getfield 41, 3) := by decide +kernel
theorem dX9_needTree_47 : decode cX9_needTree 47 = .ok (.aload_n 0, 1) := by decide +kernel
theorem dX9_needTree_48 : decode cX9_needTree 48 = .ok (.getfield 12, 3) := by decide +kernel
theorem dX9_needTree_51 : decode cX9_needTree 51 = .ok (.invokevirtual 369, 3) := by decide +kernel
theorem dX9_needTree_54 : decode cX9_needTree 54 = .ok (.aload_n 0, 1) := by decide +kernel
theorem dX9_needTree_55 : decode cX9_needTree 55 = .ok (.getfield 12, 3) := by decide +kernel
theorem dX9_needTree_58 : decode cX9_needTree 58 = .ok (.invokevirtual 372, 3) := by decide +kernel
theorem dX9_needTree_61 : decode cX9_needTree 61 = .ok (.iconst 1, 1) := by decide +kernel
theorem dX9_needTree_62 : decode cX9_needTree 62 = .ok (.invokevirtual 341, 3) := by decide +kernel
theorem dX9_needTree_65 : decode cX9_needTree 65 = .ok (.aload_n 0, 1) := by decide +kernel
theorem dX9_needTree_66 : decode cX9_needTree 66 = .ok (.iconst 1, 1) := by decide +kernel
theorem dX9_needTree_67 : decode cX9_needTree 67 = .ok (.putfield 82, 3) := by decide +kernel
theorem dX9_needTree_70 : decode cX9_needTree 70 = .ok (.return_, 1) := by decide +kernel
theorem dX9_countCovering_0 : decode cX9_countCovering 0 = .ok (.iconst 0, 1) := by decide +kernel
theorem dX9_countCovering_1 : decode cX9_countCovering 1 = .ok (.istore_n 1, 1) := by decide +kernel
theorem dX9_countCovering_2 : decode cX9_countCovering 2 = .ok (.iconst 0, 1) := by decide +kernel
theorem dX9_countCovering_3 : decode cX9_countCovering 3 = .ok (.istore_n 2, 1) := by decide +kernel
theorem dX9_countCovering_4 : decode cX9_countCovering 4 = .ok (.iload_n 2, 1) := by decide +kernel
theorem dX9_countCovering_5 : decode cX9_countCovering 5 = .ok (.aload_n 0, 1) := by decide +kernel
theorem dX9_countCovering_6 : decode cX9_countCovering 6 = .ok (.getfield 53, 3) := by decide +kernel
theorem dX9_countCovering_9 : decode cX9_countCovering 9 = .ok (.invokevirtual 258, 3) := by decide +kernel
theorem dX9_countCovering_12 : decode cX9_countCovering 12 = .ok (.if_icmp .ge 27, 3) := by decide +kernel
theorem dX9_countCovering_15 : decode cX9_countCovering 15 = .ok (.aload_n 0, 1) := by decide +kernel
theorem dX9_countCovering_16 : decode cX9_countCovering 16 = .ok (.aload_n 0, 1) := by decide +kernel
theorem dX9_countCovering_17 : decode cX9_countCovering 17 = .ok (.getfield 53, 3) := by decide +kernel
theorem dX9_countCovering_20 : decode cX9_countCovering 20 = .ok (.iload_n 2, 1) := by decide +kernel
theorem dX9_countCovering_21 : decode cX9_countCovering 21 = .ok (.invokevirtual 259, 3) := by decide +kernel
theorem dX9_countCovering_24 : decode cX9_countCovering 24 = .ok (.invokevirtual 278, 3) := by decide +kernel
theorem dX9_countCovering_27 : decode cX9_countCovering 27 = .ok (.ifCond .eq 6, 3) := by decide +kernel
theorem dX9_countCovering_30 : decode cX9_countCovering 30 = .ok (.iinc 1 1, 3) := by decide +kernel
theorem dX9_countCovering_33 : decode cX9_countCovering 33 = .ok (.iinc 2 1, 3) := by decide +kernel
theorem dX9_countCovering_36 : decode cX9_countCovering 36 = .ok (.goto (-32), 3) := by decide +kernel
theorem dX9_countCovering_39 : decode cX9_countCovering 39 = .ok (.iload_n 1, 1) := by decide +kernel
theorem dX9_countCovering_40 : decode cX9_countCovering 40 = .ok (.ireturn, 1) := by decide +kernel
theorem dX9_covers_0 : decode cX9_covers 0 = .ok (.aload_n 0, 1) := by decide +kernel
theorem dX9_covers_1 : decode cX9_covers 1 = .ok (.getfield 67, 3) := by decide +kernel
theorem dX9_covers_4 : decode cX9_covers 4 = .ok (.aload_n 0, 1) := by decide +kernel
theorem dX9_covers_5 : decode cX9_covers 5 = .ok (.getfield 41, 3) := by decide +kernel
theorem dX9_covers_8 : decode cX9_covers 8 = .ok (.iload_n 1, 1) := by decide +kernel
theorem dX9_covers_9 : decode cX9_covers 9 = .ok (.invokevirtual 224, 3) := by decide +kernel
theorem dX9_covers_12 : decode cX9_covers 12 = .ok (.invokevirtual 375, 3) := by decide +kernel
theorem dX9_covers_15 : decode cX9_covers 15 = .ok (.ifCond .eq 63, 3) := by decide +kernel
theorem dX9_covers_18 : decode cX9_covers 18 = .ok (.aload_n 0, 1) := by decide +kernel
theorem dX9_covers_19 : decode cX9_covers 19 = .ok (.getfield 67, 3) := by decide +kernel
theorem dX9_covers_22 : decode cX9_covers 22 = .ok (.aload_n 0, 1) := by decide +kernel
theorem dX9_covers_23 : decode cX9_covers 23 = .ok (.getfield 41, 3) := by decide +kernel
theorem dX9_covers_26 : decode cX9_covers 26 = .ok (.iload_n 1, 1) := by decide +kernel
theorem dX9_covers_27 : decode cX9_covers 27 = .ok (.iconst 0, 1) := by decide +kernel
theorem dX9_covers_28 : decode cX9_covers 28 = .ok (.invokevirtual 230, 3) := by decide +kernel
theorem dX9_covers_31 : decode cX9_covers 31 = .ok (.aload_n 0, 1) := by decide +kernel
theorem dX9_covers_32 : decode cX9_covers 32 = .ok (.getfield 41, 3) := by decide +kernel
theorem dX9_covers_35 : decode cX9_covers 35 = .ok (.iload_n 1, 1) := by decide +kernel
theorem dX9_covers_36 : decode cX9_covers 36 = .ok (.iconst 1, 1) := by decide +kernel
theorem dX9_covers_37 : decode cX9_covers 37 = .ok (.invokevirtual 230, 3) := by decide +kernel
theorem dX9_covers_40 : decode cX9_covers 40 = .ok (.invokevirtual 378, 3) := by decide +kernel
theorem dX9_covers_43 : decode cX9_covers 43 = .ok (.ifCond .eq 35, 3) := by decide +kernel
theorem dX9_covers_46 : decode cX9_covers 46 = .ok (.aload_n 0, 1) := by decide +kernel
theorem dX9_covers_47 : decode cX9_covers 47 = .ok (.getfield 67, 3) := by decide +kernel
theorem dX9_covers_50 : decode cX9_covers 50 = .ok (.aload_n 0, 1) := by decide +kernel
theorem dX9_covers_51 : decode cX9_covers 51 = .ok (.getfield 41, 3) := by decide +kernel
theorem dX9_covers_54 : decode cX9_covers 54 = .ok (.iload_n 1, 1) := by decide +kernel
theorem dX9_covers_55 : decode cX9_covers 55 = .ok (.iconst 2, 1) := by decide +kernel
theorem dX9_covers_56 : decode cX9_covers 56 = .ok (.invokevirtual 230, 3) := by decide +kernel
theorem dX9_covers_59 : decode cX9_covers 59 = .ok (.aload_n 0, 1) := by decide +kernel
theorem dX9_covers_60 : decode cX9_covers 60 = .ok (.getfield 41, 3) := by decide +kernel
theorem dX9_covers_63 : decode cX9_covers 63 = .ok (.iload_n 1, 1) := by decide +kernel
theorem dX9_covers_64 : decode cX9_covers 64 = .ok (.iconst 3, 1) := by decide +kernel
theorem dX9_covers_65 : decode cX9_covers 65 = .ok (.invokevirtual 230, 3) := by decide +kernel
theorem dX9_covers_68 : decode cX9_covers 68 = .ok (.invokevirtual 381, 3) := by decide +kernel
theorem dX9_covers_71 : decode cX9_covers 71 = .ok (.ifCond .eq 7, 3) := by decide +kernel
theorem dX9_covers_74 : decode cX9_covers 74 = .ok (.iconst 1, 1) := by decide +kernel
theorem dX9_covers_75 : decode cX9_covers 75 = .ok (.goto 4, 3) := by decide +kernel
theorem dX9_covers_78 : decode cX9_covers 78 = .ok (.iconst 0, 1) := by decide +kernel
theorem dX9_covers_79 : decode cX9_covers 79 = .ok (.ireturn, 1) := by decide +kernel
theorem dX9_countSeenFrom_0 : decode cX9_countSeenFrom 0 = .ok (.aload_n 0, 1) := by decide +kernel
theorem dX9_countSeenFrom_1 : decode cX9_countSeenFrom 1 = .ok (.getfield 67, 3) := by decide +kernel
theorem dX9_countSeenFrom_4 : decode cX9_countSeenFrom 4 = .ok (.iload_n 1, 1) := by decide +kernel
theorem dX9_countSeenFrom_5 : decode cX9_countSeenFrom 5 = .ok (.iload_n 2, 1) := by decide +kernel
theorem dX9_countSeenFrom_6 : decode cX9_countSeenFrom 6 = .ok (.invokevirtual 266, 3) := by decide +kernel
theorem dX9_countSeenFrom_9 : decode cX9_countSeenFrom 9 = .ok (.iconst 0, 1) := by decide +kernel
theorem dX9_countSeenFrom_10 : decode cX9_countSeenFrom 10 = .ok (.istore_n 3, 1) := by decide +kernel
theorem dX9_countSeenFrom_11 : decode cX9_countSeenFrom 11 = .ok (.iconst 0, 1) := by decide +kernel
theorem dX9_countSeenFrom_12 : decode cX9_countSeenFrom 12 = .ok (.istore 4, 2) := by decide +kernel
theorem dX9_countSeenFrom_14 : decode cX9_countSeenFrom 14 = .ok (.iload 4, 2) := by decide +kernel
theorem dX9_countSeenFrom_16 : decode cX9_countSeenFrom 16 = .ok (.bipush 8, 2) := by decide +kernel
theorem dX9_countSeenFrom_18 : decode cX9_countSeenFrom 18 = .ok (.if_icmp .ge 49, 3) := by decide +kernel
theorem dX9_countSeenFrom_21 : decode cX9_countSeenFrom 21 = .ok (.iconst 0, 1) := by decide +kernel
theorem dX9_countSeenFrom_22 : decode cX9_countSeenFrom 22 = .ok (.istore 5, 2) := by decide +kernel
theorem dX9_countSeenFrom_24 : decode cX9_countSeenFrom 24 = .ok (.iload 5, 2) := by decide +kernel
theorem dX9_countSeenFrom_26 : decode cX9_countSeenFrom 26 = .ok (.bipush 8, 2) := by decide +kernel
theorem dX9_countSeenFrom_28 : decode cX9_countSeenFrom 28 = .ok (.if_icmp .ge 33, 3) := by decide +kernel
theorem dX9_countSeenFrom_31 : decode cX9_countSeenFrom 31 = .ok (.aload_n 0, 1) := by decide +kernel
theorem dX9_countSeenFrom_32 : decode cX9_countSeenFrom 32 = .ok (.iload 4, 2) := by decide +kernel
theorem dX9_countSeenFrom_34 : decode cX9_countSeenFrom 34 = .ok (.bipush 8, 2) := by decide +kernel
theorem dX9_countSeenFrom_36 : decode cX9_countSeenFrom 36 = .ok (.imul, 1) := by decide +kernel
theorem dX9_countSeenFrom_37 : decode cX9_countSeenFrom 37 = .ok (.iload_n 1, 1) := by decide +kernel
theorem dX9_countSeenFrom_38 : decode cX9_countSeenFrom 38 = .ok (.isub, 1) := by decide +kernel
theorem dX9_countSeenFrom_39 : decode cX9_countSeenFrom 39 = .ok (.iload 5, 2) := by decide +kernel
theorem dX9_countSeenFrom_41 : decode cX9_countSeenFrom 41 = .ok (.bipush 8, 2) := by decide +kernel
theorem dX9_countSeenFrom_43 : decode cX9_countSeenFrom 43 = .ok (.imul, 1) := by decide +kernel
theorem dX9_countSeenFrom_44 : decode cX9_countSeenFrom 44 = .ok (.iload_n 2, 1) := by decide +kernel
theorem dX9_countSeenFrom_45 : decode cX9_countSeenFrom 45 = .ok (.isub, 1) := by decide +kernel
theorem dX9_countSeenFrom_46 : decode cX9_countSeenFrom 46 = .ok (.invokevirtual 384, 3) := by decide +kernel
theorem dX9_countSeenFrom_49 : decode cX9_countSeenFrom 49 = .ok (.ifCond .eq 6, 3) := by decide +kernel
theorem dX9_countSeenFrom_52 : decode cX9_countSeenFrom 52 = .ok (.iinc 3 1, 3) := by decide +kernel
theorem dX9_countSeenFrom_55 : decode cX9_countSeenFrom 55 = .ok (.iinc 5 1, 3) := by decide +kernel
theorem dX9_countSeenFrom_58 : decode cX9_countSeenFrom 58 = .ok (.goto (-34), 3) := by decide +kernel
theorem dX9_countSeenFrom_61 : decode cX9_countSeenFrom 61 = .ok (.iinc 4 1, 3) := by decide +kernel
theorem dX9_countSeenFrom_64 : decode cX9_countSeenFrom 64 = .ok (.goto (-50), 3) := by decide +kernel
theorem dX9_countSeenFrom_67 : decode cX9_countSeenFrom 67 = .ok (.iload_n 3, 1) := by decide +kernel
theorem dX9_countSeenFrom_68 : decode cX9_countSeenFrom 68 = .ok (.ireturn, 1) := by decide +kernel
theorem dX9_sees_0 : decode cX9_sees 0 = .ok (.iload_n 1, 1) := by decide +kernel
theorem dX9_sees_1 : decode cX9_sees 1 = .ok (.ifCond .ne 9, 3) := by decide +kernel
theorem dX9_sees_4 : decode cX9_sees 4 = .ok (.iload_n 2, 1) := by decide +kernel
theorem dX9_sees_5 : decode cX9_sees 5 = .ok (.ifCond .ne 5, 3) := by decide +kernel
theorem dX9_sees_8 : decode cX9_sees 8 = .ok (.iconst 0, 1) := by decide +kernel
theorem dX9_sees_9 : decode cX9_sees 9 = .ok (.ireturn, 1) := by decide +kernel
theorem dX9_sees_10 : decode cX9_sees 10 = .ok (.aload_n 0, 1) := by decide +kernel
theorem dX9_sees_11 : decode cX9_sees 11 = .ok (.getfield 67, 3) := by decide +kernel
theorem dX9_sees_14 : decode cX9_sees 14 = .ok (.iload_n 1, 1) := by decide +kernel
theorem dX9_sees_15 : decode cX9_sees 15 = .ok (.iload_n 2, 1) := by decide +kernel
theorem dX9_sees_16 : decode cX9_sees 16 = .ok (.invokevirtual 281, 3) := by decide +kernel
theorem dX9_sees_19 : decode cX9_sees 19 = .ok (.aload_n 0, 1) := by decide +kernel
theorem dX9_sees_20 : decode cX9_sees 20 = .ok (.getfield 67, 3) := by decide +kernel
theorem dX9_sees_23 : decode cX9_sees 23 = .ok (.invokevirtual 387, 3) := by decide +kernel
theorem dX9_sees_26 : decode cX9_sees 26 = .ok (.ifCond .ne 7, 3) := by decide +kernel
theorem dX9_sees_29 : decode cX9_sees 29 = .ok (.iconst 1, 1) := by decide +kernel
theorem dX9_sees_30 : decode cX9_sees 30 = .ok (.goto 4, 3) := by decide +kernel
theorem dX9_sees_33 : decode cX9_sees 33 = .ok (.iconst 0, 1) := by decide +kernel
theorem dX9_sees_34 : decode cX9_sees 34 = .ok (.ireturn, 1) := by decide +kernel
theorem dX9_placeAfterMove_0 : decode cX9_placeAfterMove 0 = .ok (.aload_n 0, 1) := by decide +kernel
theorem dX9_placeAfterMove_1 : decode cX9_placeAfterMove 1 = .ok (.getfield 67, 3) := by decide +kernel
theorem dX9_placeAfterMove_4 : decode cX9_placeAfterMove 4 = .ok (.iload_n 1, 1) := by decide +kernel
theorem dX9_placeAfterMove_5 : decode cX9_placeAfterMove 5 = .ok (.iload_n 2, 1) := by decide +kernel
theorem dX9_placeAfterMove_6 : decode cX9_placeAfterMove 6 = .ok (.invokevirtual 266, 3) := by decide +kernel
theorem dX9_placeAfterMove_9 : decode cX9_placeAfterMove 9 = .ok (.aload_n 0, 1) := by decide +kernel
theorem dX9_placeAfterMove_10 : decode cX9_placeAfterMove 10 = .ok (.iload_n 1, 1) := by decide +kernel
theorem dX9_placeAfterMove_11 : decode cX9_placeAfterMove 11 = .ok (.iload_n 2, 1) := by decide +kernel
theorem dX9_placeAfterMove_12 : decode cX9_placeAfterMove 12 = .ok (.iload_n 3, 1) := by decide +kernel
theorem dX9_placeAfterMove_13 : decode cX9_placeAfterMove 13 = .ok (.iload 4, 2) := by decide +kernel
theorem dX9_placeAfterMove_15 : decode cX9_placeAfterMove 15 = .ok (.invokevirtual 390, 3) := by decide +kernel
theorem dX9_placeAfterMove_18 : decode cX9_placeAfterMove 18 = .ok (.ifCond .eq 14, 3) := by decide +kernel
theorem dX9_placeAfterMove_21 : decode cX9_placeAfterMove 21 = .ok (.iload_n 1, 1) := by decide +kernel
theorem dX9_placeAfterMove_22 : decode cX9_placeAfterMove 22 = .ok (.iload_n 3, 1) := by decide +kernel
theorem dX9_placeAfterMove_23 : decode cX9_placeAfterMove 23 = .ok (.iadd, 1) := by decide +kernel
theorem dX9_placeAfterMove_24 : decode cX9_placeAfterMove 24 = .ok (.iload_n 2, 1) := by decide +kernel
theorem dX9_placeAfterMove_25 : decode cX9_placeAfterMove 25 = .ok (.iload 4, 2) := by decide +kernel
theorem dX9_placeAfterMove_27 : decode cX9_placeAfterMove 27 = .ok (.iadd, 1) := by decide +kernel
theorem dX9_placeAfterMove_28 : decode cX9_placeAfterMove 28 = .ok (.invokestatic 129, 3) := by decide +kernel
theorem dX9_placeAfterMove_31 : decode cX9_placeAfterMove 31 = .ok (.ireturn, 1) := by decide +kernel
theorem dX9_placeAfterMove_32 : decode cX9_placeAfterMove 32 = .ok (.aload_n 0, 1) := by decide +kernel
theorem dX9_placeAfterMove_33 : decode cX9_placeAfterMove 33 = .ok (.iload_n 1, 1) := by decide +kernel
theorem dX9_placeAfterMove_34 : decode cX9_placeAfterMove 34 = .ok (.iload_n 2, 1) := by decide +kernel
theorem dX9_placeAfterMove_35 : decode cX9_placeAfterMove 35 = .ok (.iload_n 3, 1) := by decide +kernel
theorem dX9_placeAfterMove_36 : decode cX9_placeAfterMove 36 = .ok (.iconst 0, 1) := by decide +kernel
theorem dX9_placeAfterMove_37 : decode cX9_placeAfterMove 37 = .ok (.invokevirtual 390, 3) := by decide +kernel
theorem dX9_placeAfterMove_40 : decode cX9_placeAfterMove 40 = .ok (.ifCond .eq 11, 3) := by decide +kernel
theorem dX9_placeAfterMove_43 : decode cX9_placeAfterMove 43 = .ok (.iload_n 1, 1) := by decide +kernel
theorem dX9_placeAfterMove_44 : decode cX9_placeAfterMove 44 = .ok (.iload_n 3, 1) := by decide +kernel
theorem dX9_placeAfterMove_45 : decode cX9_placeAfterMove 45 = .ok (.iadd, 1) := by decide +kernel
theorem dX9_placeAfterMove_46 : decode cX9_placeAfterMove 46 = .ok (.iload_n 2, 1) := by decide +kernel
theorem dX9_placeAfterMove_47 : decode cX9_placeAfterMove 47 = .ok (.invokestatic 129, 3) := by decide +kernel
theorem dX9_placeAfterMove_50 : decode cX9_placeAfterMove 50 = .ok (.ireturn, 1) := by decide +kernel
theorem dX9_placeAfterMove_51 : decode cX9_placeAfterMove 51 = .ok (.aload_n 0, 1) := by decide +kernel
theorem dX9_placeAfterMove_52 : decode cX9_placeAfterMove 52 = .ok (.iload_n 1, 1) := by decide +kernel
theorem dX9_placeAfterMove_53 : decode cX9_placeAfterMove 53 = .ok (.iload_n 2, 1) := by decide +kernel
theorem dX9_placeAfterMove_54 : decode cX9_placeAfterMove 54 = .ok (.iconst 0, 1) := by decide +kernel
theorem dX9_placeAfterMove_55 : decode cX9_placeAfterMove 55 = .ok (.iload 4, 2) := by decide +kernel
theorem dX9_placeAfterMove_57 : decode cX9_placeAfterMove 57 = .ok (.invokevirtual 390, 3) := by decide +kernel
theorem dX9_placeAfterMove_60 : decode cX9_placeAfterMove 60 = .ok (.ifCond .eq 12, 3) := by decide +kernel
theorem dX9_placeAfterMove_63 : decode cX9_placeAfterMove 63 = .ok (.iload_n 1, 1) := by decide +kernel
theorem dX9_placeAfterMove_64 : decode cX9_placeAfterMove 64 = .ok (.iload_n 2, 1) := by decide +kernel
theorem dX9_placeAfterMove_65 : decode cX9_placeAfterMove 65 = .ok (.iload 4, 2) := by decide +kernel
theorem dX9_placeAfterMove_67 : decode cX9_placeAfterMove 67 = .ok (.iadd, 1) := by decide +kernel
theorem dX9_placeAfterMove_68 : decode cX9_placeAfterMove 68 = .ok (.invokestatic 129, 3) := by decide +kernel
theorem dX9_placeAfterMove_71 : decode cX9_placeAfterMove 71 = .ok (.ireturn, 1) := by decide +kernel
theorem dX9_placeAfterMove_72 : decode cX9_placeAfterMove 72 = .ok (.iload_n 1, 1) := by decide +kernel
theorem dX9_placeAfterMove_73 : decode cX9_placeAfterMove 73 = .ok (.iload_n 2, 1) := by decide +kernel
theorem dX9_placeAfterMove_74 : decode cX9_placeAfterMove 74 = .ok (.invokestatic 129, 3) := by decide +kernel
theorem dX9_placeAfterMove_77 : decode cX9_placeAfterMove 77 = .ok (.ireturn, 1) := by decide +kernel
theorem dX9_canMove_0 : decode cX9_canMove 0 = .ok (.iload_n 1, 1) := by decide +kernel
theorem dX9_canMove_1 : decode cX9_canMove 1 = .ok (.iload_n 3, 1) := by decide +kernel
theorem dX9_canMove_2 : decode cX9_canMove 2 = .ok (.iadd, 1) := by decide +kernel
theorem dX9_canMove_3 : decode cX9_canMove 3 = .ok (.iload_n 2, 1) := by decide +kernel
theorem dX9_canMove_4 : decode cX9_canMove 4 = .ok (.iload 4, 2) := by decide +kernel
theorem dX9_canMove_6 : decode cX9_canMove 6 = .ok (.iadd, 1) := by decide +kernel
theorem dX9_canMove_7 : decode cX9_canMove 7 = .ok (.invokestatic 86, 3) := by decide +kernel
theorem dX9_canMove_10 : decode cX9_canMove 10 = .ok (.ifCond .ne 17, 3) := by decide +kernel
theorem dX9_canMove_13 : decode cX9_canMove 13 = .ok (.aload_n 0, 1) := by decide +kernel
theorem dX9_canMove_14 : decode cX9_canMove 14 = .ok (.iload_n 3, 1) := by decide +kernel
theorem dX9_canMove_15 : decode cX9_canMove 15 = .ok (.iload 4, 2) := by decide +kernel
theorem dX9_canMove_17 : decode cX9_canMove 17 = .ok (.invokevirtual 384, 3) := by decide +kernel
theorem dX9_canMove_20 : decode cX9_canMove 20 = .ok (.ifCond .eq 7, 3) := by decide +kernel
theorem dX9_canMove_23 : decode cX9_canMove 23 = .ok (.iconst 1, 1) := by decide +kernel
theorem dX9_canMove_24 : decode cX9_canMove 24 = .ok (.goto 4, 3) := by decide +kernel
theorem dX9_canMove_27 : decode cX9_canMove 27 = .ok (.iconst 0, 1) := by decide +kernel
theorem dX9_canMove_28 : decode cX9_canMove 28 = .ok (.ireturn, 1) := by decide +kernel
theorem dX9_nextState_0 : decode cX9_nextState 0 = .ok (.ldc2_w 393, 3) := by decide +kernel
theorem dX9_nextState_3 : decode cX9_nextState 3 = .ok (.lload_n 0, 1) := by decide +kernel
theorem dX9_nextState_4 : decode cX9_nextState 4 = .ok (.lmul, 1) := by decide +kernel
theorem dX9_nextState_5 : decode cX9_nextState 5 = .ok (.ldc2_w 395, 3) := by decide +kernel
theorem dX9_nextState_8 : decode cX9_nextState 8 = .ok (.ladd, 1) := by decide +kernel
theorem dX9_nextState_9 : decode cX9_nextState 9 = .ok (.ldc2_w 397, 3) := by decide +kernel
theorem dX9_nextState_12 : decode cX9_nextState 12 = .ok (.lrem, 1) := by decide +kernel
theorem dX9_nextState_13 : decode cX9_nextState 13 = .ok (.lreturn, 1) := by decide +kernel
theorem dX9_randomMove_0 : decode cX9_randomMove 0 = .ok (.lload_n 0, 1) := by decide +kernel
theorem dX9_randomMove_1 : decode cX9_randomMove 1 = .ok (.ldc2_w 399, 3) := by decide +kernel
theorem dX9_randomMove_4 : decode cX9_randomMove 4 = .ok (.ldiv, 1) := by decide +kernel
theorem dX9_randomMove_5 : decode cX9_randomMove 5 = .ok (.ldc2_w 401, 3) := by decide +kernel
theorem dX9_randomMove_8 : decode cX9_randomMove 8 = .ok (.lrem, 1) := by decide +kernel
theorem dX9_randomMove_9 : decode cX9_randomMove 9 = .ok (.l2i, 1) := by decide +kernel
theorem dX9_randomMove_10 : decode cX9_randomMove 10 = .ok (.iconst 3, 1) := by decide +kernel
theorem dX9_randomMove_11 : decode cX9_randomMove 11 = .ok (.isub, 1) := by decide +kernel
theorem dX9_randomMove_12 : decode cX9_randomMove 12 = .ok (.ireturn, 1) := by decide +kernel
theorem dX9_quotient_0 : decode cX9_quotient 0 = .ok (.iload_n 1, 1) := by decide +kernel
theorem dX9_quotient_1 : decode cX9_quotient 1 = .ok (.ifCond .ne 7, 3) := by decide +kernel
theorem dX9_quotient_4 : decode cX9_quotient 4 = .ok (.dconst 0, 1) := by decide +kernel
theorem dX9_quotient_5 : decode cX9_quotient 5 = .ok (.goto 8, 3) := by decide +kernel
theorem dX9_quotient_8 : decode cX9_quotient 8 = .ok (.iload_n 0, 1) := by decide +kernel
theorem dX9_quotient_9 : decode cX9_quotient 9 = .ok (.i2d, 1) := by decide +kernel
theorem dX9_quotient_10 : decode cX9_quotient 10 = .ok (.iload_n 1, 1) := by decide +kernel
theorem dX9_quotient_11 : decode cX9_quotient 11 = .ok (.i2d, 1) := by decide +kernel
theorem dX9_quotient_12 : decode cX9_quotient 12 = .ok (.ddiv, 1) := by decide +kernel
theorem dX9_quotient_13 : decode cX9_quotient 13 = .ok (.dreturn, 1) := by decide +kernel
theorem dX9_greatestDivisor_0 : decode cX9_greatestDivisor 0 = .ok (.lload_n 0, 1) := by decide +kernel
theorem dX9_greatestDivisor_1 : decode cX9_greatestDivisor 1 = .ok (.lstore 4, 2) := by decide +kernel
theorem dX9_greatestDivisor_3 : decode cX9_greatestDivisor 3 = .ok (.lload_n 2, 1) := by decide +kernel
theorem dX9_greatestDivisor_4 : decode cX9_greatestDivisor 4 = .ok (.lstore 6, 2) := by decide +kernel
theorem dX9_greatestDivisor_6 : decode cX9_greatestDivisor 6 = .ok (.iconst 0, 1) := by decide +kernel
theorem dX9_greatestDivisor_7 : decode cX9_greatestDivisor 7 = .ok (.istore 8, 2) := by decide +kernel
theorem dX9_greatestDivisor_9 : decode cX9_greatestDivisor 9 = .ok (.iload 8, 2) := by decide +kernel
theorem dX9_greatestDivisor_11 : decode cX9_greatestDivisor 11 = .ok (.bipush 100, 2) := by decide +kernel
theorem dX9_greatestDivisor_13 : decode cX9_greatestDivisor 13 = .ok (.if_icmp .ge 31, 3) := by decide +kernel
theorem dX9_greatestDivisor_16 : decode cX9_greatestDivisor 16 = .ok (.lload 6, 2) := by decide +kernel
theorem dX9_greatestDivisor_18 : decode cX9_greatestDivisor 18 = .ok (.lconst 0, 1) := by decide +kernel
theorem dX9_greatestDivisor_19 : decode cX9_greatestDivisor 19 = .ok (.lcmp, 1) := by decide +kernel
theorem dX9_greatestDivisor_20 : decode cX9_greatestDivisor 20 = .ok (.ifCond .eq 24, 3) := by decide +kernel
theorem dX9_greatestDivisor_23 : decode cX9_greatestDivisor 23 = .ok (.lload 4, 2) := by decide +kernel
theorem dX9_greatestDivisor_25 : decode cX9_greatestDivisor 25 = .ok (.lload 6, 2) := by decide +kernel
theorem dX9_greatestDivisor_27 : decode cX9_greatestDivisor 27 = .ok (.lrem, 1) := by decide +kernel
theorem dX9_greatestDivisor_28 : decode cX9_greatestDivisor 28 = .ok (.lstore 9, 2) := by decide +kernel
theorem dX9_greatestDivisor_30 : decode cX9_greatestDivisor 30 = .ok (.lload 6, 2) := by decide +kernel
theorem dX9_greatestDivisor_32 : decode cX9_greatestDivisor 32 = .ok (.lstore 4, 2) := by decide +kernel
theorem dX9_greatestDivisor_34 : decode cX9_greatestDivisor 34 = .ok (.lload 9, 2) := by decide +kernel
theorem dX9_greatestDivisor_36 : decode cX9_greatestDivisor 36 = .ok (.lstore 6, 2) := by decide +kernel
theorem dX9_greatestDivisor_38 : decode cX9_greatestDivisor 38 = .ok (.iinc 8 1, 3) := by decide +kernel
theorem dX9_greatestDivisor_41 : decode cX9_greatestDivisor 41 = .ok (.goto (-32), 3) := by decide +kernel
theorem dX9_greatestDivisor_44 : decode cX9_greatestDivisor 44 = .ok (.lload 4, 2) := by decide +kernel
theorem dX9_greatestDivisor_46 : decode cX9_greatestDivisor 46 = .ok (.lconst 0, 1) := by decide +kernel
theorem dX9_greatestDivisor_47 : decode cX9_greatestDivisor 47 = .ok (.lcmp, 1) := by decide +kernel
theorem dX9_greatestDivisor_48 : decode cX9_greatestDivisor 48 = .ok (.ifCond .ge 9, 3) := by decide +kernel
theorem dX9_greatestDivisor_51 : decode cX9_greatestDivisor 51 = .ok (.lload 4, 2) := by decide +kernel
theorem dX9_greatestDivisor_53 : decode cX9_greatestDivisor 53 = .ok (.lneg, 1) := by decide +kernel
theorem dX9_greatestDivisor_54 : decode cX9_greatestDivisor 54 = .ok (.goto 5, 3) := by decide +kernel
theorem dX9_greatestDivisor_57 : decode cX9_greatestDivisor 57 = .ok (.lload 4, 2) := by decide +kernel
theorem dX9_greatestDivisor_59 : decode cX9_greatestDivisor 59 = .ok (.lreturn, 1) := by decide +kernel
theorem dX9_lowestPart_0 : decode cX9_lowestPart 0 = .ok (.lload_n 0, 1) := by decide +kernel
theorem dX9_lowestPart_1 : decode cX9_lowestPart 1 = .ok (.lload_n 2, 1) := by decide +kernel
theorem dX9_lowestPart_2 : decode cX9_lowestPart 2 = .ok (.invokestatic 403, 3) := by decide +kernel
theorem dX9_lowestPart_5 : decode cX9_lowestPart 5 = .ok (.lstore 5, 2) := by decide +kernel
theorem dX9_lowestPart_7 : decode cX9_lowestPart 7 = .ok (.lload 5, 2) := by decide +kernel
theorem dX9_lowestPart_9 : decode cX9_lowestPart 9 = .ok (.lconst 0, 1) := by decide +kernel
theorem dX9_lowestPart_10 : decode cX9_lowestPart 10 = .ok (.lcmp, 1) := by decide +kernel
theorem dX9_lowestPart_11 : decode cX9_lowestPart 11 = .ok (.ifCond .ne 5, 3) := by decide +kernel
theorem dX9_lowestPart_14 : decode cX9_lowestPart 14 = .ok (.lconst 0, 1) := by decide +kernel
theorem dX9_lowestPart_15 : decode cX9_lowestPart 15 = .ok (.lreturn, 1) := by decide +kernel
theorem dX9_lowestPart_16 : decode cX9_lowestPart 16 = .ok (.iload 4, 2) := by decide +kernel
theorem dX9_lowestPart_18 : decode cX9_lowestPart 18 = .ok (.ifCond .ne 10, 3) := by decide +kernel
theorem dX9_lowestPart_21 : decode cX9_lowestPart 21 = .ok (.lload_n 0, 1) := by decide +kernel
theorem dX9_lowestPart_22 : decode cX9_lowestPart 22 = .ok (.lload 5, 2) := by decide +kernel
theorem dX9_lowestPart_24 : decode cX9_lowestPart 24 = .ok (.ldiv, 1) := by decide +kernel
theorem dX9_lowestPart_25 : decode cX9_lowestPart 25 = .ok (.goto 7, 3) := by decide +kernel
theorem dX9_lowestPart_28 : decode cX9_lowestPart 28 = .ok (.lload_n 2, 1) := by decide +kernel
theorem dX9_lowestPart_29 : decode cX9_lowestPart 29 = .ok (.lload 5, 2) := by decide +kernel
theorem dX9_lowestPart_31 : decode cX9_lowestPart 31 = .ok (.ldiv, 1) := by decide +kernel
theorem dX9_lowestPart_32 : decode cX9_lowestPart 32 = .ok (.lreturn, 1) := by decide +kernel
theorem dX9_squareRoot_0 : decode cX9_squareRoot 0 = .ok (.lconst 0, 1) := by decide +kernel
theorem dX9_squareRoot_1 : decode cX9_squareRoot 1 = .ok (.lstore_n 1, 1) := by decide +kernel
theorem dX9_squareRoot_2 : decode cX9_squareRoot 2 = .ok (.iconst 0, 1) := by decide +kernel
theorem dX9_squareRoot_3 : decode cX9_squareRoot 3 = .ok (.istore_n 3, 1) := by decide +kernel
theorem dX9_squareRoot_4 : decode cX9_squareRoot 4 = .ok (.iload_n 3, 1) := by decide +kernel
theorem dX9_squareRoot_5 : decode cX9_squareRoot 5 = .ok (.bipush 100, 2) := by decide +kernel
theorem dX9_squareRoot_7 : decode cX9_squareRoot 7 = .ok (.if_icmp .ge 26, 3) := by decide +kernel
theorem dX9_squareRoot_10 : decode cX9_squareRoot 10 = .ok (.lload_n 1, 1) := by decide +kernel
theorem dX9_squareRoot_11 : decode cX9_squareRoot 11 = .ok (.lconst 1, 1) := by decide +kernel
theorem dX9_squareRoot_12 : decode cX9_squareRoot 12 = .ok (.ladd, 1) := by decide +kernel
theorem dX9_squareRoot_13 : decode cX9_squareRoot 13 = .ok (.lload_n 1, 1) := by decide +kernel
theorem dX9_squareRoot_14 : decode cX9_squareRoot 14 = .ok (.lconst 1, 1) := by decide +kernel
theorem dX9_squareRoot_15 : decode cX9_squareRoot 15 = .ok (.ladd, 1) := by decide +kernel
theorem dX9_squareRoot_16 : decode cX9_squareRoot 16 = .ok (.lmul, 1) := by decide +kernel
theorem dX9_squareRoot_17 : decode cX9_squareRoot 17 = .ok (.iload_n 0, 1) := by decide +kernel
theorem dX9_squareRoot_18 : decode cX9_squareRoot 18 = .ok (.i2l, 1) := by decide +kernel
theorem dX9_squareRoot_19 : decode cX9_squareRoot 19 = .ok (.lcmp, 1) := by decide +kernel
theorem dX9_squareRoot_20 : decode cX9_squareRoot 20 = .ok (.ifCond .gt 13, 3) := by decide +kernel
theorem dX9_squareRoot_23 : decode cX9_squareRoot 23 = .ok (.lload_n 1, 1) := by decide +kernel
theorem dX9_squareRoot_24 : decode cX9_squareRoot 24 = .ok (.lconst 1, 1) := by decide +kernel
theorem dX9_squareRoot_25 : decode cX9_squareRoot 25 = .ok (.ladd, 1) := by decide +kernel
theorem dX9_squareRoot_26 : decode cX9_squareRoot 26 = .ok (.lstore_n 1, 1) := by decide +kernel
theorem dX9_squareRoot_27 : decode cX9_squareRoot 27 = .ok (.iinc 3 1, 3) := by decide +kernel
theorem dX9_squareRoot_30 : decode cX9_squareRoot 30 = .ok (.goto (-26), 3) := by decide +kernel
theorem dX9_squareRoot_33 : decode cX9_squareRoot 33 = .ok (.lload_n 1, 1) := by decide +kernel
theorem dX9_squareRoot_34 : decode cX9_squareRoot 34 = .ok (.lconst 0, 1) := by decide +kernel
theorem dX9_squareRoot_35 : decode cX9_squareRoot 35 = .ok (.lcmp, 1) := by decide +kernel
theorem dX9_squareRoot_36 : decode cX9_squareRoot 36 = .ok (.ifCond .ne 5, 3) := by decide +kernel
theorem dX9_squareRoot_39 : decode cX9_squareRoot 39 = .ok (.dconst 0, 1) := by decide +kernel
theorem dX9_squareRoot_40 : decode cX9_squareRoot 40 = .ok (.dreturn, 1) := by decide +kernel
theorem dX9_squareRoot_41 : decode cX9_squareRoot 41 = .ok (.iload_n 0, 1) := by decide +kernel
theorem dX9_squareRoot_42 : decode cX9_squareRoot 42 = .ok (.i2l, 1) := by decide +kernel
theorem dX9_squareRoot_43 : decode cX9_squareRoot 43 = .ok (.lload_n 1, 1) := by decide +kernel
theorem dX9_squareRoot_44 : decode cX9_squareRoot 44 = .ok (.lload_n 1, 1) := by decide +kernel
theorem dX9_squareRoot_45 : decode cX9_squareRoot 45 = .ok (.lmul, 1) := by decide +kernel
theorem dX9_squareRoot_46 : decode cX9_squareRoot 46 = .ok (.lsub, 1) := by decide +kernel
theorem dX9_squareRoot_47 : decode cX9_squareRoot 47 = .ok (.lstore_n 3, 1) := by decide +kernel
theorem dX9_squareRoot_48 : decode cX9_squareRoot 48 = .ok (.dconst 1, 1) := by decide +kernel
theorem dX9_squareRoot_49 : decode cX9_squareRoot 49 = .ok (.dstore 5, 2) := by decide +kernel
theorem dX9_squareRoot_51 : decode cX9_squareRoot 51 = .ok (.iconst 0, 1) := by decide +kernel
theorem dX9_squareRoot_52 : decode cX9_squareRoot 52 = .ok (.istore 7, 2) := by decide +kernel
theorem dX9_squareRoot_54 : decode cX9_squareRoot 54 = .ok (.iload 7, 2) := by decide +kernel
theorem dX9_squareRoot_56 : decode cX9_squareRoot 56 = .ok (.bipush 54, 2) := by decide +kernel
theorem dX9_squareRoot_58 : decode cX9_squareRoot 58 = .ok (.if_icmp .ge 62, 3) := by decide +kernel
theorem dX9_squareRoot_61 : decode cX9_squareRoot 61 = .ok (.lload_n 1, 1) := by decide +kernel
theorem dX9_squareRoot_62 : decode cX9_squareRoot 62 = .ok (.ldc2_w 407, 3) := by decide +kernel
theorem dX9_squareRoot_65 : decode cX9_squareRoot 65 = .ok (.lcmp, 1) := by decide +kernel
theorem dX9_squareRoot_66 : decode cX9_squareRoot 66 = .ok (.ifCond .ge 54, 3) := by decide +kernel
theorem dX9_squareRoot_69 : decode cX9_squareRoot 69 = .ok (.ldc2_w 409, 3) := by decide +kernel
theorem dX9_squareRoot_72 : decode cX9_squareRoot 72 = .ok (.lload_n 3, 1) := by decide +kernel
theorem dX9_squareRoot_73 : decode cX9_squareRoot 73 = .ok (.lmul, 1) := by decide +kernel
theorem dX9_squareRoot_74 : decode cX9_squareRoot 74 = .ok (.lstore_n 3, 1) := by decide +kernel
theorem dX9_squareRoot_75 : decode cX9_squareRoot 75 = .ok (.ldc2_w 409, 3) := by decide +kernel
theorem dX9_squareRoot_78 : decode cX9_squareRoot 78 = .ok (.lload_n 1, 1) := by decide +kernel
theorem dX9_squareRoot_79 : decode cX9_squareRoot 79 = .ok (.lmul, 1) := by decide +kernel
theorem dX9_squareRoot_80 : decode cX9_squareRoot 80 = .ok (.lconst 1, 1) := by decide +kernel
theorem dX9_squareRoot_81 : decode cX9_squareRoot 81 = .ok (.ladd, 1) := by decide +kernel
theorem dX9_squareRoot_82 : decode cX9_squareRoot 82 = .ok (.lstore 8, 2) := by decide +kernel
theorem dX9_squareRoot_84 : decode cX9_squareRoot 84 = .ok (.ldc2_w 411, 3) := by decide +kernel
theorem dX9_squareRoot_87 : decode cX9_squareRoot 87 = .ok (.lload_n 1, 1) := by decide +kernel
theorem dX9_squareRoot_88 : decode cX9_squareRoot 88 = .ok (.lmul, 1) := by decide +kernel
theorem dX9_squareRoot_89 : decode cX9_squareRoot 89 = .ok (.lstore_n 1, 1) := by decide +kernel
theorem dX9_squareRoot_90 : decode cX9_squareRoot 90 = .ok (.lload_n 3, 1) := by decide +kernel
theorem dX9_squareRoot_91 : decode cX9_squareRoot 91 = .ok (.lload 8, 2) := by decide +kernel
theorem dX9_squareRoot_93 : decode cX9_squareRoot 93 = .ok (.lcmp, 1) := by decide +kernel
theorem dX9_squareRoot_94 : decode cX9_squareRoot 94 = .ok (.ifCond .lt 12, 3) := by decide +kernel
theorem dX9_squareRoot_97 : decode cX9_squareRoot 97 = .ok (.lload_n 3, 1) := by decide +kernel
theorem dX9_squareRoot_98 : decode cX9_squareRoot 98 = .ok (.lload 8, 2) := by decide +kernel
theorem dX9_squareRoot_100 : decode cX9_squareRoot 100 = .ok (.lsub, 1) := by decide +kernel
theorem dX9_squareRoot_101 : decode cX9_squareRoot 101 = .ok (.lstore_n 3, 1) := by decide +kernel
theorem dX9_squareRoot_102 : decode cX9_squareRoot 102 = .ok (.lload_n 1, 1) := by decide +kernel
theorem dX9_squareRoot_103 : decode cX9_squareRoot 103 = .ok (.lconst 1, 1) := by decide +kernel
theorem dX9_squareRoot_104 : decode cX9_squareRoot 104 = .ok (.ladd, 1) := by decide +kernel
theorem dX9_squareRoot_105 : decode cX9_squareRoot 105 = .ok (.lstore_n 1, 1) := by decide +kernel
theorem dX9_squareRoot_106 : decode cX9_squareRoot 106 = .ok (.dload 5, 2) := by decide +kernel
theorem dX9_squareRoot_108 : decode cX9_squareRoot 108 = .ok (.ldc2_w 413, 3) := by decide +kernel
theorem dX9_squareRoot_111 : decode cX9_squareRoot 111 = .ok (.dmul, 1) := by decide +kernel
theorem dX9_squareRoot_112 : decode cX9_squareRoot 112 = .ok (.dstore 5, 2) := by decide +kernel
theorem dX9_squareRoot_114 : decode cX9_squareRoot 114 = .ok (.iinc 7 1, 3) := by decide +kernel
theorem dX9_squareRoot_117 : decode cX9_squareRoot 117 = .ok (.goto (-63), 3) := by decide +kernel
theorem dX9_squareRoot_120 : decode cX9_squareRoot 120 = .ok (.lload_n 1, 1) := by decide +kernel
theorem dX9_squareRoot_121 : decode cX9_squareRoot 121 = .ok (.lconst 1, 1) := by decide +kernel
theorem dX9_squareRoot_122 : decode cX9_squareRoot 122 = .ok (.ladd, 1) := by decide +kernel
theorem dX9_squareRoot_123 : decode cX9_squareRoot 123 = .ok (.ldc2_w 411, 3) := by decide +kernel
theorem dX9_squareRoot_126 : decode cX9_squareRoot 126 = .ok (.ldiv, 1) := by decide +kernel
theorem dX9_squareRoot_127 : decode cX9_squareRoot 127 = .ok (.l2d, 1) := by decide +kernel
theorem dX9_squareRoot_128 : decode cX9_squareRoot 128 = .ok (.dload 5, 2) := by decide +kernel
theorem dX9_squareRoot_130 : decode cX9_squareRoot 130 = .ok (.ldc2_w 413, 3) := by decide +kernel
theorem dX9_squareRoot_133 : decode cX9_squareRoot 133 = .ok (.ddiv, 1) := by decide +kernel
theorem dX9_squareRoot_134 : decode cX9_squareRoot 134 = .ok (.ddiv, 1) := by decide +kernel
theorem dX9_squareRoot_135 : decode cX9_squareRoot 135 = .ok (.dreturn, 1) := by decide +kernel
theorem dX10_init_0 : decode cX10_init 0 = .ok (.aload_n 0, 1) := by decide +kernel
theorem dX10_init_1 : decode cX10_init 1 = .ok (.invokespecial 1, 3) := by decide +kernel
theorem dX10_init_4 : decode cX10_init 4 = .ok (.aload_n 0, 1) := by decide +kernel
theorem dX10_init_5 : decode cX10_init 5 = .ok (.bipush 84, 2) := by decide +kernel
theorem dX10_init_7 : decode cX10_init 7 = .ok (.newarray .int, 2) := by decide +kernel
theorem dX10_init_9 : decode cX10_init 9 = .ok (.putfield 7, 3) := by decide +kernel
theorem dX10_init_12 : decode cX10_init 12 = .ok (.aload_n 0, 1) := by decide +kernel
theorem dX10_init_13 : decode cX10_init 13 = .ok (.iconst 5, 1) := by decide +kernel
theorem dX10_init_14 : decode cX10_init 14 = .ok (.putfield 13, 3) := by decide +kernel
theorem dX10_init_17 : decode cX10_init 17 = .ok (.aload_n 0, 1) := by decide +kernel
theorem dX10_init_18 : decode cX10_init 18 = .ok (.iconst 1, 1) := by decide +kernel
theorem dX10_init_19 : decode cX10_init 19 = .ok (.putfield 17, 3) := by decide +kernel
theorem dX10_init_22 : decode cX10_init 22 = .ok (.aload_n 0, 1) := by decide +kernel
theorem dX10_init_23 : decode cX10_init 23 = .ok (.sipush 688, 3) := by decide +kernel
theorem dX10_init_26 : decode cX10_init 26 = .ok (.newarray .int, 2) := by decide +kernel
theorem dX10_init_28 : decode cX10_init 28 = .ok (.putfield 20, 3) := by decide +kernel
theorem dX10_init_31 : decode cX10_init 31 = .ok (.aload_n 0, 1) := by decide +kernel
theorem dX10_init_32 : decode cX10_init 32 = .ok (.sipush 300, 3) := by decide +kernel
theorem dX10_init_35 : decode cX10_init 35 = .ok (.newarray .int, 2) := by decide +kernel
theorem dX10_init_37 : decode cX10_init 37 = .ok (.putfield 23, 3) := by decide +kernel
theorem dX10_init_40 : decode cX10_init 40 = .ok (.aload_n 0, 1) := by decide +kernel
theorem dX10_init_41 : decode cX10_init 41 = .ok (.bipush (-8), 2) := by decide +kernel
theorem dX10_init_43 : decode cX10_init 43 = .ok (.putfield 26, 3) := by decide +kernel
theorem dX10_init_46 : decode cX10_init 46 = .ok (.aload_n 0, 1) := by decide +kernel
theorem dX10_init_47 : decode cX10_init 47 = .ok (.bipush (-8), 2) := by decide +kernel
theorem dX10_init_49 : decode cX10_init 49 = .ok (.putfield 29, 3) := by decide +kernel
theorem dX10_init_52 : decode cX10_init 52 = .ok (.aload_n 0, 1) := by decide +kernel
theorem dX10_init_53 : decode cX10_init 53 = .ok (.bipush (-8), 2) := by decide +kernel
theorem dX10_init_55 : decode cX10_init 55 = .ok (.putfield 32, 3) := by decide +kernel
theorem dX10_init_58 : decode cX10_init 58 = .ok (.aload_n 0, 1) := by decide +kernel
theorem dX10_init_59 : decode cX10_init 59 = .ok (.bipush 60, 2) := by decide +kernel
theorem dX10_init_61 : decode cX10_init 61 = .ok (.newarray .int, 2) := by decide +kernel
theorem dX10_init_63 : decode cX10_init 63 = .ok (.putfield 35, 3) := by decide +kernel
theorem dX10_init_66 : decode cX10_init 66 = .ok (.aload_n 0, 1) := by decide +kernel
theorem dX10_init_67 : decode cX10_init 67 = .ok (.iconst 5, 1) := by decide +kernel
theorem dX10_init_68 : decode cX10_init 68 = .ok (.putfield 38, 3) := by decide +kernel
theorem dX10_init_71 : decode cX10_init 71 = .ok (.aload_n 0, 1) := by decide +kernel
theorem dX10_init_72 : decode cX10_init 72 = .ok (.iconst 1, 1) := by decide +kernel
theorem dX10_init_73 : decode cX10_init 73 = .ok (.putfield 41, 3) := by decide +kernel
theorem dX10_init_76 : decode cX10_init 76 = .ok (.aload_n 0, 1) := by decide +kernel
theorem dX10_init_77 : decode cX10_init 77 = .ok (.bipush 84, 2) := by decide +kernel
theorem dX10_init_79 : decode cX10_init 79 = .ok (.newarray .int, 2) := by decide +kernel
theorem dX10_init_81 : decode cX10_init 81 = .ok (.putfield 44, 3) := by decide +kernel
theorem dX10_init_84 : decode cX10_init 84 = .ok (.aload_n 0, 1) := by decide +kernel
theorem dX10_init_85 : decode cX10_init 85 = .ok (.sipush 160, 3) := by decide +kernel
theorem dX10_init_88 : decode cX10_init 88 = .ok (.newarray .int, 2) := by decide +kernel
theorem dX10_init_90 : decode cX10_init 90 = .ok (.putfield 47, 3) := by decide +kernel
theorem dX10_init_93 : decode cX10_init 93 = .ok (.aload_n 0, 1) := by decide +kernel
theorem dX10_init_94 : decode cX10_init 94 = .ok (.sipush 160, 3) := by decide +kernel
theorem dX10_init_97 : decode cX10_init 97 = .ok (.newarray .int, 2) := by decide +kernel
theorem dX10_init_99 : decode cX10_init 99 = .ok (.putfield 50, 3) := by decide +kernel
theorem dX10_init_102 : decode cX10_init 102 = .ok (.aload_n 0, 1) := by decide +kernel
theorem dX10_init_103 : decode cX10_init 103 = .ok (.sipush 160, 3) := by decide +kernel
theorem dX10_init_106 : decode cX10_init 106 = .ok (.newarray .int, 2) := by decide +kernel
theorem dX10_init_108 : decode cX10_init 108 = .ok (.putfield 53, 3) := by decide +kernel
theorem dX10_init_111 : decode cX10_init 111 = .ok (.aload_n 0, 1) := by decide +kernel
theorem dX10_init_112 : decode cX10_init 112 = .ok (.sipush 160, 3) := by decide +kernel
theorem dX10_init_115 : decode cX10_init 115 = .ok (.newarray .int, 2) := by decide +kernel
theorem dX10_init_117 : decode cX10_init 117 = .ok (.putfield 56, 3) := by decide +kernel
theorem dX10_init_120 : decode cX10_init 120 = .ok (.aload_n 0, 1) := by decide +kernel
theorem dX10_init_121 : decode cX10_init 121 = .ok (.sipush 160, 3) := by decide +kernel
theorem dX10_init_124 : decode cX10_init 124 = .ok (.newarray .int, 2) := by decide +kernel
theorem dX10_init_126 : decode cX10_init 126 = .ok (.putfield 59, 3) := by decide +kernel
theorem dX10_init_129 : decode cX10_init 129 = .ok (.aload_n 0, 1) := by decide +kernel
theorem dX10_init_130 : decode cX10_init 130 = .ok (.sipush 160, 3) := by decide +kernel
theorem dX10_init_133 : decode cX10_init 133 = .ok (.newarray .int, 2) := by decide +kernel
theorem dX10_init_135 : decode cX10_init 135 = .ok (.putfield 62, 3) := by decide +kernel
theorem dX10_init_138 : decode cX10_init 138 = .ok (.aload_n 0, 1) := by decide +kernel
theorem dX10_init_139 : decode cX10_init 139 = .ok (.sipush 160, 3) := by decide +kernel
theorem dX10_init_142 : decode cX10_init 142 = .ok (.newarray .int, 2) := by decide +kernel
theorem dX10_init_144 : decode cX10_init 144 = .ok (.putfield 65, 3) := by decide +kernel
theorem dX10_init_147 : decode cX10_init 147 = .ok (.aload_n 0, 1) := by decide +kernel
theorem dX10_init_148 : decode cX10_init 148 = .ok (.sipush 640, 3) := by decide +kernel
theorem dX10_init_151 : decode cX10_init 151 = .ok (.newarray .int, 2) := by decide +kernel
theorem dX10_init_153 : decode cX10_init 153 = .ok (.putfield 68, 3) := by decide +kernel
theorem dX10_init_156 : decode cX10_init 156 = .ok (.aload_n 0, 1) := by decide +kernel
theorem dX10_init_157 : decode cX10_init 157 = .ok (.sipush 160, 3) := by decide +kernel
theorem dX10_init_160 : decode cX10_init 160 = .ok (.newarray .int, 2) := by decide +kernel
theorem dX10_init_162 : decode cX10_init 162 = .ok (.putfield 71, 3) := by decide +kernel
theorem dX10_init_165 : decode cX10_init 165 = .ok (.aload_n 0, 1) := by decide +kernel
theorem dX10_init_166 : decode cX10_init 166 = .ok (.sipush 1800, 3) := by decide +kernel
theorem dX10_init_169 : decode cX10_init 169 = .ok (.newarray .int, 2) := by decide +kernel
theorem dX10_init_171 : decode cX10_init 171 = .ok (.putfield 74, 3) := by decide +kernel
theorem dX10_init_174 : decode cX10_init 174 = .ok (.aload_n 0, 1) := by decide +kernel
theorem dX10_init_175 : decode cX10_init 175 = .ok (.bipush 30, 2) := by decide +kernel
theorem dX10_init_177 : decode cX10_init 177 = .ok (.newarray .int, 2) := by decide +kernel
theorem dX10_init_179 : decode cX10_init 179 = .ok (.putfield 77, 3) := by decide +kernel
theorem dX10_init_182 : decode cX10_init 182 = .ok (.aload_n 0, 1) := by decide +kernel
theorem dX10_init_183 : decode cX10_init 183 = .ok (.bipush 30, 2) := by decide +kernel
theorem dX10_init_185 : decode cX10_init 185 = .ok (.newarray .int, 2) := by decide +kernel
theorem dX10_init_187 : decode cX10_init 187 = .ok (.putfield 80, 3) := by decide +kernel
theorem dX10_init_190 : decode cX10_init 190 = .ok (.aload_n 0, 1) := by decide +kernel
theorem dX10_init_191 : decode cX10_init 191 = .ok (.bipush 60, 2) := by decide +kernel
theorem dX10_init_193 : decode cX10_init 193 = .ok (.newarray .int, 2) := by decide +kernel
theorem dX10_init_195 : decode cX10_init 195 = .ok (.putfield 83, 3) := by decide +kernel
theorem dX10_init_198 : decode cX10_init 198 = .ok (.aload_n 0, 1) := by decide +kernel
theorem dX10_init_199 : decode cX10_init 199 = .ok (.sipush 420, 3) := by decide +kernel
theorem dX10_init_202 : decode cX10_init 202 = .ok (.newarray .int, 2) := by decide +kernel
theorem dX10_init_204 : decode cX10_init 204 = .ok (.putfield 86, 3) := by decide +kernel
theorem dX10_init_207 : decode cX10_init 207 = .ok (.aload_n 0, 1) := by decide +kernel
theorem dX10_init_208 : decode cX10_init 208 = .ok (.sipush 160, 3) := by decide +kernel
theorem dX10_init_211 : decode cX10_init 211 = .ok (.newarray .int, 2) := by decide +kernel
theorem dX10_init_213 : decode cX10_init 213 = .ok (.putfield 89, 3) := by decide +kernel
theorem dX10_init_216 : decode cX10_init 216 = .ok (.aload_n 0, 1) := by decide +kernel
theorem dX10_init_217 : decode cX10_init 217 = .ok (.sipush 160, 3) := by decide +kernel
theorem dX10_init_220 : decode cX10_init 220 = .ok (.newarray .int, 2) := by decide +kernel
theorem dX10_init_222 : decode cX10_init 222 = .ok (.putfield 92, 3) := by decide +kernel
theorem dX10_init_225 : decode cX10_init 225 = .ok (.aload_n 0, 1) := by decide +kernel
theorem dX10_init_226 : decode cX10_init 226 = .ok (.sipush 160, 3) := by decide +kernel
theorem dX10_init_229 : decode cX10_init 229 = .ok (.newarray .int, 2) := by decide +kernel
theorem dX10_init_231 : decode cX10_init 231 = .ok (.putfield 95, 3) := by decide +kernel
theorem dX10_init_234 : decode cX10_init 234 = .ok (.aload_n 0, 1) := by decide +kernel
theorem dX10_init_235 : decode cX10_init 235 = .ok (.sipush 160, 3) := by decide +kernel
theorem dX10_init_238 : decode cX10_init 238 = .ok (.newarray .int, 2) := by decide +kernel
theorem dX10_init_240 : decode cX10_init 240 = .ok (.putfield 98, 3) := by decide +kernel
theorem dX10_init_243 : decode cX10_init 243 = .ok (.aload_n 0, 1) := by decide +kernel
theorem dX10_init_244 : decode cX10_init 244 = .ok (.sipush 160, 3) := by decide +kernel
theorem dX10_init_247 : decode cX10_init 247 = .ok (.newarray .int, 2) := by decide +kernel
theorem dX10_init_249 : decode cX10_init 249 = .ok (.putfield 101, 3) := by decide +kernel
theorem dX10_init_252 : decode cX10_init 252 = .ok (.aload_n 0, 1) := by decide +kernel
theorem dX10_init_253 : decode cX10_init 253 = .ok (.sipush 400, 3) := by decide +kernel
theorem dX10_init_256 : decode cX10_init 256 = .ok (.newarray .int, 2) := by decide +kernel
theorem dX10_init_258 : decode cX10_init 258 = .ok (.putfield 104, 3) := by decide +kernel
theorem dX10_init_261 : decode cX10_init 261 = .ok (.aload_n 0, 1) := by decide +kernel
theorem dX10_init_262 : decode cX10_init 262 = .ok (.sipush 320, 3) := by decide +kernel
theorem dX10_init_265 : decode cX10_init 265 = .ok (.newarray .int, 2) := by decide +kernel
theorem dX10_init_267 : decode cX10_init 267 = .ok (.putfield 107, 3) := by decide +kernel
theorem dX10_init_270 : decode cX10_init 270 = .ok (.aload_n 0, 1) := by decide +kernel
theorem dX10_init_271 : decode cX10_init 271 = .ok (.sipush 160, 3) := by decide +kernel
theorem dX10_init_274 : decode cX10_init 274 = .ok (.newarray .int, 2) := by decide +kernel
theorem dX10_init_276 : decode cX10_init 276 = .ok (.putfield 110, 3) := by decide +kernel
theorem dX10_init_279 : decode cX10_init 279 = .ok (.aload_n 0, 1) := by decide +kernel
theorem dX10_init_280 : decode cX10_init 280 = .ok (.bipush 12, 2) := by decide +kernel
theorem dX10_init_282 : decode cX10_init 282 = .ok (.newarray .int, 2) := by decide +kernel
theorem dX10_init_284 : decode cX10_init 284 = .ok (.putfield 113, 3) := by decide +kernel
theorem dX10_init_287 : decode cX10_init 287 = .ok (.aload_n 0, 1) := by decide +kernel
theorem dX10_init_288 : decode cX10_init 288 = .ok (.sipush 243, 3) := by decide +kernel
theorem dX10_init_291 : decode cX10_init 291 = .ok (.newarray .int, 2) := by decide +kernel
theorem dX10_init_293 : decode cX10_init 293 = .ok (.putfield 116, 3) := by decide +kernel
theorem dX10_init_296 : decode cX10_init 296 = .ok (.aload_n 0, 1) := by decide +kernel
theorem dX10_init_297 : decode cX10_init 297 = .ok (.bipush 6, 2) := by decide +kernel
theorem dX10_init_299 : decode cX10_init 299 = .ok (.newarray .int, 2) := by decide +kernel
theorem dX10_init_301 : decode cX10_init 301 = .ok (.dup, 1) := by decide +kernel
theorem dX10_init_302 : decode cX10_init 302 = .ok (.iconst 0, 1) := by decide +kernel
theorem dX10_init_303 : decode cX10_init 303 = .ok (.iconst 1, 1) := by decide +kernel
theorem dX10_init_304 : decode cX10_init 304 = .ok (.iastore, 1) := by decide +kernel
theorem dX10_init_305 : decode cX10_init 305 = .ok (.dup, 1) := by decide +kernel
theorem dX10_init_306 : decode cX10_init 306 = .ok (.iconst 1, 1) := by decide +kernel
theorem dX10_init_307 : decode cX10_init 307 = .ok (.iconst 3, 1) := by decide +kernel
theorem dX10_init_308 : decode cX10_init 308 = .ok (.iastore, 1) := by decide +kernel
theorem dX10_init_309 : decode cX10_init 309 = .ok (.dup, 1) := by decide +kernel
theorem dX10_init_310 : decode cX10_init 310 = .ok (.iconst 2, 1) := by decide +kernel
theorem dX10_init_311 : decode cX10_init 311 = .ok (.bipush 9, 2) := by decide +kernel
theorem dX10_init_313 : decode cX10_init 313 = .ok (.iastore, 1) := by decide +kernel
theorem dX10_init_314 : decode cX10_init 314 = .ok (.dup, 1) := by decide +kernel
theorem dX10_init_315 : decode cX10_init 315 = .ok (.iconst 3, 1) := by decide +kernel
theorem dX10_init_316 : decode cX10_init 316 = .ok (.bipush 27, 2) := by decide +kernel
theorem dX10_init_318 : decode cX10_init 318 = .ok (.iastore, 1) := by decide +kernel
theorem dX10_init_319 : decode cX10_init 319 = .ok (.dup, 1) := by decide +kernel
theorem dX10_init_320 : decode cX10_init 320 = .ok (.iconst 4, 1) := by decide +kernel
theorem dX10_init_321 : decode cX10_init 321 = .ok (.bipush 81, 2) := by decide +kernel
theorem dX10_init_323 : decode cX10_init 323 = .ok (.iastore, 1) := by decide +kernel
theorem dX10_init_324 : decode cX10_init 324 = .ok (.dup, 1) := by decide +kernel
theorem dX10_init_325 : decode cX10_init 325 = .ok (.iconst 5, 1) := by decide +kernel
theorem dX10_init_326 : decode cX10_init 326 = .ok (.sipush 243, 3) := by decide +kernel
theorem dX10_init_329 : decode cX10_init 329 = .ok (.iastore, 1) := by decide +kernel
theorem dX10_init_330 : decode cX10_init 330 = .ok (.putfield 119, 3) := by decide +kernel
theorem dX10_init_333 : decode cX10_init 333 = .ok (.return_, 1) := by decide +kernel
theorem dX10_isWall_0 : decode cX10_isWall 0 = .ok (.iload_n 1, 1) := by decide +kernel
theorem dX10_isWall_1 : decode cX10_isWall 1 = .ok (.ifCond .lt 26, 3) := by decide +kernel
theorem dX10_isWall_4 : decode cX10_isWall 4 = .ok (.iload_n 1, 1) := by decide +kernel
theorem dX10_isWall_5 : decode cX10_isWall 5 = .ok (.bipush 12, 2) := by decide +kernel
theorem dX10_isWall_7 : decode cX10_isWall 7 = .ok (.if_icmp .ge 20, 3) := by decide +kernel
theorem dX10_isWall_10 : decode cX10_isWall 10 = .ok (.aload_n 0, 1) := by decide +kernel
theorem dX10_isWall_11 : decode cX10_isWall 11 = .ok (.getfield 7, 3) := by decide +kernel
theorem dX10_isWall_14 : decode cX10_isWall 14 = .ok (.bipush 7, 2) := by decide +kernel
theorem dX10_isWall_16 : decode cX10_isWall 16 = .ok (.iload_n 1, 1) := by decide +kernel
theorem dX10_isWall_17 : decode cX10_isWall 17 = .ok (.imul, 1) := by decide +kernel
theorem dX10_isWall_18 : decode cX10_isWall 18 = .ok (.iaload, 1) := by decide +kernel
theorem dX10_isWall_19 : decode cX10_isWall 19 = .ok (.iconst 1, 1) := by decide +kernel
theorem dX10_isWall_20 : decode cX10_isWall 20 = .ok (.if_icmp .ne 7, 3) := by decide +kernel
theorem dX10_isWall_23 : decode cX10_isWall 23 = .ok (.iconst 1, 1) := by decide +kernel
theorem dX10_isWall_24 : decode cX10_isWall 24 = .ok (.goto 4, 3) := by decide +kernel
theorem dX10_isWall_27 : decode cX10_isWall 27 = .ok (.iconst 0, 1) := by decide +kernel
theorem dX10_isWall_28 : decode cX10_isWall 28 = .ok (.ireturn, 1) := by decide +kernel
theorem dX10_at_0 : decode cX10_at 0 = .ok (.aload_n 0, 1) := by decide +kernel
theorem dX10_at_1 : decode cX10_at 1 = .ok (.getfield 7, 3) := by decide +kernel
theorem dX10_at_4 : decode cX10_at 4 = .ok (.bipush 7, 2) := by decide +kernel
theorem dX10_at_6 : decode cX10_at 6 = .ok (.iload_n 1, 1) := by decide +kernel
theorem dX10_at_7 : decode cX10_at 7 = .ok (.imul, 1) := by decide +kernel
theorem dX10_at_8 : decode cX10_at 8 = .ok (.iload_n 2, 1) := by decide +kernel
theorem dX10_at_9 : decode cX10_at 9 = .ok (.iadd, 1) := by decide +kernel
theorem dX10_at_10 : decode cX10_at 10 = .ok (.iaload, 1) := by decide +kernel
theorem dX10_at_11 : decode cX10_at 11 = .ok (.ireturn, 1) := by decide +kernel
theorem dX10_isCoordinate_0 : decode cX10_isCoordinate 0 = .ok (.iload_n 0, 1) := by decide +kernel
theorem dX10_isCoordinate_1 : decode cX10_isCoordinate 1 = .ok (.ifCond .lt 13, 3) := by decide +kernel
theorem dX10_isCoordinate_4 : decode cX10_isCoordinate 4 = .ok (.iload_n 0, 1) := by decide +kernel
theorem dX10_isCoordinate_5 : decode cX10_isCoordinate 5 = .ok (.bipush 63, 2) := by decide +kernel
theorem dX10_isCoordinate_7 : decode cX10_isCoordinate 7 = .ok (.if_icmp .gt 7, 3) := by decide +kernel
theorem dX10_isCoordinate_10 : decode cX10_isCoordinate 10 = .ok (.iconst 1, 1) := by decide +kernel
theorem dX10_isCoordinate_11 : decode cX10_isCoordinate 11 = .ok (.goto 4, 3) := by decide +kernel
theorem dX10_isCoordinate_14 : decode cX10_isCoordinate 14 = .ok (.iconst 0, 1) := by decide +kernel
theorem dX10_isCoordinate_15 : decode cX10_isCoordinate 15 = .ok (.ireturn, 1) := by decide +kernel
theorem dX10_keep_0 : decode cX10_keep 0 = .ok (.aload_n 0, 1) := by decide +kernel
theorem dX10_keep_1 : decode cX10_keep 1 = .ok (.getfield 122, 3) := by decide +kernel
theorem dX10_keep_4 : decode cX10_keep 4 = .ok (.bipush 8, 2) := by decide +kernel
theorem dX10_keep_6 : decode cX10_keep 6 = .ok (.if_icmp .ne 43, 3) := by decide +kernel
theorem dX10_keep_9 : decode cX10_keep 9 = .ok (.iconst 0, 1) := by decide +kernel
theorem dX10_keep_10 : decode cX10_keep 10 = .ok (.istore_n 1, 1) := by decide +kernel
theorem dX10_keep_11 : decode cX10_keep 11 = .ok (.iload_n 1, 1) := by decide +kernel
theorem dX10_keep_12 : decode cX10_keep 12 = .ok (.sipush 602, 3) := by decide +kernel
theorem dX10_keep_15 : decode cX10_keep 15 = .ok (.if_icmp .ge 24, 3) := by decide +kernel
theorem dX10_keep_18 : decode cX10_keep 18 = .ok (.aload_n 0, 1) := by decide +kernel
theorem dX10_keep_19 : decode cX10_keep 19 = .ok (.getfield 20, 3) := by decide +kernel
theorem dX10_keep_22 : decode cX10_keep 22 = .ok (.iload_n 1, 1) := by decide +kernel
theorem dX10_keep_23 : decode cX10_keep 23 = .ok (.aload_n 0, 1) := by decide +kernel
theorem dX10_keep_24 : decode cX10_keep 24 = .ok (.getfield 20, 3) := by decide +kernel
theorem dX10_keep_27 : decode cX10_keep 27 = .ok (.iload_n 1, 1) := by decide +kernel
theorem dX10_keep_28 : decode cX10_keep 28 = .ok (.bipush 86, 2) := by decide +kernel
theorem dX10_keep_30 : decode cX10_keep 30 = .ok (.iadd, 1) := by decide +kernel
theorem dX10_keep_31 : decode cX10_keep 31 = .ok (.iaload, 1) := by decide +kernel
theorem dX10_keep_32 : decode cX10_keep 32 = .ok (.iastore, 1) := by decide +kernel
theorem dX10_keep_33 : decode cX10_keep 33 = .ok (.iinc 1 1, 3) := by decide +kernel
theorem dX10_keep_36 : decode cX10_keep 36 = .ok (.goto (-25), 3) := by decide +kernel
theorem dX10_keep_39 : decode cX10_keep 39 = .ok (.aload_n 0, 1) := by decide +kernel
theorem dX10_keep_40 : decode cX10_keep 40 = .ok (.dup, 1) := by decide +kernel
theorem dX10_keep_41 : decode cX10_keep 41 = .ok (.getfield 122, 3) := by decide +kernel
theorem dX10_keep_44 : decode cX10_keep 44 = .ok (.iconst 1, 1) := by decide +kernel
theorem dX10_keep_45 : decode cX10_keep 45 = .ok (.isub, 1) := by decide +kernel
theorem dX10_keep_46 : decode cX10_keep 46 = .ok (.putfield 122, 3) := by decide +kernel
theorem dX10_keep_49 : decode cX10_keep 49 = .ok (.iconst 0, 1) := by decide +kernel
theorem dX10_keep_50 : decode cX10_keep 50 = .ok (.istore_n 1, 1) := by decide +kernel
theorem dX10_keep_51 : decode cX10_keep 51 = .ok (.iload_n 1, 1) := by decide +kernel
theorem dX10_keep_52 : decode cX10_keep 52 = .ok (.bipush 84, 2) := by decide +kernel
theorem dX10_keep_54 : decode cX10_keep 54 = .ok (.if_icmp .ge 29, 3) := by decide +kernel
theorem dX10_keep_57 : decode cX10_keep 57 = .ok (.aload_n 0, 1) := by decide +kernel
theorem dX10_keep_58 : decode cX10_keep 58 = .ok (.getfield 20, 3) := by decide +kernel
theorem dX10_keep_61 : decode cX10_keep 61 = .ok (.bipush 86, 2) := by decide +kernel
theorem dX10_keep_63 : decode cX10_keep 63 = .ok (.aload_n 0, 1) := by decide +kernel
theorem dX10_keep_64 : decode cX10_keep 64 = .ok (.getfield 122, 3) := by decide +kernel
theorem dX10_keep_67 : decode cX10_keep 67 = .ok (.imul, 1) := by decide +kernel
theorem dX10_keep_68 : decode cX10_keep 68 = .ok (.iload_n 1, 1) := by decide +kernel
theorem dX10_keep_69 : decode cX10_keep 69 = .ok (.iadd, 1) := by decide +kernel
theorem dX10_keep_70 : decode cX10_keep 70 = .ok (.aload_n 0, 1) := by decide +kernel
theorem dX10_keep_71 : decode cX10_keep 71 = .ok (.getfield 7, 3) := by decide +kernel
theorem dX10_keep_74 : decode cX10_keep 74 = .ok (.iload_n 1, 1) := by decide +kernel
theorem dX10_keep_75 : decode cX10_keep 75 = .ok (.iaload, 1) := by decide +kernel
theorem dX10_keep_76 : decode cX10_keep 76 = .ok (.iastore, 1) := by decide +kernel
theorem dX10_keep_77 : decode cX10_keep 77 = .ok (.iinc 1 1, 3) := by decide +kernel
theorem dX10_keep_80 : decode cX10_keep 80 = .ok (.goto (-29), 3) := by decide +kernel
theorem dX10_keep_83 : decode cX10_keep 83 = .ok (.aload_n 0, 1) := by decide +kernel
theorem dX10_keep_84 : decode cX10_keep 84 = .ok (.getfield 20, 3) := by decide +kernel
theorem dX10_keep_87 : decode cX10_keep 87 = .ok (.bipush 86, 2) := by decide +kernel
theorem dX10_keep_89 : decode cX10_keep 89 = .ok (.aload_n 0, 1) := by decide +kernel
theorem dX10_keep_90 : decode cX10_keep 90 = .ok (.getfield 122, 3) := by decide +kernel
theorem dX10_keep_93 : decode cX10_keep 93 = .ok (.imul, 1) := by decide +kernel
theorem dX10_keep_94 : decode cX10_keep 94 = .ok (.bipush 84, 2) := by decide +kernel
theorem dX10_keep_96 : decode cX10_keep 96 = .ok (.iadd, 1) := by decide +kernel
theorem dX10_keep_97 : decode cX10_keep 97 = .ok (.aload_n 0, 1) := by decide +kernel
theorem dX10_keep_98 : decode cX10_keep 98 = .ok (.getfield 13, 3) := by decide +kernel
theorem dX10_keep_101 : decode cX10_keep 101 = .ok (.iastore, 1) := by decide +kernel
theorem dX10_keep_102 : decode cX10_keep 102 = .ok (.aload_n 0, 1) := by decide +kernel
theorem dX10_keep_103 : decode cX10_keep 103 = .ok (.getfield 20, 3) := by decide +kernel
theorem dX10_keep_106 : decode cX10_keep 106 = .ok (.bipush 86, 2) := by decide +kernel
theorem dX10_keep_108 : decode cX10_keep 108 = .ok (.aload_n 0, 1) := by decide +kernel
theorem dX10_keep_109 : decode cX10_keep 109 = .ok (.getfield 122, 3) := by decide +kernel
theorem dX10_keep_112 : decode cX10_keep 112 = .ok (.imul, 1) := by decide +kernel
theorem dX10_keep_113 : decode cX10_keep 113 = .ok (.bipush 85, 2) := by decide +kernel
theorem dX10_keep_115 : decode cX10_keep 115 = .ok (.iadd, 1) := by decide +kernel
theorem dX10_keep_116 : decode cX10_keep 116 = .ok (.aload_n 0, 1) := by decide +kernel
theorem dX10_keep_117 : decode cX10_keep 117 = .ok (.getfield 17, 3) := by decide +kernel
theorem dX10_keep_120 : decode cX10_keep 120 = .ok (.iastore, 1) := by decide +kernel
theorem dX10_keep_121 : decode cX10_keep 121 = .ok (.aload_n 0, 1) := by decide +kernel
theorem dX10_keep_122 : decode cX10_keep 122 = .ok (.dup, 1) := by decide +kernel
theorem dX10_keep_123 : decode cX10_keep 123 = .ok (.getfield 122, 3) := by decide +kernel
theorem dX10_keep_126 : decode cX10_keep 126 = .ok (.iconst 1, 1) := by decide +kernel
theorem dX10_keep_127 : decode cX10_keep 127 = .ok (.iadd, 1) := by decide +kernel
theorem dX10_keep_128 : decode cX10_keep 128 = .ok (.putfield 122, 3) := by decide +kernel
theorem dX10_keep_131 : decode cX10_keep 131 = .ok (.return_, 1) := by decide +kernel
theorem dX10_lay_0 : decode cX10_lay 0 = .ok (.aload_n 0, 1) := by decide +kernel
theorem dX10_lay_1 : decode cX10_lay 1 = .ok (.getfield 7, 3) := by decide +kernel
theorem dX10_lay_4 : decode cX10_lay 4 = .ok (.bipush 7, 2) := by decide +kernel
theorem dX10_lay_6 : decode cX10_lay 6 = .ok (.iload_n 1, 1) := by decide +kernel
theorem dX10_lay_7 : decode cX10_lay 7 = .ok (.imul, 1) := by decide +kernel
theorem dX10_lay_8 : decode cX10_lay 8 = .ok (.iconst 1, 1) := by decide +kernel
theorem dX10_lay_9 : decode cX10_lay 9 = .ok (.iastore, 1) := by decide +kernel
theorem dX10_lay_10 : decode cX10_lay 10 = .ok (.aload_n 0, 1) := by decide +kernel
theorem dX10_lay_11 : decode cX10_lay 11 = .ok (.getfield 7, 3) := by decide +kernel
theorem dX10_lay_14 : decode cX10_lay 14 = .ok (.bipush 7, 2) := by decide +kernel
theorem dX10_lay_16 : decode cX10_lay 16 = .ok (.iload_n 1, 1) := by decide +kernel
theorem dX10_lay_17 : decode cX10_lay 17 = .ok (.imul, 1) := by decide +kernel
theorem dX10_lay_18 : decode cX10_lay 18 = .ok (.iconst 1, 1) := by decide +kernel
theorem dX10_lay_19 : decode cX10_lay 19 = .ok (.iadd, 1) := by decide +kernel
theorem dX10_lay_20 : decode cX10_lay 20 = .ok (.iload_n 2, 1) := by decide +kernel
theorem dX10_lay_21 : decode cX10_lay 21 = .ok (.iastore, 1) := by decide +kernel
theorem dX10_lay_22 : decode cX10_lay 22 = .ok (.aload_n 0, 1) := by decide +kernel
theorem dX10_lay_23 : decode cX10_lay 23 = .ok (.getfield 7, 3) := by decide +kernel
theorem dX10_lay_26 : decode cX10_lay 26 = .ok (.bipush 7, 2) := by decide +kernel
theorem dX10_lay_28 : decode cX10_lay 28 = .ok (.iload_n 1, 1) := by decide +kernel
theorem dX10_lay_29 : decode cX10_lay 29 = .ok (.imul, 1) := by decide +kernel
theorem dX10_lay_30 : decode cX10_lay 30 = .ok (.iconst 2, 1) := by decide +kernel
theorem dX10_lay_31 : decode cX10_lay 31 = .ok (.iadd, 1) := by decide +kernel
theorem dX10_lay_32 : decode cX10_lay 32 = .ok (.iload_n 3, 1) := by decide +kernel
theorem dX10_lay_33 : decode cX10_lay 33 = .ok (.iastore, 1) := by decide +kernel
theorem dX10_lay_34 : decode cX10_lay 34 = .ok (.aload_n 0, 1) := by decide +kernel
theorem dX10_lay_35 : decode cX10_lay 35 = .ok (.getfield 7, 3) := by decide +kernel
theorem dX10_lay_38 : decode cX10_lay 38 = .ok (.bipush 7, 2) := by decide +kernel
theorem dX10_lay_40 : decode cX10_lay 40 = .ok (.iload_n 1, 1) := by decide +kernel
theorem dX10_lay_41 : decode cX10_lay 41 = .ok (.imul, 1) := by decide +kernel
theorem dX10_lay_42 : decode cX10_lay 42 = .ok (.iconst 3, 1) := by decide +kernel
theorem dX10_lay_43 : decode cX10_lay 43 = .ok (.iadd, 1) := by decide +kernel
theorem dX10_lay_44 : decode cX10_lay 44 = .ok (.iload 4, 2) := by decide +kernel
theorem dX10_lay_46 : decode cX10_lay 46 = .ok (.iastore, 1) := by decide +kernel
theorem dX10_lay_47 : decode cX10_lay 47 = .ok (.aload_n 0, 1) := by decide +kernel
theorem dX10_lay_48 : decode cX10_lay 48 = .ok (.getfield 7, 3) := by decide +kernel
theorem dX10_lay_51 : decode cX10_lay 51 = .ok (.bipush 7, 2) := by decide +kernel
theorem dX10_lay_53 : decode cX10_lay 53 = .ok (.iload_n 1, 1) := by decide +kernel
theorem dX10_lay_54 : decode cX10_lay 54 = .ok (.imul, 1) := by decide +kernel
theorem dX10_lay_55 : decode cX10_lay 55 = .ok (.iconst 4, 1) := by decide +kernel
theorem dX10_lay_56 : decode cX10_lay 56 = .ok (.iadd, 1) := by decide +kernel
theorem dX10_lay_57 : decode cX10_lay 57 = .ok (.iload 5, 2) := by decide +kernel
theorem dX10_lay_59 : decode cX10_lay 59 = .ok (.iastore, 1) := by decide +kernel
theorem dX10_lay_60 : decode cX10_lay 60 = .ok (.aload_n 0, 1) := by decide +kernel
theorem dX10_lay_61 : decode cX10_lay 61 = .ok (.getfield 7, 3) := by decide +kernel
theorem dX10_lay_64 : decode cX10_lay 64 = .ok (.bipush 7, 2) := by decide +kernel
theorem dX10_lay_66 : decode cX10_lay 66 = .ok (.iload_n 1, 1) := by decide +kernel
theorem dX10_lay_67 : decode cX10_lay 67 = .ok (.imul, 1) := by decide +kernel
theorem dX10_lay_68 : decode cX10_lay 68 = .ok (.iconst 5, 1) := by decide +kernel
theorem dX10_lay_69 : decode cX10_lay 69 = .ok (.iadd, 1) := by decide +kernel
theorem dX10_lay_70 : decode cX10_lay 70 = .ok (.iload 6, 2) := by decide +kernel
theorem dX10_lay_72 : decode cX10_lay 72 = .ok (.iastore, 1) := by decide +kernel
theorem dX10_lay_73 : decode cX10_lay 73 = .ok (.aload_n 0, 1) := by decide +kernel
theorem dX10_lay_74 : decode cX10_lay 74 = .ok (.getfield 7, 3) := by decide +kernel
theorem dX10_lay_77 : decode cX10_lay 77 = .ok (.bipush 7, 2) := by decide +kernel
theorem dX10_lay_79 : decode cX10_lay 79 = .ok (.iload_n 1, 1) := by decide +kernel
theorem dX10_lay_80 : decode cX10_lay 80 = .ok (.imul, 1) := by decide +kernel
theorem dX10_lay_81 : decode cX10_lay 81 = .ok (.bipush 6, 2) := by decide +kernel
theorem dX10_lay_83 : decode cX10_lay 83 = .ok (.iadd, 1) := by decide +kernel
theorem dX10_lay_84 : decode cX10_lay 84 = .ok (.iload 7, 2) := by decide +kernel
theorem dX10_lay_86 : decode cX10_lay 86 = .ok (.iastore, 1) := by decide +kernel
theorem dX10_lay_87 : decode cX10_lay 87 = .ok (.return_, 1) := by decide +kernel
theorem dX10_addWall_0 : decode cX10_addWall 0 = .ok (.iload_n 1, 1) := by decide +kernel
theorem dX10_addWall_1 : decode cX10_addWall 1 = .ok (.invokestatic 125, 3) := by decide +kernel
theorem dX10_addWall_4 : decode cX10_addWall 4 = .ok (.ifCond .eq 47, 3) := by decide +kernel
theorem dX10_addWall_7 : decode cX10_addWall 7 = .ok (.iload_n 2, 1) := by decide +kernel
theorem dX10_addWall_8 : decode cX10_addWall 8 = .ok (.invokestatic 125, 3) := by decide +kernel
theorem dX10_addWall_11 : decode cX10_addWall 11 = .ok (.ifCond .eq 40, 3) := by decide +kernel
theorem dX10_addWall_14 : decode cX10_addWall 14 = .ok (.iload_n 3, 1) := by decide +kernel
theorem dX10_addWall_15 : decode cX10_addWall 15 = .ok (.invokestatic 125, 3) := by decide +kernel
theorem dX10_addWall_18 : decode cX10_addWall 18 = .ok (.ifCond .eq 33, 3) := by decide +kernel
theorem dX10_addWall_21 : decode cX10_addWall 21 = .ok (.iload 4, 2) := by decide +kernel
theorem dX10_addWall_23 : decode cX10_addWall 23 = .ok (.invokestatic 125, 3) := by decide +kernel
theorem dX10_addWall_26 : decode cX10_addWall 26 = .ok (.ifCond .eq 25, 3) := by decide +kernel
theorem dX10_addWall_29 : decode cX10_addWall 29 = .ok (.iload 5, 2) := by decide +kernel
theorem dX10_addWall_31 : decode cX10_addWall 31 = .ok (.ifCond .lt 20, 3) := by decide +kernel
theorem dX10_addWall_34 : decode cX10_addWall 34 = .ok (.iload 5, 2) := by decide +kernel
theorem dX10_addWall_36 : decode cX10_addWall 36 = .ok (.iconst 2, 1) := by decide +kernel
theorem dX10_addWall_37 : decode cX10_addWall 37 = .ok (.if_icmp .gt 14, 3) := by decide +kernel
theorem dX10_addWall_40 : decode cX10_addWall 40 = .ok (.iload 6, 2) := by decide +kernel
theorem dX10_addWall_42 : decode cX10_addWall 42 = .ok (.ifCond .lt 9, 3) := by decide +kernel
theorem dX10_addWall_45 : decode cX10_addWall 45 = .ok (.iload 6, 2) := by decide +kernel
theorem dX10_addWall_47 : decode cX10_addWall 47 = .ok (.iconst 1, 1) := by decide +kernel
theorem dX10_addWall_48 : decode cX10_addWall 48 = .ok (.if_icmp .le 6, 3) := by decide +kernel
theorem dX10_addWall_51 : decode cX10_addWall 51 = .ok (.bipush (-2), 2) := by decide +kernel
theorem dX10_addWall_53 : decode cX10_addWall 53 = .ok (.ireturn, 1) := by decide +kernel
theorem dX10_addWall_54 : decode cX10_addWall 54 = .ok (.iload_n 1, 1) := by decide +kernel
theorem dX10_addWall_55 : decode cX10_addWall 55 = .ok (.iload_n 3, 1) := by decide +kernel
theorem dX10_addWall_56 : decode cX10_addWall 56 = .ok (.if_icmp .ne 12, 3) := by decide +kernel
theorem dX10_addWall_59 : decode cX10_addWall 59 = .ok (.iload_n 2, 1) := by decide +kernel
theorem dX10_addWall_60 : decode cX10_addWall 60 = .ok (.iload 4, 2) := by decide +kernel
theorem dX10_addWall_62 : decode cX10_addWall 62 = .ok (.if_icmp .ne 6, 3) := by decide +kernel
theorem dX10_addWall_65 : decode cX10_addWall 65 = .ok (.bipush (-4), 2) := by decide +kernel
theorem dX10_addWall_67 : decode cX10_addWall 67 = .ok (.ireturn, 1) := by decide +kernel
theorem dX10_addWall_68 : decode cX10_addWall 68 = .ok (.iconst 0, 1) := by decide +kernel
theorem dX10_addWall_69 : decode cX10_addWall 69 = .ok (.istore 7, 2) := by decide +kernel
theorem dX10_addWall_71 : decode cX10_addWall 71 = .ok (.iload 7, 2) := by decide +kernel
theorem dX10_addWall_73 : decode cX10_addWall 73 = .ok (.bipush 12, 2) := by decide +kernel
theorem dX10_addWall_75 : decode cX10_addWall 75 = .ok (.if_icmp .ge 20, 3) := by decide +kernel
theorem dX10_addWall_78 : decode cX10_addWall 78 = .ok (.aload_n 0, 1) := by decide +kernel
theorem dX10_addWall_79 : decode cX10_addWall 79 = .ok (.iload 7, 2) := by decide +kernel
theorem dX10_addWall_81 : decode cX10_addWall 81 = .ok (.iconst 0, 1) := by decide +kernel
theorem dX10_addWall_82 : decode cX10_addWall 82 = .ok (.invokevirtual 129, 3) := by decide +kernel
theorem dX10_addWall_85 : decode cX10_addWall 85 = .ok (.iconst 1, 1) := by decide +kernel
theorem dX10_addWall_86 : decode cX10_addWall 86 = .ok (.if_icmp .ne 9, 3) := by decide +kernel
theorem dX10_addWall_89 : decode cX10_addWall 89 = .ok (.iinc 7 1, 3) := by decide +kernel
theorem dX10_addWall_92 : decode cX10_addWall 92 = .ok (.goto (-21), 3) := by decide +kernel
theorem dX10_addWall_95 : decode cX10_addWall 95 = .ok (.iload 7, 2) := by decide +kernel
theorem dX10_addWall_97 : decode cX10_addWall 97 = .ok (.bipush 12, 2) := by decide +kernel
theorem dX10_addWall_99 : decode cX10_addWall 99 = .ok (.if_icmp .ne 6, 3) := by decide +kernel
theorem dX10_addWall_102 : decode cX10_addWall 102 = .ok (.bipush (-3), 2) := by decide +kernel
theorem dX10_addWall_104 : decode cX10_addWall 104 = .ok (.ireturn, 1) := by decide +kernel
theorem dX10_addWall_105 : decode cX10_addWall 105 = .ok (.aload_n 0, 1) := by decide +kernel
theorem dX10_addWall_106 : decode cX10_addWall 106 = .ok (.invokevirtual 133, 3) := by decide +kernel
theorem dX10_addWall_109 : decode cX10_addWall 109 = .ok (.aload_n 0, 1) := by decide +kernel
theorem dX10_addWall_110 : decode cX10_addWall 110 = .ok (.iload 7, 2) := by decide +kernel
theorem dX10_addWall_112 : decode cX10_addWall 112 = .ok (.iload_n 1, 1) := by decide +kernel
theorem dX10_addWall_113 : decode cX10_addWall 113 = .ok (.iload_n 2, 1) := by decide +kernel
theorem dX10_addWall_114 : decode cX10_addWall 114 = .ok (.iload_n 3, 1) := by decide +kernel
theorem dX10_addWall_115 : decode cX10_addWall 115 = .ok (.iload 4, 2) := by decide +kernel
theorem dX10_addWall_117 : decode cX10_addWall 117 = .ok (.iload 5, 2) := by decide +kernel
theorem dX10_addWall_119 : decode cX10_addWall 119 = .ok (.iload 6, 2) := by decide +kernel
theorem dX10_addWall_121 : decode cX10_addWall 121 = .ok (.invokevirtual 136, 3) := by decide +kernel
theorem dX10_addWall_124 : decode cX10_addWall 124 = .ok (.iload 7, 2) := by decide +kernel
theorem dX10_addWall_126 : decode cX10_addWall 126 = .ok (.ireturn, 1) := by decide +kernel
theorem dX10_removeWall_0 : decode cX10_removeWall 0 = .ok (.aload_n 0, 1) := by decide +kernel
theorem dX10_removeWall_1 : decode cX10_removeWall 1 = .ok (.iload_n 1, 1) := by decide +kernel
theorem dX10_removeWall_2 : decode cX10_removeWall 2 = .ok (.invokevirtual 140, 3) := by decide +kernel
theorem dX10_removeWall_5 : decode cX10_removeWall 5 = .ok (.ifCond .ne 5, 3) := by decide +kernel
theorem dX10_removeWall_8 : decode cX10_removeWall 8 = .ok (.iconst (-1), 1) := by decide +kernel
theorem dX10_removeWall_9 : decode cX10_removeWall 9 = .ok (.ireturn, 1) := by decide +kernel
theorem dX10_removeWall_10 : decode cX10_removeWall 10 = .ok (.aload_n 0, 1) := by decide +kernel
theorem dX10_removeWall_11 : decode cX10_removeWall 11 = .ok (.invokevirtual 133, 3) := by decide +kernel
theorem dX10_removeWall_14 : decode cX10_removeWall 14 = .ok (.aload_n 0, 1) := by decide +kernel
theorem dX10_removeWall_15 : decode cX10_removeWall 15 = .ok (.getfield 7, 3) := by decide +kernel
theorem dX10_removeWall_18 : decode cX10_removeWall 18 = .ok (.bipush 7, 2) := by decide +kernel
theorem dX10_removeWall_20 : decode cX10_removeWall 20 = .ok (.iload_n 1, 1) := by decide +kernel
theorem dX10_removeWall_21 : decode cX10_removeWall 21 = .ok (.imul, 1) := by decide +kernel
theorem dX10_removeWall_22 : decode cX10_removeWall 22 = .ok (.iconst 0, 1) := by decide +kernel
theorem dX10_removeWall_23 : decode cX10_removeWall 23 = .ok (.iastore, 1) := by decide +kernel
theorem dX10_removeWall_24 : decode cX10_removeWall 24 = .ok (.aload_n 0, 1) := by decide +kernel
theorem dX10_removeWall_25 : decode cX10_removeWall 25 = .ok (.invokevirtual 143, 3) := by decide +kernel
theorem dX10_removeWall_28 : decode cX10_removeWall 28 = .ok (.ireturn, 1) := by decide +kernel
theorem dX10_moveWall_0 : decode cX10_moveWall 0 = .ok (.aload_n 0, 1) := by decide +kernel
theorem dX10_moveWall_1 : decode cX10_moveWall 1 = .ok (.iload_n 1, 1) := by decide +kernel
theorem dX10_moveWall_2 : decode cX10_moveWall 2 = .ok (.invokevirtual 140, 3) := by decide +kernel
theorem dX10_moveWall_5 : decode cX10_moveWall 5 = .ok (.ifCond .ne 5, 3) := by decide +kernel
theorem dX10_moveWall_8 : decode cX10_moveWall 8 = .ok (.iconst (-1), 1) := by decide +kernel
theorem dX10_moveWall_9 : decode cX10_moveWall 9 = .ok (.ireturn, 1) := by decide +kernel
theorem dX10_moveWall_10 : decode cX10_moveWall 10 = .ok (.iload_n 2, 1) := by decide +kernel
theorem dX10_moveWall_11 : decode cX10_moveWall 11 = .ok (.bipush (-63), 2) := by decide +kernel
theorem dX10_moveWall_13 : decode cX10_moveWall 13 = .ok (.if_icmp .lt 21, 3) := by decide +kernel
theorem dX10_moveWall_16 : decode cX10_moveWall 16 = .ok (.iload_n 2, 1) := by decide +kernel
theorem dX10_moveWall_17 : decode cX10_moveWall 17 = .ok (.bipush 63, 2) := by decide +kernel
theorem dX10_moveWall_19 : decode cX10_moveWall 19 = .ok (.if_icmp .gt 15, 3) := by decide +kernel
theorem dX10_moveWall_22 : decode cX10_moveWall 22 = .ok (.iload_n 3, 1) := by decide +kernel
theorem dX10_moveWall_23 : decode cX10_moveWall 23 = .ok (.bipush (-63), 2) := by decide +kernel
theorem dX10_moveWall_25 : decode cX10_moveWall 25 = .ok (.if_icmp .lt 9, 3) := by decide +kernel
theorem dX10_moveWall_28 : decode cX10_moveWall 28 = .ok (.iload_n 3, 1) := by decide +kernel
theorem dX10_moveWall_29 : decode cX10_moveWall 29 = .ok (.bipush 63, 2) := by decide +kernel
theorem dX10_moveWall_31 : decode cX10_moveWall 31 = .ok (.if_icmp .le 6, 3) := by decide +kernel
theorem dX10_moveWall_34 : decode cX10_moveWall 34 = .ok (.bipush (-2), 2) := by decide +kernel
theorem dX10_moveWall_36 : decode cX10_moveWall 36 = .ok (.ireturn, 1) := by decide +kernel
theorem dX10_moveWall_37 : decode cX10_moveWall 37 = .ok (.aload_n 0, 1) := by decide +kernel
theorem dX10_moveWall_38 : decode cX10_moveWall 38 = .ok (.iload_n 1, 1) := by decide +kernel
theorem dX10_moveWall_39 : decode cX10_moveWall 39 = .ok (.iconst 1, 1) := by decide +kernel
theorem dX10_moveWall_40 : decode cX10_moveWall 40 = .ok (.invokevirtual 129, 3) := by decide +kernel
theorem dX10_moveWall_43 : decode cX10_moveWall 43 = .ok (.istore 4, 2) := by decide +kernel
theorem dX10_moveWall_45 : decode cX10_moveWall 45 = .ok (.aload_n 0, 1) := by decide +kernel
theorem dX10_moveWall_46 : decode cX10_moveWall 46 = .ok (.iload_n 1, 1) := by decide +kernel
theorem dX10_moveWall_47 : decode cX10_moveWall 47 = .ok (.iconst 2, 1) := by decide +kernel
theorem dX10_moveWall_48 : decode cX10_moveWall 48 = .ok (.invokevirtual 129, 3) := by decide +kernel
theorem dX10_moveWall_51 : decode cX10_moveWall 51 = .ok (.istore 5, 2) := by decide +kernel
theorem dX10_moveWall_53 : decode cX10_moveWall 53 = .ok (.aload_n 0, 1) := by decide +kernel
theorem dX10_moveWall_54 : decode cX10_moveWall 54 = .ok (.iload_n 1, 1) := by decide +kernel
theorem dX10_moveWall_55 : decode cX10_moveWall 55 = .ok (.iconst 3, 1) := by decide +kernel
theorem dX10_moveWall_56 : decode cX10_moveWall 56 = .ok (.invokevirtual 129, 3) := by decide +kernel
theorem dX10_moveWall_59 : decode cX10_moveWall 59 = .ok (.istore 6, 2) := by decide +kernel
theorem dX10_moveWall_61 : decode cX10_moveWall 61 = .ok (.aload_n 0, 1) := by decide +kernel
theorem dX10_moveWall_62 : decode cX10_moveWall 62 = .ok (.iload_n 1, 1) := by decide +kernel
theorem dX10_moveWall_63 : decode cX10_moveWall 63 = .ok (.iconst 4, 1) := by decide +kernel
theorem dX10_moveWall_64 : decode cX10_moveWall 64 = .ok (.invokevirtual 129, 3) := by decide +kernel
theorem dX10_moveWall_67 : decode cX10_moveWall 67 = .ok (.istore 7, 2) := by decide +kernel
theorem dX10_moveWall_69 : decode cX10_moveWall 69 = .ok (.iload 4, 2) := by decide +kernel
theorem dX10_moveWall_71 : decode cX10_moveWall 71 = .ok (.iload_n 2, 1) := by decide +kernel
theorem dX10_moveWall_72 : decode cX10_moveWall 72 = .ok (.iadd, 1) := by decide +kernel
theorem dX10_moveWall_73 : decode cX10_moveWall 73 = .ok (.invokestatic 125, 3) := by decide +kernel
theorem dX10_moveWall_76 : decode cX10_moveWall 76 = .ok (.ifCond .eq 33, 3) := by decide +kernel
theorem dX10_moveWall_79 : decode cX10_moveWall 79 = .ok (.iload 6, 2) := by decide +kernel
theorem dX10_moveWall_81 : decode cX10_moveWall 81 = .ok (.iload_n 2, 1) := by decide +kernel
theorem dX10_moveWall_82 : decode cX10_moveWall 82 = .ok (.iadd, 1) := by decide +kernel
theorem dX10_moveWall_83 : decode cX10_moveWall 83 = .ok (.invokestatic 125, 3) := by decide +kernel
theorem dX10_moveWall_86 : decode cX10_moveWall 86 = .ok (.ifCond .eq 23, 3) := by decide +kernel
theorem dX10_moveWall_89 : decode cX10_moveWall 89 = .ok (.iload 5, 2) := by decide +kernel
theorem dX10_moveWall_91 : decode cX10_moveWall 91 = .ok (.iload_n 3, 1) := by decide +kernel
theorem dX10_moveWall_92 : decode cX10_moveWall 92 = .ok (.iadd, 1) := by decide +kernel
theorem dX10_moveWall_93 : decode cX10_moveWall 93 = .ok (.invokestatic 125, 3) := by decide +kernel
theorem dX10_moveWall_96 : decode cX10_moveWall 96 = .ok (.ifCond .eq 13, 3) := by decide +kernel
theorem dX10_moveWall_99 : decode cX10_moveWall 99 = .ok (.iload 7, 2) := by decide +kernel
theorem dX10_moveWall_101 : decode cX10_moveWall 101 = .ok (.iload_n 3, 1) := by decide +kernel
theorem dX10_moveWall_102 : decode cX10_moveWall 102 = .ok (.iadd, 1) := by decide +kernel
theorem dX10_moveWall_103 : decode cX10_moveWall 103 = .ok (.invokestatic 125, 3) := by decide +kernel
theorem dX10_moveWall_106 : decode cX10_moveWall 106 = .ok (.ifCond .ne 6, 3) := by decide +kernel
theorem dX10_moveWall_109 : decode cX10_moveWall 109 = .ok (.bipush (-2), 2) := by decide +kernel
theorem dX10_moveWall_111 : decode cX10_moveWall 111 = .ok (.ireturn, 1) := by decide +kernel
theorem dX10_moveWall_112 : decode cX10_moveWall 112 = .ok (.aload_n 0, 1) := by decide +kernel
theorem dX10_moveWall_113 : decode cX10_moveWall 113 = .ok (.invokevirtual 133, 3) := by decide +kernel
theorem dX10_moveWall_116 : decode cX10_moveWall 116 = .ok (.aload_n 0, 1) := by decide +kernel
theorem dX10_moveWall_117 : decode cX10_moveWall 117 = .ok (.iload_n 1, 1) := by decide +kernel
theorem dX10_moveWall_118 : decode cX10_moveWall 118 = .ok (.iload 4, 2) := by decide +kernel
theorem dX10_moveWall_120 : decode cX10_moveWall 120 = .ok (.iload_n 2, 1) := by decide +kernel
theorem dX10_moveWall_121 : decode cX10_moveWall 121 = .ok (.iadd, 1) := by decide +kernel
theorem dX10_moveWall_122 : decode cX10_moveWall 122 = .ok (.iload 5, 2) := by decide +kernel
theorem dX10_moveWall_124 : decode cX10_moveWall 124 = .ok (.iload_n 3, 1) := by decide +kernel
theorem dX10_moveWall_125 : decode cX10_moveWall 125 = .ok (.iadd, 1) := by decide +kernel
theorem dX10_moveWall_126 : decode cX10_moveWall 126 = .ok (.iload 6, 2) := by decide +kernel
theorem dX10_moveWall_128 : decode cX10_moveWall 128 = .ok (.iload_n 2, 1) := by decide +kernel
theorem dX10_moveWall_129 : decode cX10_moveWall 129 = .ok (.iadd, 1) := by decide +kernel
theorem dX10_moveWall_130 : decode cX10_moveWall 130 = .ok (.iload 7, 2) := by decide +kernel
theorem dX10_moveWall_132 : decode cX10_moveWall 132 = .ok (.iload_n 3, 1) := by decide +kernel
theorem dX10_moveWall_133 : decode cX10_moveWall 133 = .ok (.iadd, 1) := by decide +kernel
theorem dX10_moveWall_134 : decode cX10_moveWall 134 = .ok (.aload_n 0, 1) := by decide +kernel
theorem dX10_moveWall_135 : decode cX10_moveWall 135 = .ok (.iload_n 1, 1) := by decide +kernel
theorem dX10_moveWall_136 : decode cX10_moveWall 136 = .ok (.iconst 5, 1) := by decide +kernel
theorem dX10_moveWall_137 : decode cX10_moveWall 137 = .ok (.invokevirtual 129, 3) := by decide +kernel
theorem dX10_moveWall_140 : decode cX10_moveWall 140 = .ok (.aload_n 0, 1) := by decide +kernel
theorem dX10_moveWall_141 : decode cX10_moveWall 141 = .ok (.iload_n 1, 1) := by decide +kernel
theorem dX10_moveWall_142 : decode cX10_moveWall 142 = .ok (.bipush 6, 2) := by decide +kernel
theorem dX10_moveWall_144 : decode cX10_moveWall 144 = .ok (.invokevirtual 129, 3) := by decide +kernel
theorem dX10_moveWall_147 : decode cX10_moveWall 147 = .ok (.invokevirtual 136, 3) := by decide +kernel
theorem dX10_moveWall_150 : decode cX10_moveWall 150 = .ok (.bipush 64, 2) := by decide +kernel
theorem dX10_moveWall_152 : decode cX10_moveWall 152 = .ok (.iload 4, 2) := by decide +kernel
theorem dX10_moveWall_154 : decode cX10_moveWall 154 = .ok (.imul, 1) := by decide +kernel
theorem dX10_moveWall_155 : decode cX10_moveWall 155 = .ok (.iload 5, 2) := by decide +kernel
theorem dX10_moveWall_157 : decode cX10_moveWall 157 = .ok (.iadd, 1) := by decide +kernel
theorem dX10_moveWall_158 : decode cX10_moveWall 158 = .ok (.ireturn, 1) := by decide +kernel
theorem dX10_turnWall_0 : decode cX10_turnWall 0 = .ok (.aload_n 0, 1) := by decide +kernel
theorem dX10_turnWall_1 : decode cX10_turnWall 1 = .ok (.iload_n 1, 1) := by decide +kernel
theorem dX10_turnWall_2 : decode cX10_turnWall 2 = .ok (.invokevirtual 140, 3) := by decide +kernel
theorem dX10_turnWall_5 : decode cX10_turnWall 5 = .ok (.ifCond .ne 5, 3) := by decide +kernel
theorem dX10_turnWall_8 : decode cX10_turnWall 8 = .ok (.iconst (-1), 1) := by decide +kernel
theorem dX10_turnWall_9 : decode cX10_turnWall 9 = .ok (.ireturn, 1) := by decide +kernel
theorem dX10_turnWall_10 : decode cX10_turnWall 10 = .ok (.aload_n 0, 1) := by decide +kernel
theorem dX10_turnWall_11 : decode cX10_turnWall 11 = .ok (.invokevirtual 133, 3) := by decide +kernel
theorem dX10_turnWall_14 : decode cX10_turnWall 14 = .ok (.aload_n 0, 1) := by decide +kernel
theorem dX10_turnWall_15 : decode cX10_turnWall 15 = .ok (.iload_n 1, 1) := by decide +kernel
theorem dX10_turnWall_16 : decode cX10_turnWall 16 = .ok (.aload_n 0, 1) := by decide +kernel
theorem dX10_turnWall_17 : decode cX10_turnWall 17 = .ok (.iload_n 1, 1) := by decide +kernel
theorem dX10_turnWall_18 : decode cX10_turnWall 18 = .ok (.iconst 3, 1) := by decide +kernel
theorem dX10_turnWall_19 : decode cX10_turnWall 19 = .ok (.invokevirtual 129, 3) := by decide +kernel
theorem dX10_turnWall_22 : decode cX10_turnWall 22 = .ok (.aload_n 0, 1) := by decide +kernel
theorem dX10_turnWall_23 : decode cX10_turnWall 23 = .ok (.iload_n 1, 1) := by decide +kernel
theorem dX10_turnWall_24 : decode cX10_turnWall 24 = .ok (.iconst 4, 1) := by decide +kernel
theorem dX10_turnWall_25 : decode cX10_turnWall 25 = .ok (.invokevirtual 129, 3) := by decide +kernel
theorem dX10_turnWall_28 : decode cX10_turnWall 28 = .ok (.aload_n 0, 1) := by decide +kernel
theorem dX10_turnWall_29 : decode cX10_turnWall 29 = .ok (.iload_n 1, 1) := by decide +kernel
theorem dX10_turnWall_30 : decode cX10_turnWall 30 = .ok (.iconst 1, 1) := by decide +kernel
theorem dX10_turnWall_31 : decode cX10_turnWall 31 = .ok (.invokevirtual 129, 3) := by decide +kernel
theorem dX10_turnWall_34 : decode cX10_turnWall 34 = .ok (.aload_n 0, 1) := by decide +kernel
theorem dX10_turnWall_35 : decode cX10_turnWall 35 = .ok (.iload_n 1, 1) := by decide +kernel
theorem dX10_turnWall_36 : decode cX10_turnWall 36 = .ok (.iconst 2, 1) := by decide +kernel
theorem dX10_turnWall_37 : decode cX10_turnWall 37 = .ok (.invokevirtual 129, 3) := by decide +kernel
theorem dX10_turnWall_40 : decode cX10_turnWall 40 = .ok (.aload_n 0, 1) := by decide +kernel
theorem dX10_turnWall_41 : decode cX10_turnWall 41 = .ok (.iload_n 1, 1) := by decide +kernel
theorem dX10_turnWall_42 : decode cX10_turnWall 42 = .ok (.iconst 5, 1) := by decide +kernel
theorem dX10_turnWall_43 : decode cX10_turnWall 43 = .ok (.invokevirtual 129, 3) := by decide +kernel
theorem dX10_turnWall_46 : decode cX10_turnWall 46 = .ok (.aload_n 0, 1) := by decide +kernel
theorem dX10_turnWall_47 : decode cX10_turnWall 47 = .ok (.iload_n 1, 1) := by decide +kernel
theorem dX10_turnWall_48 : decode cX10_turnWall 48 = .ok (.bipush 6, 2) := by decide +kernel
theorem dX10_turnWall_50 : decode cX10_turnWall 50 = .ok (.invokevirtual 129, 3) := by decide +kernel
theorem dX10_turnWall_53 : decode cX10_turnWall 53 = .ok (.invokevirtual 136, 3) := by decide +kernel
theorem dX10_turnWall_56 : decode cX10_turnWall 56 = .ok (.aload_n 0, 1) := by decide +kernel
theorem dX10_turnWall_57 : decode cX10_turnWall 57 = .ok (.iload_n 1, 1) := by decide +kernel
theorem dX10_turnWall_58 : decode cX10_turnWall 58 = .ok (.iconst 5, 1) := by decide +kernel
theorem dX10_turnWall_59 : decode cX10_turnWall 59 = .ok (.invokevirtual 129, 3) := by decide +kernel
theorem dX10_turnWall_62 : decode cX10_turnWall 62 = .ok (.ireturn, 1) := by decide +kernel
theorem dX10_setKind_0 : decode cX10_setKind 0 = .ok (.aload_n 0, 1) := by decide +kernel
theorem dX10_setKind_1 : decode cX10_setKind 1 = .ok (.iload_n 1, 1) := by decide +kernel
theorem dX10_setKind_2 : decode cX10_setKind 2 = .ok (.invokevirtual 140, 3) := by decide +kernel
theorem dX10_setKind_5 : decode cX10_setKind 5 = .ok (.ifCond .ne 5, 3) := by decide +kernel
theorem dX10_setKind_8 : decode cX10_setKind 8 = .ok (.iconst (-1), 1) := by decide +kernel
theorem dX10_setKind_9 : decode cX10_setKind 9 = .ok (.ireturn, 1) := by decide +kernel
theorem dX10_setKind_10 : decode cX10_setKind 10 = .ok (.iload_n 2, 1) := by decide +kernel
theorem dX10_setKind_11 : decode cX10_setKind 11 = .ok (.ifCond .lt 8, 3) := by decide +kernel
theorem dX10_setKind_14 : decode cX10_setKind 14 = .ok (.iload_n 2, 1) := by decide +kernel
theorem dX10_setKind_15 : decode cX10_setKind 15 = .ok (.iconst 2, 1) := by decide +kernel
theorem dX10_setKind_16 : decode cX10_setKind 16 = .ok (.if_icmp .le 6, 3) := by decide +kernel
theorem dX10_setKind_19 : decode cX10_setKind 19 = .ok (.bipush (-2), 2) := by decide +kernel
theorem dX10_setKind_21 : decode cX10_setKind 21 = .ok (.ireturn, 1) := by decide +kernel
theorem dX10_setKind_22 : decode cX10_setKind 22 = .ok (.aload_n 0, 1) := by decide +kernel
theorem dX10_setKind_23 : decode cX10_setKind 23 = .ok (.iload_n 1, 1) := by decide +kernel
theorem dX10_setKind_24 : decode cX10_setKind 24 = .ok (.iconst 5, 1) := by decide +kernel
theorem dX10_setKind_25 : decode cX10_setKind 25 = .ok (.invokevirtual 129, 3) := by decide +kernel
theorem dX10_setKind_28 : decode cX10_setKind 28 = .ok (.istore_n 3, 1) := by decide +kernel
theorem dX10_setKind_29 : decode cX10_setKind 29 = .ok (.aload_n 0, 1) := by decide +kernel
theorem dX10_setKind_30 : decode cX10_setKind 30 = .ok (.invokevirtual 133, 3) := by decide +kernel
theorem dX10_setKind_33 : decode cX10_setKind 33 = .ok (.aload_n 0, 1) := by decide +kernel
theorem dX10_setKind_34 : decode cX10_setKind 34 = .ok (.getfield 7, 3) := by decide +kernel
theorem dX10_setKind_37 : decode cX10_setKind 37 = .ok (.bipush 7, 2) := by decide +kernel
theorem dX10_setKind_39 : decode cX10_setKind 39 = .ok (.iload_n 1, 1) := by decide +kernel
theorem dX10_setKind_40 : decode cX10_setKind 40 = .ok (.imul, 1) := by decide +kernel
theorem dX10_setKind_41 : decode cX10_setKind 41 = .ok (.iconst 5, 1) := by decide +kernel
theorem dX10_setKind_42 : decode cX10_setKind 42 = .ok (.iadd, 1) := by decide +kernel
theorem dX10_setKind_43 : decode cX10_setKind 43 = .ok (.iload_n 2, 1) := by decide +kernel
theorem dX10_setKind_44 : decode cX10_setKind 44 = .ok (.iastore, 1) := by decide +kernel
theorem dX10_setKind_45 : decode cX10_setKind 45 = .ok (.iload_n 3, 1) := by decide +kernel
theorem dX10_setKind_46 : decode cX10_setKind 46 = .ok (.ireturn, 1) := by decide +kernel
theorem dX10_setWeights_0 : decode cX10_setWeights 0 = .ok (.iload_n 1, 1) := by decide +kernel
theorem dX10_setWeights_1 : decode cX10_setWeights 1 = .ok (.ifCond .lt 19, 3) := by decide +kernel
theorem dX10_setWeights_4 : decode cX10_setWeights 4 = .ok (.iload_n 1, 1) := by decide +kernel
theorem dX10_setWeights_5 : decode cX10_setWeights 5 = .ok (.bipush 9, 2) := by decide +kernel
theorem dX10_setWeights_7 : decode cX10_setWeights 7 = .ok (.if_icmp .gt 13, 3) := by decide +kernel
theorem dX10_setWeights_10 : decode cX10_setWeights 10 = .ok (.iload_n 2, 1) := by decide +kernel
theorem dX10_setWeights_11 : decode cX10_setWeights 11 = .ok (.ifCond .lt 9, 3) := by decide +kernel
theorem dX10_setWeights_14 : decode cX10_setWeights 14 = .ok (.iload_n 2, 1) := by decide +kernel
theorem dX10_setWeights_15 : decode cX10_setWeights 15 = .ok (.bipush 9, 2) := by decide +kernel
theorem dX10_setWeights_17 : decode cX10_setWeights 17 = .ok (.if_icmp .le 6, 3) := by decide +kernel
theorem dX10_setWeights_20 : decode cX10_setWeights 20 = .ok (.bipush (-2), 2) := by decide +kernel
theorem dX10_setWeights_22 : decode cX10_setWeights 22 = .ok (.ireturn, 1) := by decide +kernel
theorem dX10_setWeights_23 : decode cX10_setWeights 23 = .ok (.aload_n 0, 1) := by decide +kernel
theorem dX10_setWeights_24 : decode cX10_setWeights 24 = .ok (.invokevirtual 147, 3) := by decide +kernel
theorem dX10_setWeights_27 : decode cX10_setWeights 27 = .ok (.istore_n 3, 1) := by decide +kernel
theorem dX10_setWeights_28 : decode cX10_setWeights 28 = .ok (.aload_n 0, 1) := by decide +kernel
theorem dX10_setWeights_29 : decode cX10_setWeights 29 = .ok (.invokevirtual 133, 3) := by decide +kernel
theorem dX10_setWeights_32 : decode cX10_setWeights 32 = .ok (.aload_n 0, 1) := by decide +kernel
theorem dX10_setWeights_33 : decode cX10_setWeights 33 = .ok (.iload_n 1, 1) := by decide +kernel
theorem dX10_setWeights_34 : decode cX10_setWeights 34 = .ok (.putfield 13, 3) := by decide +kernel
theorem dX10_setWeights_37 : decode cX10_setWeights 37 = .ok (.aload_n 0, 1) := by decide +kernel
theorem dX10_setWeights_38 : decode cX10_setWeights 38 = .ok (.iload_n 2, 1) := by decide +kernel
theorem dX10_setWeights_39 : decode cX10_setWeights 39 = .ok (.putfield 17, 3) := by decide +kernel
theorem dX10_setWeights_42 : decode cX10_setWeights 42 = .ok (.iload_n 3, 1) := by decide +kernel
theorem dX10_setWeights_43 : decode cX10_setWeights 43 = .ok (.ireturn, 1) := by decide +kernel
theorem dX10_undo_0 : decode cX10_undo 0 = .ok (.aload_n 0, 1) := by decide +kernel
theorem dX10_undo_1 : decode cX10_undo 1 = .ok (.getfield 122, 3) := by decide +kernel
theorem dX10_undo_4 : decode cX10_undo 4 = .ok (.ifCond .ne 6, 3) := by decide +kernel
theorem dX10_undo_7 : decode cX10_undo 7 = .ok (.bipush (-5), 2) := by decide +kernel
theorem dX10_undo_9 : decode cX10_undo 9 = .ok (.ireturn, 1) := by decide +kernel
theorem dX10_undo_10 : decode cX10_undo 10 = .ok (.aload_n 0, 1) := by decide +kernel
theorem dX10_undo_11 : decode cX10_undo 11 = .ok (.dup, 1) := by decide +kernel
theorem dX10_undo_12 : decode cX10_undo 12 = .ok (.getfield 122, 3) := by decide +kernel
theorem dX10_undo_15 : decode cX10_undo 15 = .ok (.iconst 1, 1) := by decide +kernel
theorem dX10_undo_16 : decode cX10_undo 16 = .ok (.isub, 1) := by decide +kernel
theorem dX10_undo_17 : decode cX10_undo 17 = .ok (.putfield 122, 3) := by decide +kernel
theorem dX10_undo_20 : decode cX10_undo 20 = .ok (.iconst 0, 1) := by decide +kernel
theorem dX10_undo_21 : decode cX10_undo 21 = .ok (.istore_n 1, 1) := by decide +kernel
theorem dX10_undo_22 : decode cX10_undo 22 = .ok (.iload_n 1, 1) := by decide +kernel
theorem dX10_undo_23 : decode cX10_undo 23 = .ok (.bipush 84, 2) := by decide +kernel
theorem dX10_undo_25 : decode cX10_undo 25 = .ok (.if_icmp .ge 29, 3) := by decide +kernel
theorem dX10_undo_28 : decode cX10_undo 28 = .ok (.aload_n 0, 1) := by decide +kernel
theorem dX10_undo_29 : decode cX10_undo 29 = .ok (.getfield 7, 3) := by decide +kernel
theorem dX10_undo_32 : decode cX10_undo 32 = .ok (.iload_n 1, 1) := by decide +kernel
theorem dX10_undo_33 : decode cX10_undo 33 = .ok (.aload_n 0, 1) := by decide +kernel
theorem dX10_undo_34 : decode cX10_undo 34 = .ok (.getfield 20, 3) := by decide +kernel
theorem dX10_undo_37 : decode cX10_undo 37 = .ok (.bipush 86, 2) := by decide +kernel
theorem dX10_undo_39 : decode cX10_undo 39 = .ok (.aload_n 0, 1) := by decide +kernel
theorem dX10_undo_40 : decode cX10_undo 40 = .ok (.getfield 122, 3) := by decide +kernel
theorem dX10_undo_43 : decode cX10_undo 43 = .ok (.imul, 1) := by decide +kernel
theorem dX10_undo_44 : decode cX10_undo 44 = .ok (.iload_n 1, 1) := by decide +kernel
theorem dX10_undo_45 : decode cX10_undo 45 = .ok (.iadd, 1) := by decide +kernel
theorem dX10_undo_46 : decode cX10_undo 46 = .ok (.iaload, 1) := by decide +kernel
theorem dX10_undo_47 : decode cX10_undo 47 = .ok (.iastore, 1) := by decide +kernel
theorem dX10_undo_48 : decode cX10_undo 48 = .ok (.iinc 1 1, 3) := by decide +kernel
theorem dX10_undo_51 : decode cX10_undo 51 = .ok (.goto (-29), 3) := by decide +kernel
theorem dX10_undo_54 : decode cX10_undo 54 = .ok (.aload_n 0, 1) := by decide +kernel
theorem dX10_undo_55 : decode cX10_undo 55 = .ok (.aload_n 0, 1) := by decide +kernel
theorem dX10_undo_56 : decode cX10_undo 56 = .ok (.getfield 20, 3) := by decide +kernel
theorem dX10_undo_59 : decode cX10_undo 59 = .ok (.bipush 86, 2) := by decide +kernel
theorem dX10_undo_61 : decode cX10_undo 61 = .ok (.aload_n 0, 1) := by decide +kernel
theorem dX10_undo_62 : decode cX10_undo 62 = .ok (.getfield 122, 3) := by decide +kernel
theorem dX10_undo_65 : decode cX10_undo 65 = .ok (.imul, 1) := by decide +kernel
theorem dX10_undo_66 : decode cX10_undo 66 = .ok (.bipush 84, 2) := by decide +kernel
theorem dX10_undo_68 : decode cX10_undo 68 = .ok (.iadd, 1) := by decide +kernel
theorem dX10_undo_69 : decode cX10_undo 69 = .ok (.iaload, 1) := by decide +kernel
theorem dX10_undo_70 : decode cX10_undo 70 = .ok (.putfield 13, 3) := by decide +kernel
theorem dX10_undo_73 : decode cX10_undo 73 = .ok (.aload_n 0, 1) := by decide +kernel
theorem dX10_undo_74 : decode cX10_undo 74 = .ok (.aload_n 0, 1) := by decide +kernel
theorem dX10_undo_75 : decode cX10_undo 75 = .ok (.getfield 20, 3) := by decide +kernel
theorem dX10_undo_78 : decode cX10_undo 78 = .ok (.bipush 86, 2) := by decide +kernel
theorem dX10_undo_80 : decode cX10_undo 80 = .ok (.aload_n 0, 1) := by decide +kernel
theorem dX10_undo_81 : decode cX10_undo 81 = .ok (.getfield 122, 3) := by decide +kernel
theorem dX10_undo_84 : decode cX10_undo 84 = .ok (.imul, 1) := by decide +kernel
theorem dX10_undo_85 : decode cX10_undo 85 = .ok (.bipush 85, 2) := by decide +kernel
theorem dX10_undo_87 : decode cX10_undo 87 = .ok (.iadd, 1) := by decide +kernel
theorem dX10_undo_88 : decode cX10_undo 88 = .ok (.iaload, 1) := by decide +kernel
theorem dX10_undo_89 : decode cX10_undo 89 = .ok (.putfield 17, 3) := by decide +kernel
theorem dX10_undo_92 : decode cX10_undo 92 = .ok (.aload_n 0, 1) := by decide +kernel
theorem dX10_undo_93 : decode cX10_undo 93 = .ok (.getfield 122, 3) := by decide +kernel
theorem dX10_undo_96 : decode cX10_undo 96 = .ok (.ireturn, 1) := by decide +kernel
theorem dX10_wallCount_0 : decode cX10_wallCount 0 = .ok (.iconst 0, 1) := by decide +kernel
theorem dX10_wallCount_1 : decode cX10_wallCount 1 = .ok (.istore_n 1, 1) := by decide +kernel
theorem dX10_wallCount_2 : decode cX10_wallCount 2 = .ok (.iconst 0, 1) := by decide +kernel
theorem dX10_wallCount_3 : decode cX10_wallCount 3 = .ok (.istore_n 2, 1) := by decide +kernel
theorem dX10_wallCount_4 : decode cX10_wallCount 4 = .ok (.iload_n 2, 1) := by decide +kernel
theorem dX10_wallCount_5 : decode cX10_wallCount 5 = .ok (.bipush 12, 2) := by decide +kernel
theorem dX10_wallCount_7 : decode cX10_wallCount 7 = .ok (.if_icmp .ge 18, 3) := by decide +kernel
theorem dX10_wallCount_10 : decode cX10_wallCount 10 = .ok (.iload_n 1, 1) := by decide +kernel
theorem dX10_wallCount_11 : decode cX10_wallCount 11 = .ok (.aload_n 0, 1) := by decide +kernel
theorem dX10_wallCount_12 : decode cX10_wallCount 12 = .ok (.iload_n 2, 1) := by decide +kernel
theorem dX10_wallCount_13 : decode cX10_wallCount 13 = .ok (.iconst 0, 1) := by decide +kernel
theorem dX10_wallCount_14 : decode cX10_wallCount 14 = .ok (.invokevirtual 129, 3) := by decide +kernel
theorem dX10_wallCount_17 : decode cX10_wallCount 17 = .ok (.iadd, 1) := by decide +kernel
theorem dX10_wallCount_18 : decode cX10_wallCount 18 = .ok (.istore_n 1, 1) := by decide +kernel
theorem dX10_wallCount_19 : decode cX10_wallCount 19 = .ok (.iinc 2 1, 3) := by decide +kernel
theorem dX10_wallCount_22 : decode cX10_wallCount 22 = .ok (.goto (-18), 3) := by decide +kernel
theorem dX10_wallCount_25 : decode cX10_wallCount 25 = .ok (.iload_n 1, 1) := by decide +kernel
theorem dX10_wallCount_26 : decode cX10_wallCount 26 = .ok (.ireturn, 1) := by decide +kernel
theorem dX10_coordinate_0 : decode cX10_coordinate 0 = .ok (.aload_n 0, 1) := by decide +kernel
theorem dX10_coordinate_1 : decode cX10_coordinate 1 = .ok (.iload_n 1, 1) := by decide +kernel
theorem dX10_coordinate_2 : decode cX10_coordinate 2 = .ok (.invokevirtual 140, 3) := by decide +kernel
theorem dX10_coordinate_5 : decode cX10_coordinate 5 = .ok (.ifCond .ne 5, 3) := by decide +kernel
theorem dX10_coordinate_8 : decode cX10_coordinate 8 = .ok (.iconst (-1), 1) := by decide +kernel
theorem dX10_coordinate_9 : decode cX10_coordinate 9 = .ok (.ireturn, 1) := by decide +kernel
theorem dX10_coordinate_10 : decode cX10_coordinate 10 = .ok (.iload_n 2, 1) := by decide +kernel
theorem dX10_coordinate_11 : decode cX10_coordinate 11 = .ok (.ifCond .lt 8, 3) := by decide +kernel
theorem dX10_coordinate_14 : decode cX10_coordinate 14 = .ok (.iload_n 2, 1) := by decide +kernel
theorem dX10_coordinate_15 : decode cX10_coordinate 15 = .ok (.iconst 3, 1) := by decide +kernel
theorem dX10_coordinate_16 : decode cX10_coordinate 16 = .ok (.if_icmp .le 8, 3) := by decide +kernel
theorem dX10_coordinate_19 : decode cX10_coordinate 19 = .ok (.bipush (-2), 2) := by decide +kernel
theorem dX10_coordinate_21 : decode cX10_coordinate 21 = .ok (.goto 11, 3) := by decide +kernel
theorem dX10_coordinate_24 : decode cX10_coordinate 24 = .ok (.aload_n 0, 1) := by decide +kernel
theorem dX10_coordinate_25 : decode cX10_coordinate 25 = .ok (.iload_n 1, 1) := by decide +kernel
theorem dX10_coordinate_26 : decode cX10_coordinate 26 = .ok (.iconst 1, 1) := by decide +kernel
theorem dX10_coordinate_27 : decode cX10_coordinate 27 = .ok (.iload_n 2, 1) := by decide +kernel
theorem dX10_coordinate_28 : decode cX10_coordinate 28 = .ok (.iadd, 1) := by decide +kernel
theorem dX10_coordinate_29 : decode cX10_coordinate 29 = .ok (.invokevirtual 129, 3) := by decide +kernel
theorem dX10_coordinate_32 : decode cX10_coordinate 32 = .ok (.ireturn, 1) := by decide +kernel
theorem dX10_kind_0 : decode cX10_kind 0 = .ok (.aload_n 0, 1) := by decide +kernel
theorem dX10_kind_1 : decode cX10_kind 1 = .ok (.iload_n 1, 1) := by decide +kernel
theorem dX10_kind_2 : decode cX10_kind 2 = .ok (.invokevirtual 140, 3) := by decide +kernel
theorem dX10_kind_5 : decode cX10_kind 5 = .ok (.ifCond .eq 23, 3) := by decide +kernel
theorem dX10_kind_8 : decode cX10_kind 8 = .ok (.aload_n 0, 1) := by decide +kernel
theorem dX10_kind_9 : decode cX10_kind 9 = .ok (.iload_n 1, 1) := by decide +kernel
theorem dX10_kind_10 : decode cX10_kind 10 = .ok (.iconst 5, 1) := by decide +kernel
theorem dX10_kind_11 : decode cX10_kind 11 = .ok (.invokevirtual 129, 3) := by decide +kernel
theorem dX10_kind_14 : decode cX10_kind 14 = .ok (.bipush 10, 2) := by decide +kernel
theorem dX10_kind_16 : decode cX10_kind 16 = .ok (.aload_n 0, 1) := by decide +kernel
theorem dX10_kind_17 : decode cX10_kind 17 = .ok (.iload_n 1, 1) := by decide +kernel
theorem dX10_kind_18 : decode cX10_kind 18 = .ok (.bipush 6, 2) := by decide +kernel
theorem dX10_kind_20 : decode cX10_kind 20 = .ok (.invokevirtual 129, 3) := by decide +kernel
theorem dX10_kind_23 : decode cX10_kind 23 = .ok (.imul, 1) := by decide +kernel
theorem dX10_kind_24 : decode cX10_kind 24 = .ok (.iadd, 1) := by decide +kernel
theorem dX10_kind_25 : decode cX10_kind 25 = .ok (.goto 4, 3) := by decide +kernel
theorem dX10_kind_28 : decode cX10_kind 28 = .ok (.iconst (-1), 1) := by decide +kernel
theorem dX10_kind_29 : decode cX10_kind 29 = .ok (.ireturn, 1) := by decide +kernel
theorem dX10_weights_0 : decode cX10_weights 0 = .ok (.bipush 10, 2) := by decide +kernel
theorem dX10_weights_2 : decode cX10_weights 2 = .ok (.aload_n 0, 1) := by decide +kernel
theorem dX10_weights_3 : decode cX10_weights 3 = .ok (.getfield 13, 3) := by decide +kernel
theorem dX10_weights_6 : decode cX10_weights 6 = .ok (.imul, 1) := by decide +kernel
theorem dX10_weights_7 : decode cX10_weights 7 = .ok (.aload_n 0, 1) := by decide +kernel
theorem dX10_weights_8 : decode cX10_weights 8 = .ok (.getfield 17, 3) := by decide +kernel
theorem dX10_weights_11 : decode cX10_weights 11 = .ok (.iadd, 1) := by decide +kernel
theorem dX10_weights_12 : decode cX10_weights 12 = .ok (.ireturn, 1) := by decide +kernel
theorem dX10_appendText_0 : decode cX10_appendText 0 = .ok (.iload_n 1, 1) := by decide +kernel
theorem dX10_appendText_1 : decode cX10_appendText 1 = .ok (.bipush 32, 2) := by decide +kernel
theorem dX10_appendText_3 : decode cX10_appendText 3 = .ok (.if_icmp .lt 9, 3) := by decide +kernel
theorem dX10_appendText_6 : decode cX10_appendText 6 = .ok (.iload_n 1, 1) := by decide +kernel
theorem dX10_appendText_7 : decode cX10_appendText 7 = .ok (.bipush 126, 2) := by decide +kernel
theorem dX10_appendText_9 : decode cX10_appendText 9 = .ok (.if_icmp .le 6, 3) := by decide +kernel
theorem dX10_appendText_12 : decode cX10_appendText 12 = .ok (.bipush (-2), 2) := by decide +kernel
theorem dX10_appendText_14 : decode cX10_appendText 14 = .ok (.ireturn, 1) := by decide +kernel
theorem dX10_appendText_15 : decode cX10_appendText 15 = .ok (.aload_n 0, 1) := by decide +kernel
theorem dX10_appendText_16 : decode cX10_appendText 16 = .ok (.getfield 150, 3) := by decide +kernel
theorem dX10_appendText_19 : decode cX10_appendText 19 = .ok (.sipush 300, 3) := by decide +kernel
theorem dX10_appendText_22 : decode cX10_appendText 22 = .ok (.if_icmp .ne 6, 3) := by decide +kernel
theorem dX10_appendText_25 : decode cX10_appendText 25 = .ok (.bipush (-3), 2) := by decide +kernel
theorem dX10_appendText_27 : decode cX10_appendText 27 = .ok (.ireturn, 1) := by decide +kernel
theorem dX10_appendText_28 : decode cX10_appendText 28 = .ok (.aload_n 0, 1) := by decide +kernel
theorem dX10_appendText_29 : decode cX10_appendText 29 = .ok (.getfield 23, 3) := by decide +kernel
theorem dX10_appendText_32 : decode cX10_appendText 32 = .ok (.aload_n 0, 1) := by decide +kernel
theorem dX10_appendText_33 : decode cX10_appendText 33 = .ok (.getfield 150, 3) := by decide +kernel
theorem dX10_appendText_36 : decode cX10_appendText 36 = .ok (.iload_n 1, 1) := by decide +kernel
theorem dX10_appendText_37 : decode cX10_appendText 37 = .ok (.iastore, 1) := by decide +kernel
theorem dX10_appendText_38 : decode cX10_appendText 38 = .ok (.aload_n 0, 1) := by decide +kernel
theorem dX10_appendText_39 : decode cX10_appendText 39 = .ok (.dup, 1) := by decide +kernel
theorem dX10_appendText_40 : decode cX10_appendText 40 = .ok (.getfield 150, 3) := by decide +kernel
theorem dX10_appendText_43 : decode cX10_appendText 43 = .ok (.iconst 1, 1) := by decide +kernel
theorem dX10_appendText_44 : decode cX10_appendText 44 = .ok (.iadd, 1) := by decide +kernel
theorem dX10_appendText_45 : decode cX10_appendText 45 = .ok (.putfield 150, 3) := by decide +kernel
theorem dX10_appendText_48 : decode cX10_appendText 48 = .ok (.aload_n 0, 1) := by decide +kernel
theorem dX10_appendText_49 : decode cX10_appendText 49 = .ok (.getfield 150, 3) := by decide +kernel
theorem dX10_appendText_52 : decode cX10_appendText 52 = .ok (.ireturn, 1) := by decide +kernel
theorem dX10_clearText_0 : decode cX10_clearText 0 = .ok (.aload_n 0, 1) := by decide +kernel
theorem dX10_clearText_1 : decode cX10_clearText 1 = .ok (.getfield 150, 3) := by decide +kernel
theorem dX10_clearText_4 : decode cX10_clearText 4 = .ok (.istore_n 1, 1) := by decide +kernel
theorem dX10_clearText_5 : decode cX10_clearText 5 = .ok (.aload_n 0, 1) := by decide +kernel
theorem dX10_clearText_6 : decode cX10_clearText 6 = .ok (.iconst 0, 1) := by decide +kernel
theorem dX10_clearText_7 : decode cX10_clearText 7 = .ok (.putfield 150, 3) := by decide +kernel
theorem dX10_clearText_10 : decode cX10_clearText 10 = .ok (.iload_n 1, 1) := by decide +kernel
theorem dX10_clearText_11 : decode cX10_clearText 11 = .ok (.ireturn, 1) := by decide +kernel
theorem dX10_here_0 : decode cX10_here 0 = .ok (.aload_n 0, 1) := by decide +kernel
theorem dX10_here_1 : decode cX10_here 1 = .ok (.getfield 153, 3) := by decide +kernel
theorem dX10_here_4 : decode cX10_here 4 = .ok (.aload_n 0, 1) := by decide +kernel
theorem dX10_here_5 : decode cX10_here 5 = .ok (.getfield 150, 3) := by decide +kernel
theorem dX10_here_8 : decode cX10_here 8 = .ok (.if_icmp .ge 15, 3) := by decide +kernel
theorem dX10_here_11 : decode cX10_here 11 = .ok (.aload_n 0, 1) := by decide +kernel
theorem dX10_here_12 : decode cX10_here 12 = .ok (.getfield 23, 3) := by decide +kernel
theorem dX10_here_15 : decode cX10_here 15 = .ok (.aload_n 0, 1) := by decide +kernel
theorem dX10_here_16 : decode cX10_here 16 = .ok (.getfield 153, 3) := by decide +kernel
theorem dX10_here_19 : decode cX10_here 19 = .ok (.iaload, 1) := by decide +kernel
theorem dX10_here_20 : decode cX10_here 20 = .ok (.goto 4, 3) := by decide +kernel
theorem dX10_here_23 : decode cX10_here 23 = .ok (.iconst 0, 1) := by decide +kernel
theorem dX10_here_24 : decode cX10_here 24 = .ok (.ireturn, 1) := by decide +kernel
theorem dX10_fails_0 : decode cX10_fails 0 = .ok (.aload_n 0, 1) := by decide +kernel
theorem dX10_fails_1 : decode cX10_fails 1 = .ok (.getfield 156, 3) := by decide +kernel
theorem dX10_fails_4 : decode cX10_fails 4 = .ok (.ifCond .ne 13, 3) := by decide +kernel
theorem dX10_fails_7 : decode cX10_fails 7 = .ok (.aload_n 0, 1) := by decide +kernel
theorem dX10_fails_8 : decode cX10_fails 8 = .ok (.iload_n 1, 1) := by decide +kernel
theorem dX10_fails_9 : decode cX10_fails 9 = .ok (.putfield 156, 3) := by decide +kernel
theorem dX10_fails_12 : decode cX10_fails 12 = .ok (.aload_n 0, 1) := by decide +kernel
theorem dX10_fails_13 : decode cX10_fails 13 = .ok (.iload_n 2, 1) := by decide +kernel
theorem dX10_fails_14 : decode cX10_fails 14 = .ok (.putfield 159, 3) := by decide +kernel
theorem dX10_fails_17 : decode cX10_fails 17 = .ok (.return_, 1) := by decide +kernel
theorem dX10_isDigit_0 : decode cX10_isDigit 0 = .ok (.aload_n 0, 1) := by decide +kernel
theorem dX10_isDigit_1 : decode cX10_isDigit 1 = .ok (.invokevirtual 162, 3) := by decide +kernel
theorem dX10_isDigit_4 : decode cX10_isDigit 4 = .ok (.bipush 48, 2) := by decide +kernel
theorem dX10_isDigit_6 : decode cX10_isDigit 6 = .ok (.if_icmp .lt 16, 3) := by decide +kernel
theorem dX10_isDigit_9 : decode cX10_isDigit 9 = .ok (.aload_n 0, 1) := by decide +kernel
theorem dX10_isDigit_10 : decode cX10_isDigit 10 = .ok (.invokevirtual 162, 3) := by decide +kernel
theorem dX10_isDigit_13 : decode cX10_isDigit 13 = .ok (.bipush 57, 2) := by decide +kernel
theorem dX10_isDigit_15 : decode cX10_isDigit 15 = .ok (.if_icmp .gt 7, 3) := by decide +kernel
theorem dX10_isDigit_18 : decode cX10_isDigit 18 = .ok (.iconst 1, 1) := by decide +kernel
theorem dX10_isDigit_19 : decode cX10_isDigit 19 = .ok (.goto 4, 3) := by decide +kernel
theorem dX10_isDigit_22 : decode cX10_isDigit 22 = .ok (.iconst 0, 1) := by decide +kernel
theorem dX10_isDigit_23 : decode cX10_isDigit 23 = .ok (.ireturn, 1) := by decide +kernel
theorem dX10_number_0 : decode cX10_number 0 = .ok (.aload_n 0, 1) := by decide +kernel
theorem dX10_number_1 : decode cX10_number 1 = .ok (.getfield 153, 3) := by decide +kernel
theorem dX10_number_4 : decode cX10_number 4 = .ok (.istore_n 2, 1) := by decide +kernel
theorem dX10_number_5 : decode cX10_number 5 = .ok (.aload_n 0, 1) := by decide +kernel
theorem dX10_number_6 : decode cX10_number 6 = .ok (.invokevirtual 165, 3) := by decide +kernel
theorem dX10_number_9 : decode cX10_number 9 = .ok (.ifCond .ne 14, 3) := by decide +kernel
theorem dX10_number_12 : decode cX10_number 12 = .ok (.aload_n 0, 1) := by decide +kernel
theorem dX10_number_13 : decode cX10_number 13 = .ok (.iconst 1, 1) := by decide +kernel
theorem dX10_number_14 : decode cX10_number 14 = .ok (.aload_n 0, 1) := by decide +kernel
theorem dX10_number_15 : decode cX10_number 15 = .ok (.getfield 153, 3) := by decide +kernel
theorem dX10_number_18 : decode cX10_number 18 = .ok (.invokevirtual 169, 3) := by decide +kernel
theorem dX10_number_21 : decode cX10_number 21 = .ok (.iconst 0, 1) := by decide +kernel
theorem dX10_number_22 : decode cX10_number 22 = .ok (.ireturn, 1) := by decide +kernel
theorem dX10_number_23 : decode cX10_number 23 = .ok (.aload_n 0, 1) := by decide +kernel
theorem dX10_number_24 : decode cX10_number 24 = .ok (.invokevirtual 162, 3) := by decide +kernel
theorem dX10_number_27 : decode cX10_number 27 = .ok (.bipush 48, 2) := by decide +kernel
theorem dX10_number_29 : decode cX10_number 29 = .ok (.isub, 1) := by decide +kernel
theorem dX10_number_30 : decode cX10_number 30 = .ok (.istore_n 3, 1) := by decide +kernel
theorem dX10_number_31 : decode cX10_number 31 = .ok (.aload_n 0, 1) := by decide +kernel
theorem dX10_number_32 : decode cX10_number 32 = .ok (.dup, 1) := by decide +kernel
theorem dX10_number_33 : decode cX10_number 33 = .ok (.getfield 153, 3) := by decide +kernel
theorem dX10_number_36 : decode cX10_number 36 = .ok (.iconst 1, 1) := by decide +kernel
theorem dX10_number_37 : decode cX10_number 37 = .ok (.iadd, 1) := by decide +kernel
theorem dX10_number_38 : decode cX10_number 38 = .ok (.putfield 153, 3) := by decide +kernel
theorem dX10_number_41 : decode cX10_number 41 = .ok (.aload_n 0, 1) := by decide +kernel
theorem dX10_number_42 : decode cX10_number 42 = .ok (.invokevirtual 165, 3) := by decide +kernel
theorem dX10_number_45 : decode cX10_number 45 = .ok (.ifCond .eq 26, 3) := by decide +kernel
theorem dX10_number_48 : decode cX10_number 48 = .ok (.bipush 10, 2) := by decide +kernel
theorem dX10_number_50 : decode cX10_number 50 = .ok (.iload_n 3, 1) := by decide +kernel
theorem dX10_number_51 : decode cX10_number 51 = .ok (.imul, 1) := by decide +kernel
theorem dX10_number_52 : decode cX10_number 52 = .ok (.aload_n 0, 1) := by decide +kernel
theorem dX10_number_53 : decode cX10_number 53 = .ok (.invokevirtual 162, 3) := by decide +kernel
theorem dX10_number_56 : decode cX10_number 56 = .ok (.iadd, 1) := by decide +kernel
theorem dX10_number_57 : decode cX10_number 57 = .ok (.bipush 48, 2) := by decide +kernel
theorem dX10_number_59 : decode cX10_number 59 = .ok (.isub, 1) := by decide +kernel
theorem dX10_number_60 : decode cX10_number 60 = .ok (.istore_n 3, 1) := by decide +kernel
theorem dX10_number_61 : decode cX10_number 61 = .ok (.aload_n 0, 1) := by decide +kernel
theorem dX10_number_62 : decode cX10_number 62 = .ok (.dup, 1) := by decide +kernel
theorem dX10_number_63 : decode cX10_number 63 = .ok (.getfield 153, 3) := by decide +kernel
theorem dX10_number_66 : decode cX10_number 66 = .ok (.iconst 1, 1) := by decide +kernel
theorem dX10_number_67 : decode cX10_number 67 = .ok (.iadd, 1) := by decide +kernel
theorem dX10_number_68 : decode cX10_number 68 = .ok (.putfield 153, 3) := by decide +kernel
theorem dX10_number_71 : decode cX10_number 71 = .ok (.iload_n 3, 1) := by decide +kernel
theorem dX10_number_72 : decode cX10_number 72 = .ok (.bipush 63, 2) := by decide +kernel
theorem dX10_number_74 : decode cX10_number 74 = .ok (.if_icmp .le 12, 3) := by decide +kernel
theorem dX10_number_77 : decode cX10_number 77 = .ok (.aload_n 0, 1) := by decide +kernel
theorem dX10_number_78 : decode cX10_number 78 = .ok (.iconst 2, 1) := by decide +kernel
theorem dX10_number_79 : decode cX10_number 79 = .ok (.iload_n 2, 1) := by decide +kernel
theorem dX10_number_80 : decode cX10_number 80 = .ok (.invokevirtual 169, 3) := by decide +kernel
theorem dX10_number_83 : decode cX10_number 83 = .ok (.goto 33, 3) := by decide +kernel
theorem dX10_number_86 : decode cX10_number 86 = .ok (.aload_n 0, 1) := by decide +kernel
theorem dX10_number_87 : decode cX10_number 87 = .ok (.invokevirtual 162, 3) := by decide +kernel
theorem dX10_number_90 : decode cX10_number 90 = .ok (.iload_n 1, 1) := by decide +kernel
theorem dX10_number_91 : decode cX10_number 91 = .ok (.if_icmp .eq 15, 3) := by decide +kernel
theorem dX10_number_94 : decode cX10_number 94 = .ok (.aload_n 0, 1) := by decide +kernel
theorem dX10_number_95 : decode cX10_number 95 = .ok (.iconst 1, 1) := by decide +kernel
theorem dX10_number_96 : decode cX10_number 96 = .ok (.aload_n 0, 1) := by decide +kernel
theorem dX10_number_97 : decode cX10_number 97 = .ok (.getfield 153, 3) := by decide +kernel
theorem dX10_number_100 : decode cX10_number 100 = .ok (.invokevirtual 169, 3) := by decide +kernel
theorem dX10_number_103 : decode cX10_number 103 = .ok (.goto 13, 3) := by decide +kernel
theorem dX10_number_106 : decode cX10_number 106 = .ok (.aload_n 0, 1) := by decide +kernel
theorem dX10_number_107 : decode cX10_number 107 = .ok (.dup, 1) := by decide +kernel
theorem dX10_number_108 : decode cX10_number 108 = .ok (.getfield 153, 3) := by decide +kernel
theorem dX10_number_111 : decode cX10_number 111 = .ok (.iconst 1, 1) := by decide +kernel
theorem dX10_number_112 : decode cX10_number 112 = .ok (.iadd, 1) := by decide +kernel
theorem dX10_number_113 : decode cX10_number 113 = .ok (.putfield 153, 3) := by decide +kernel
theorem dX10_number_116 : decode cX10_number 116 = .ok (.iload_n 3, 1) := by decide +kernel
theorem dX10_number_117 : decode cX10_number 117 = .ok (.ireturn, 1) := by decide +kernel
theorem dX10_read_0 : decode cX10_read 0 = .ok (.iconst 0, 1) := by decide +kernel
theorem dX10_read_1 : decode cX10_read 1 = .ok (.istore_n 1, 1) := by decide +kernel
theorem dX10_read_2 : decode cX10_read 2 = .ok (.aload_n 0, 1) := by decide +kernel
theorem dX10_read_3 : decode cX10_read 3 = .ok (.iconst 0, 1) := by decide +kernel
theorem dX10_read_4 : decode cX10_read 4 = .ok (.putfield 153, 3) := by decide +kernel
theorem dX10_read_7 : decode cX10_read 7 = .ok (.aload_n 0, 1) := by decide +kernel
theorem dX10_read_8 : decode cX10_read 8 = .ok (.iconst 0, 1) := by decide +kernel
theorem dX10_read_9 : decode cX10_read 9 = .ok (.putfield 156, 3) := by decide +kernel
theorem dX10_read_12 : decode cX10_read 12 = .ok (.aload_n 0, 1) := by decide +kernel
theorem dX10_read_13 : decode cX10_read 13 = .ok (.getfield 153, 3) := by decide +kernel
theorem dX10_read_16 : decode cX10_read 16 = .ok (.aload_n 0, 1) := by decide +kernel
theorem dX10_read_17 : decode cX10_read 17 = .ok (.getfield 150, 3) := by decide +kernel
theorem dX10_read_20 : decode cX10_read 20 = .ok (.if_icmp .ge 105, 3) := by decide +kernel
theorem dX10_read_23 : decode cX10_read 23 = .ok (.aload_n 0, 1) := by decide +kernel
theorem dX10_read_24 : decode cX10_read 24 = .ok (.getfield 156, 3) := by decide +kernel
theorem dX10_read_27 : decode cX10_read 27 = .ok (.ifCond .ne 98, 3) := by decide +kernel
theorem dX10_read_30 : decode cX10_read 30 = .ok (.aload_n 0, 1) := by decide +kernel
theorem dX10_read_31 : decode cX10_read 31 = .ok (.invokevirtual 162, 3) := by decide +kernel
theorem dX10_read_34 : decode cX10_read 34 = .ok (.istore_n 2, 1) := by decide +kernel
theorem dX10_read_35 : decode cX10_read 35 = .ok (.iload_n 2, 1) := by decide +kernel
theorem dX10_read_36 : decode cX10_read 36 = .ok (.bipush 115, 2) := by decide +kernel
theorem dX10_read_38 : decode cX10_read 38 = .ok (.if_icmp .ne 7, 3) := by decide +kernel
theorem dX10_read_41 : decode cX10_read 41 = .ok (.iconst 0, 1) := by decide +kernel
theorem dX10_read_42 : decode cX10_read 42 = .ok (.goto 24, 3) := by decide +kernel
theorem dX10_read_45 : decode cX10_read 45 = .ok (.iload_n 2, 1) := by decide +kernel
theorem dX10_read_46 : decode cX10_read 46 = .ok (.bipush 103, 2) := by decide +kernel
theorem dX10_read_48 : decode cX10_read 48 = .ok (.if_icmp .ne 7, 3) := by decide +kernel
theorem dX10_read_51 : decode cX10_read 51 = .ok (.iconst 1, 1) := by decide +kernel
theorem dX10_read_52 : decode cX10_read 52 = .ok (.goto 14, 3) := by decide +kernel
theorem dX10_read_55 : decode cX10_read 55 = .ok (.iload_n 2, 1) := by decide +kernel
theorem dX10_read_56 : decode cX10_read 56 = .ok (.bipush 111, 2) := by decide +kernel
theorem dX10_read_58 : decode cX10_read 58 = .ok (.if_icmp .ne 7, 3) := by decide +kernel
theorem dX10_read_61 : decode cX10_read 61 = .ok (.iconst 2, 1) := by decide +kernel
theorem dX10_read_62 : decode cX10_read 62 = .ok (.goto 4, 3) := by decide +kernel
theorem dX10_read_65 : decode cX10_read 65 = .ok (.iconst (-1), 1) := by decide +kernel
theorem dX10_read_66 : decode cX10_read 66 = .ok (.istore_n 3, 1) := by decide +kernel
theorem dX10_read_67 : decode cX10_read 67 = .ok (.iload_n 3, 1) := by decide +kernel
theorem dX10_read_68 : decode cX10_read 68 = .ok (.ifCond .ge 15, 3) := by decide +kernel
theorem dX10_read_71 : decode cX10_read 71 = .ok (.aload_n 0, 1) := by decide +kernel
theorem dX10_read_72 : decode cX10_read 72 = .ok (.iconst 1, 1) := by decide +kernel
theorem dX10_read_73 : decode cX10_read 73 = .ok (.aload_n 0, 1) := by decide +kernel
theorem dX10_read_74 : decode cX10_read 74 = .ok (.getfield 153, 3) := by decide +kernel
theorem dX10_read_77 : decode cX10_read 77 = .ok (.invokevirtual 169, 3) := by decide +kernel
theorem dX10_read_80 : decode cX10_read 80 = .ok (.goto 27, 3) := by decide +kernel
theorem dX10_read_83 : decode cX10_read 83 = .ok (.iload_n 1, 1) := by decide +kernel
theorem dX10_read_84 : decode cX10_read 84 = .ok (.bipush 12, 2) := by decide +kernel
theorem dX10_read_86 : decode cX10_read 86 = .ok (.if_icmp .ne 15, 3) := by decide +kernel
theorem dX10_read_89 : decode cX10_read 89 = .ok (.aload_n 0, 1) := by decide +kernel
theorem dX10_read_90 : decode cX10_read 90 = .ok (.iconst 4, 1) := by decide +kernel
theorem dX10_read_91 : decode cX10_read 91 = .ok (.aload_n 0, 1) := by decide +kernel
theorem dX10_read_92 : decode cX10_read 92 = .ok (.getfield 153, 3) := by decide +kernel
theorem dX10_read_95 : decode cX10_read 95 = .ok (.invokevirtual 169, 3) := by decide +kernel
theorem dX10_read_98 : decode cX10_read 98 = .ok (.goto 9, 3) := by decide +kernel
theorem dX10_read_101 : decode cX10_read 101 = .ok (.aload_n 0, 1) := by decide +kernel
theorem dX10_read_102 : decode cX10_read 102 = .ok (.iload_n 1, 1) := by decide +kernel
theorem dX10_read_103 : decode cX10_read 103 = .ok (.iload_n 3, 1) := by decide +kernel
theorem dX10_read_104 : decode cX10_read 104 = .ok (.invokevirtual 173, 3) := by decide +kernel
theorem dX10_read_107 : decode cX10_read 107 = .ok (.iload_n 1, 1) := by decide +kernel
theorem dX10_read_108 : decode cX10_read 108 = .ok (.aload_n 0, 1) := by decide +kernel
theorem dX10_read_109 : decode cX10_read 109 = .ok (.getfield 156, 3) := by decide +kernel
theorem dX10_read_112 : decode cX10_read 112 = .ok (.ifCond .ne 7, 3) := by decide +kernel
theorem dX10_read_115 : decode cX10_read 115 = .ok (.iconst 1, 1) := by decide +kernel
theorem dX10_read_116 : decode cX10_read 116 = .ok (.goto 4, 3) := by decide +kernel
theorem dX10_read_119 : decode cX10_read 119 = .ok (.iconst 0, 1) := by decide +kernel
theorem dX10_read_120 : decode cX10_read 120 = .ok (.iadd, 1) := by decide +kernel
theorem dX10_read_121 : decode cX10_read 121 = .ok (.istore_n 1, 1) := by decide +kernel
theorem dX10_read_122 : decode cX10_read 122 = .ok (.goto (-110), 3) := by decide +kernel
theorem dX10_read_125 : decode cX10_read 125 = .ok (.iload_n 1, 1) := by decide +kernel
theorem dX10_read_126 : decode cX10_read 126 = .ok (.ireturn, 1) := by decide +kernel
theorem dX10_readItem_0 : decode cX10_readItem 0 = .ok (.aload_n 0, 1) := by decide +kernel
theorem dX10_readItem_1 : decode cX10_readItem 1 = .ok (.dup, 1) := by decide +kernel
theorem dX10_readItem_2 : decode cX10_readItem 2 = .ok (.getfield 153, 3) := by decide +kernel
theorem dX10_readItem_5 : decode cX10_readItem 5 = .ok (.iconst 1, 1) := by decide +kernel
theorem dX10_readItem_6 : decode cX10_readItem 6 = .ok (.iadd, 1) := by decide +kernel
theorem dX10_readItem_7 : decode cX10_readItem 7 = .ok (.putfield 153, 3) := by decide +kernel
theorem dX10_readItem_10 : decode cX10_readItem 10 = .ok (.aload_n 0, 1) := by decide +kernel
theorem dX10_readItem_11 : decode cX10_readItem 11 = .ok (.invokevirtual 162, 3) := by decide +kernel
theorem dX10_readItem_14 : decode cX10_readItem 14 = .ok (.bipush 109, 2) := by decide +kernel
theorem dX10_readItem_16 : decode cX10_readItem 16 = .ok (.if_icmp .ne 7, 3) := by decide +kernel
theorem dX10_readItem_19 : decode cX10_readItem 19 = .ok (.iconst 1, 1) := by decide +kernel
theorem dX10_readItem_20 : decode cX10_readItem 20 = .ok (.goto 4, 3) := by decide +kernel
theorem dX10_readItem_23 : decode cX10_readItem 23 = .ok (.iconst 0, 1) := by decide +kernel
theorem dX10_readItem_24 : decode cX10_readItem 24 = .ok (.istore_n 3, 1) := by decide +kernel
theorem dX10_readItem_25 : decode cX10_readItem 25 = .ok (.aload_n 0, 1) := by decide +kernel
theorem dX10_readItem_26 : decode cX10_readItem 26 = .ok (.dup, 1) := by decide +kernel
theorem dX10_readItem_27 : decode cX10_readItem 27 = .ok (.getfield 153, 3) := by decide +kernel
theorem dX10_readItem_30 : decode cX10_readItem 30 = .ok (.iload_n 3, 1) := by decide +kernel
theorem dX10_readItem_31 : decode cX10_readItem 31 = .ok (.iadd, 1) := by decide +kernel
theorem dX10_readItem_32 : decode cX10_readItem 32 = .ok (.putfield 153, 3) := by decide +kernel
theorem dX10_readItem_35 : decode cX10_readItem 35 = .ok (.aload_n 0, 1) := by decide +kernel
theorem dX10_readItem_36 : decode cX10_readItem 36 = .ok (.getfield 44, 3) := by decide +kernel
theorem dX10_readItem_39 : decode cX10_readItem 39 = .ok (.bipush 7, 2) := by decide +kernel
theorem dX10_readItem_41 : decode cX10_readItem 41 = .ok (.iload_n 1, 1) := by decide +kernel
theorem dX10_readItem_42 : decode cX10_readItem 42 = .ok (.imul, 1) := by decide +kernel
theorem dX10_readItem_43 : decode cX10_readItem 43 = .ok (.iconst 1, 1) := by decide +kernel
theorem dX10_readItem_44 : decode cX10_readItem 44 = .ok (.iastore, 1) := by decide +kernel
theorem dX10_readItem_45 : decode cX10_readItem 45 = .ok (.aload_n 0, 1) := by decide +kernel
theorem dX10_readItem_46 : decode cX10_readItem 46 = .ok (.getfield 44, 3) := by decide +kernel
theorem dX10_readItem_49 : decode cX10_readItem 49 = .ok (.bipush 7, 2) := by decide +kernel
theorem dX10_readItem_51 : decode cX10_readItem 51 = .ok (.iload_n 1, 1) := by decide +kernel
theorem dX10_readItem_52 : decode cX10_readItem 52 = .ok (.imul, 1) := by decide +kernel
theorem dX10_readItem_53 : decode cX10_readItem 53 = .ok (.iconst 5, 1) := by decide +kernel
theorem dX10_readItem_54 : decode cX10_readItem 54 = .ok (.iadd, 1) := by decide +kernel
theorem dX10_readItem_55 : decode cX10_readItem 55 = .ok (.iload_n 2, 1) := by decide +kernel
theorem dX10_readItem_56 : decode cX10_readItem 56 = .ok (.iastore, 1) := by decide +kernel
theorem dX10_readItem_57 : decode cX10_readItem 57 = .ok (.aload_n 0, 1) := by decide +kernel
theorem dX10_readItem_58 : decode cX10_readItem 58 = .ok (.getfield 44, 3) := by decide +kernel
theorem dX10_readItem_61 : decode cX10_readItem 61 = .ok (.bipush 7, 2) := by decide +kernel
theorem dX10_readItem_63 : decode cX10_readItem 63 = .ok (.iload_n 1, 1) := by decide +kernel
theorem dX10_readItem_64 : decode cX10_readItem 64 = .ok (.imul, 1) := by decide +kernel
theorem dX10_readItem_65 : decode cX10_readItem 65 = .ok (.bipush 6, 2) := by decide +kernel
theorem dX10_readItem_67 : decode cX10_readItem 67 = .ok (.iadd, 1) := by decide +kernel
theorem dX10_readItem_68 : decode cX10_readItem 68 = .ok (.iload_n 3, 1) := by decide +kernel
theorem dX10_readItem_69 : decode cX10_readItem 69 = .ok (.iastore, 1) := by decide +kernel
theorem dX10_readItem_70 : decode cX10_readItem 70 = .ok (.iconst 1, 1) := by decide +kernel
theorem dX10_readItem_71 : decode cX10_readItem 71 = .ok (.istore 4, 2) := by decide +kernel
theorem dX10_readItem_73 : decode cX10_readItem 73 = .ok (.iload 4, 2) := by decide +kernel
theorem dX10_readItem_75 : decode cX10_readItem 75 = .ok (.iconst 4, 1) := by decide +kernel
theorem dX10_readItem_76 : decode cX10_readItem 76 = .ok (.if_icmp .gt 45, 3) := by decide +kernel
theorem dX10_readItem_79 : decode cX10_readItem 79 = .ok (.aload_n 0, 1) := by decide +kernel
theorem dX10_readItem_80 : decode cX10_readItem 80 = .ok (.getfield 156, 3) := by decide +kernel
theorem dX10_readItem_83 : decode cX10_readItem 83 = .ok (.ifCond .ne 38, 3) := by decide +kernel
theorem dX10_readItem_86 : decode cX10_readItem 86 = .ok (.aload_n 0, 1) := by decide +kernel
theorem dX10_readItem_87 : decode cX10_readItem 87 = .ok (.getfield 44, 3) := by decide +kernel
theorem dX10_readItem_90 : decode cX10_readItem 90 = .ok (.bipush 7, 2) := by decide +kernel
theorem dX10_readItem_92 : decode cX10_readItem 92 = .ok (.iload_n 1, 1) := by decide +kernel
theorem dX10_readItem_93 : decode cX10_readItem 93 = .ok (.imul, 1) := by decide +kernel
theorem dX10_readItem_94 : decode cX10_readItem 94 = .ok (.iload 4, 2) := by decide +kernel
theorem dX10_readItem_96 : decode cX10_readItem 96 = .ok (.iadd, 1) := by decide +kernel
theorem dX10_readItem_97 : decode cX10_readItem 97 = .ok (.aload_n 0, 1) := by decide +kernel
theorem dX10_readItem_98 : decode cX10_readItem 98 = .ok (.iload 4, 2) := by decide +kernel
theorem dX10_readItem_100 : decode cX10_readItem 100 = .ok (.iconst 4, 1) := by decide +kernel
theorem dX10_readItem_101 : decode cX10_readItem 101 = .ok (.if_icmp .ne 8, 3) := by decide +kernel
theorem dX10_readItem_104 : decode cX10_readItem 104 = .ok (.bipush 59, 2) := by decide +kernel
theorem dX10_readItem_106 : decode cX10_readItem 106 = .ok (.goto 5, 3) := by decide +kernel
theorem dX10_readItem_109 : decode cX10_readItem 109 = .ok (.bipush 44, 2) := by decide +kernel
theorem dX10_readItem_111 : decode cX10_readItem 111 = .ok (.invokevirtual 176, 3) := by decide +kernel
theorem dX10_readItem_114 : decode cX10_readItem 114 = .ok (.iastore, 1) := by decide +kernel
theorem dX10_readItem_115 : decode cX10_readItem 115 = .ok (.iinc 4 1, 3) := by decide +kernel
theorem dX10_readItem_118 : decode cX10_readItem 118 = .ok (.goto (-45), 3) := by decide +kernel
theorem dX10_readItem_121 : decode cX10_readItem 121 = .ok (.aload_n 0, 1) := by decide +kernel
theorem dX10_readItem_122 : decode cX10_readItem 122 = .ok (.getfield 156, 3) := by decide +kernel
theorem dX10_readItem_125 : decode cX10_readItem 125 = .ok (.ifCond .ne 64, 3) := by decide +kernel
theorem dX10_readItem_128 : decode cX10_readItem 128 = .ok (.aload_n 0, 1) := by decide +kernel
theorem dX10_readItem_129 : decode cX10_readItem 129 = .ok (.getfield 44, 3) := by decide +kernel
theorem dX10_readItem_132 : decode cX10_readItem 132 = .ok (.bipush 7, 2) := by decide +kernel
theorem dX10_readItem_134 : decode cX10_readItem 134 = .ok (.iload_n 1, 1) := by decide +kernel
theorem dX10_readItem_135 : decode cX10_readItem 135 = .ok (.imul, 1) := by decide +kernel
theorem dX10_readItem_136 : decode cX10_readItem 136 = .ok (.iconst 1, 1) := by decide +kernel
theorem dX10_readItem_137 : decode cX10_readItem 137 = .ok (.iadd, 1) := by decide +kernel
theorem dX10_readItem_138 : decode cX10_readItem 138 = .ok (.iaload, 1) := by decide +kernel
theorem dX10_readItem_139 : decode cX10_readItem 139 = .ok (.aload_n 0, 1) := by decide +kernel
theorem dX10_readItem_140 : decode cX10_readItem 140 = .ok (.getfield 44, 3) := by decide +kernel
theorem dX10_readItem_143 : decode cX10_readItem 143 = .ok (.bipush 7, 2) := by decide +kernel
theorem dX10_readItem_145 : decode cX10_readItem 145 = .ok (.iload_n 1, 1) := by decide +kernel
theorem dX10_readItem_146 : decode cX10_readItem 146 = .ok (.imul, 1) := by decide +kernel
theorem dX10_readItem_147 : decode cX10_readItem 147 = .ok (.iconst 3, 1) := by decide +kernel
theorem dX10_readItem_148 : decode cX10_readItem 148 = .ok (.iadd, 1) := by decide +kernel
theorem dX10_readItem_149 : decode cX10_readItem 149 = .ok (.iaload, 1) := by decide +kernel
theorem dX10_readItem_150 : decode cX10_readItem 150 = .ok (.if_icmp .ne 39, 3) := by decide +kernel
theorem dX10_readItem_153 : decode cX10_readItem 153 = .ok (.aload_n 0, 1) := by decide +kernel
theorem dX10_readItem_154 : decode cX10_readItem 154 = .ok (.getfield 44, 3) := by decide +kernel
theorem dX10_readItem_157 : decode cX10_readItem 157 = .ok (.bipush 7, 2) := by decide +kernel
theorem dX10_readItem_159 : decode cX10_readItem 159 = .ok (.iload_n 1, 1) := by decide +kernel
theorem dX10_readItem_160 : decode cX10_readItem 160 = .ok (.imul, 1) := by decide +kernel
theorem dX10_readItem_161 : decode cX10_readItem 161 = .ok (.iconst 2, 1) := by decide +kernel
theorem dX10_readItem_162 : decode cX10_readItem 162 = .ok (.iadd, 1) := by decide +kernel
theorem dX10_readItem_163 : decode cX10_readItem 163 = .ok (.iaload, 1) := by decide +kernel
theorem dX10_readItem_164 : decode cX10_readItem 164 = .ok (.aload_n 0, 1) := by decide +kernel
theorem dX10_readItem_165 : decode cX10_readItem 165 = .ok (.getfield 44, 3) := by decide +kernel
theorem dX10_readItem_168 : decode cX10_readItem 168 = .ok (.bipush 7, 2) := by decide +kernel
theorem dX10_readItem_170 : decode cX10_readItem 170 = .ok (.iload_n 1, 1) := by decide +kernel
theorem dX10_readItem_171 : decode cX10_readItem 171 = .ok (.imul, 1) := by decide +kernel
theorem dX10_readItem_172 : decode cX10_readItem 172 = .ok (.iconst 4, 1) := by decide +kernel
theorem dX10_readItem_173 : decode cX10_readItem 173 = .ok (.iadd, 1) := by decide +kernel
theorem dX10_readItem_174 : decode cX10_readItem 174 = .ok (.iaload, 1) := by decide +kernel
theorem dX10_readItem_175 : decode cX10_readItem 175 = .ok (.if_icmp .ne 14, 3) := by decide +kernel
theorem dX10_readItem_178 : decode cX10_readItem 178 = .ok (.aload_n 0, 1) := by decide +kernel
theorem dX10_readItem_179 : decode cX10_readItem 179 = .ok (.iconst 3, 1) := by decide +kernel
theorem dX10_readItem_180 : decode cX10_readItem 180 = .ok (.aload_n 0, 1) := by decide +kernel
theorem dX10_readItem_181 : decode cX10_readItem 181 = .ok (.getfield 153, 3) := by decide +kernel
theorem dX10_readItem_184 : decode cX10_readItem 184 = .ok (.iconst 1, 1) := by decide +kernel
theorem dX10_readItem_185 : decode cX10_readItem 185 = .ok (.isub, 1) := by decide +kernel
theorem dX10_readItem_186 : decode cX10_readItem 186 = .ok (.invokevirtual 169, 3) := by decide +kernel
theorem dX10_readItem_189 : decode cX10_readItem 189 = .ok (.return_, 1) := by decide +kernel
theorem dX10_load_0 : decode cX10_load 0 = .ok (.aload_n 0, 1) := by decide +kernel
theorem dX10_load_1 : decode cX10_load 1 = .ok (.invokevirtual 180, 3) := by decide +kernel
theorem dX10_load_4 : decode cX10_load 4 = .ok (.istore_n 1, 1) := by decide +kernel
theorem dX10_load_5 : decode cX10_load 5 = .ok (.aload_n 0, 1) := by decide +kernel
theorem dX10_load_6 : decode cX10_load 6 = .ok (.getfield 156, 3) := by decide +kernel
theorem dX10_load_9 : decode cX10_load 9 = .ok (.ifCond .le 27, 3) := by decide +kernel
theorem dX10_load_12 : decode cX10_load 12 = .ok (.aload_n 0, 1) := by decide +kernel
theorem dX10_load_13 : decode cX10_load 13 = .ok (.aload_n 0, 1) := by decide +kernel
theorem dX10_load_14 : decode cX10_load 14 = .ok (.getfield 159, 3) := by decide +kernel
theorem dX10_load_17 : decode cX10_load 17 = .ok (.putfield 26, 3) := by decide +kernel
theorem dX10_load_20 : decode cX10_load 20 = .ok (.aload_n 0, 1) := by decide +kernel
theorem dX10_load_21 : decode cX10_load 21 = .ok (.aload_n 0, 1) := by decide +kernel
theorem dX10_load_22 : decode cX10_load 22 = .ok (.getfield 156, 3) := by decide +kernel
theorem dX10_load_25 : decode cX10_load 25 = .ok (.putfield 29, 3) := by decide +kernel
theorem dX10_load_28 : decode cX10_load 28 = .ok (.aload_n 0, 1) := by decide +kernel
theorem dX10_load_29 : decode cX10_load 29 = .ok (.iload_n 1, 1) := by decide +kernel
theorem dX10_load_30 : decode cX10_load 30 = .ok (.putfield 32, 3) := by decide +kernel
theorem dX10_load_33 : decode cX10_load 33 = .ok (.bipush (-9), 2) := by decide +kernel
theorem dX10_load_35 : decode cX10_load 35 = .ok (.ireturn, 1) := by decide +kernel
theorem dX10_load_36 : decode cX10_load 36 = .ok (.aload_n 0, 1) := by decide +kernel
theorem dX10_load_37 : decode cX10_load 37 = .ok (.invokevirtual 133, 3) := by decide +kernel
theorem dX10_load_40 : decode cX10_load 40 = .ok (.iconst 0, 1) := by decide +kernel
theorem dX10_load_41 : decode cX10_load 41 = .ok (.istore_n 2, 1) := by decide +kernel
theorem dX10_load_42 : decode cX10_load 42 = .ok (.iload_n 2, 1) := by decide +kernel
theorem dX10_load_43 : decode cX10_load 43 = .ok (.bipush 84, 2) := by decide +kernel
theorem dX10_load_45 : decode cX10_load 45 = .ok (.if_icmp .ge 33, 3) := by decide +kernel
theorem dX10_load_48 : decode cX10_load 48 = .ok (.aload_n 0, 1) := by decide +kernel
theorem dX10_load_49 : decode cX10_load 49 = .ok (.getfield 7, 3) := by decide +kernel
theorem dX10_load_52 : decode cX10_load 52 = .ok (.iload_n 2, 1) := by decide +kernel
theorem dX10_load_53 : decode cX10_load 53 = .ok (.iload_n 2, 1) := by decide +kernel
theorem dX10_load_54 : decode cX10_load 54 = .ok (.bipush 7, 2) := by decide +kernel
theorem dX10_load_56 : decode cX10_load 56 = .ok (.iload_n 1, 1) := by decide +kernel
theorem dX10_load_57 : decode cX10_load 57 = .ok (.imul, 1) := by decide +kernel
theorem dX10_load_58 : decode cX10_load 58 = .ok (.if_icmp .ge 12, 3) := by decide +kernel
theorem dX10_load_61 : decode cX10_load 61 = .ok (.aload_n 0, 1) := by decide +kernel
theorem dX10_load_62 : decode cX10_load 62 = .ok (.getfield 44, 3) := by decide +kernel
theorem dX10_load_65 : decode cX10_load 65 = .ok (.iload_n 2, 1) := by decide +kernel
theorem dX10_load_66 : decode cX10_load 66 = .ok (.iaload, 1) := by decide +kernel
theorem dX10_load_67 : decode cX10_load 67 = .ok (.goto 4, 3) := by decide +kernel
theorem dX10_load_70 : decode cX10_load 70 = .ok (.iconst 0, 1) := by decide +kernel
theorem dX10_load_71 : decode cX10_load 71 = .ok (.iastore, 1) := by decide +kernel
theorem dX10_load_72 : decode cX10_load 72 = .ok (.iinc 2 1, 3) := by decide +kernel
theorem dX10_load_75 : decode cX10_load 75 = .ok (.goto (-33), 3) := by decide +kernel
theorem dX10_load_78 : decode cX10_load 78 = .ok (.iload_n 1, 1) := by decide +kernel
theorem dX10_load_79 : decode cX10_load 79 = .ok (.ireturn, 1) := by decide +kernel
theorem dX10_faultPlace_0 : decode cX10_faultPlace 0 = .ok (.aload_n 0, 1) := by decide +kernel
theorem dX10_faultPlace_1 : decode cX10_faultPlace 1 = .ok (.getfield 26, 3) := by decide +kernel
theorem dX10_faultPlace_4 : decode cX10_faultPlace 4 = .ok (.ireturn, 1) := by decide +kernel
theorem dX10_faultKind_0 : decode cX10_faultKind 0 = .ok (.aload_n 0, 1) := by decide +kernel
theorem dX10_faultKind_1 : decode cX10_faultKind 1 = .ok (.getfield 29, 3) := by decide +kernel
theorem dX10_faultKind_4 : decode cX10_faultKind 4 = .ok (.ireturn, 1) := by decide +kernel
theorem dX10_faultItem_0 : decode cX10_faultItem 0 = .ok (.aload_n 0, 1) := by decide +kernel
theorem dX10_faultItem_1 : decode cX10_faultItem 1 = .ok (.getfield 32, 3) := by decide +kernel
theorem dX10_faultItem_4 : decode cX10_faultItem 4 = .ok (.ireturn, 1) := by decide +kernel
theorem dX10_side_0 : decode cX10_side 0 = .ok (.aload_n 0, 1) := by decide +kernel
theorem dX10_side_1 : decode cX10_side 1 = .ok (.iload_n 1, 1) := by decide +kernel
theorem dX10_side_2 : decode cX10_side 2 = .ok (.iconst 3, 1) := by decide +kernel
theorem dX10_side_3 : decode cX10_side 3 = .ok (.invokevirtual 129, 3) := by decide +kernel
theorem dX10_side_6 : decode cX10_side 6 = .ok (.aload_n 0, 1) := by decide +kernel
theorem dX10_side_7 : decode cX10_side 7 = .ok (.iload_n 1, 1) := by decide +kernel
theorem dX10_side_8 : decode cX10_side 8 = .ok (.iconst 1, 1) := by decide +kernel
theorem dX10_side_9 : decode cX10_side 9 = .ok (.invokevirtual 129, 3) := by decide +kernel
theorem dX10_side_12 : decode cX10_side 12 = .ok (.isub, 1) := by decide +kernel
theorem dX10_side_13 : decode cX10_side 13 = .ok (.iload_n 3, 1) := by decide +kernel
theorem dX10_side_14 : decode cX10_side 14 = .ok (.aload_n 0, 1) := by decide +kernel
theorem dX10_side_15 : decode cX10_side 15 = .ok (.iload_n 1, 1) := by decide +kernel
theorem dX10_side_16 : decode cX10_side 16 = .ok (.iconst 2, 1) := by decide +kernel
theorem dX10_side_17 : decode cX10_side 17 = .ok (.invokevirtual 129, 3) := by decide +kernel
theorem dX10_side_20 : decode cX10_side 20 = .ok (.isub, 1) := by decide +kernel
theorem dX10_side_21 : decode cX10_side 21 = .ok (.imul, 1) := by decide +kernel
theorem dX10_side_22 : decode cX10_side 22 = .ok (.aload_n 0, 1) := by decide +kernel
theorem dX10_side_23 : decode cX10_side 23 = .ok (.iload_n 1, 1) := by decide +kernel
theorem dX10_side_24 : decode cX10_side 24 = .ok (.iconst 4, 1) := by decide +kernel
theorem dX10_side_25 : decode cX10_side 25 = .ok (.invokevirtual 129, 3) := by decide +kernel
theorem dX10_side_28 : decode cX10_side 28 = .ok (.aload_n 0, 1) := by decide +kernel
theorem dX10_side_29 : decode cX10_side 29 = .ok (.iload_n 1, 1) := by decide +kernel
theorem dX10_side_30 : decode cX10_side 30 = .ok (.iconst 2, 1) := by decide +kernel
theorem dX10_side_31 : decode cX10_side 31 = .ok (.invokevirtual 129, 3) := by decide +kernel
theorem dX10_side_34 : decode cX10_side 34 = .ok (.isub, 1) := by decide +kernel
theorem dX10_side_35 : decode cX10_side 35 = .ok (.iload_n 2, 1) := by decide +kernel
theorem dX10_side_36 : decode cX10_side 36 = .ok (.aload_n 0, 1) := by decide +kernel
theorem dX10_side_37 : decode cX10_side 37 = .ok (.iload_n 1, 1) := by decide +kernel
theorem dX10_side_38 : decode cX10_side 38 = .ok (.iconst 1, 1) := by decide +kernel
theorem dX10_side_39 : decode cX10_side 39 = .ok (.invokevirtual 129, 3) := by decide +kernel
theorem dX10_side_42 : decode cX10_side 42 = .ok (.isub, 1) := by decide +kernel
theorem dX10_side_43 : decode cX10_side 43 = .ok (.imul, 1) := by decide +kernel
theorem dX10_side_44 : decode cX10_side 44 = .ok (.isub, 1) := by decide +kernel
theorem dX10_side_45 : decode cX10_side 45 = .ok (.ireturn, 1) := by decide +kernel
theorem dX10_startSide_0 : decode cX10_startSide 0 = .ok (.aload_n 0, 1) := by decide +kernel
theorem dX10_startSide_1 : decode cX10_startSide 1 = .ok (.iload_n 1, 1) := by decide +kernel
theorem dX10_startSide_2 : decode cX10_startSide 2 = .ok (.aload_n 0, 1) := by decide +kernel
theorem dX10_startSide_3 : decode cX10_startSide 3 = .ok (.iload_n 2, 1) := by decide +kernel
theorem dX10_startSide_4 : decode cX10_startSide 4 = .ok (.iconst 1, 1) := by decide +kernel
theorem dX10_startSide_5 : decode cX10_startSide 5 = .ok (.invokevirtual 129, 3) := by decide +kernel
theorem dX10_startSide_8 : decode cX10_startSide 8 = .ok (.aload_n 0, 1) := by decide +kernel
theorem dX10_startSide_9 : decode cX10_startSide 9 = .ok (.iload_n 2, 1) := by decide +kernel
theorem dX10_startSide_10 : decode cX10_startSide 10 = .ok (.iconst 2, 1) := by decide +kernel
theorem dX10_startSide_11 : decode cX10_startSide 11 = .ok (.invokevirtual 129, 3) := by decide +kernel
theorem dX10_startSide_14 : decode cX10_startSide 14 = .ok (.invokevirtual 183, 3) := by decide +kernel
theorem dX10_startSide_17 : decode cX10_startSide 17 = .ok (.ireturn, 1) := by decide +kernel
theorem dX10_endSide_0 : decode cX10_endSide 0 = .ok (.aload_n 0, 1) := by decide +kernel
theorem dX10_endSide_1 : decode cX10_endSide 1 = .ok (.iload_n 1, 1) := by decide +kernel
theorem dX10_endSide_2 : decode cX10_endSide 2 = .ok (.aload_n 0, 1) := by decide +kernel
theorem dX10_endSide_3 : decode cX10_endSide 3 = .ok (.iload_n 2, 1) := by decide +kernel
theorem dX10_endSide_4 : decode cX10_endSide 4 = .ok (.iconst 3, 1) := by decide +kernel
theorem dX10_endSide_5 : decode cX10_endSide 5 = .ok (.invokevirtual 129, 3) := by decide +kernel
theorem dX10_endSide_8 : decode cX10_endSide 8 = .ok (.aload_n 0, 1) := by decide +kernel
theorem dX10_endSide_9 : decode cX10_endSide 9 = .ok (.iload_n 2, 1) := by decide +kernel
theorem dX10_endSide_10 : decode cX10_endSide 10 = .ok (.iconst 4, 1) := by decide +kernel
theorem dX10_endSide_11 : decode cX10_endSide 11 = .ok (.invokevirtual 129, 3) := by decide +kernel
theorem dX10_endSide_14 : decode cX10_endSide 14 = .ok (.invokevirtual 183, 3) := by decide +kernel
theorem dX10_endSide_17 : decode cX10_endSide 17 = .ok (.ireturn, 1) := by decide +kernel
theorem dX10_signAt_0 : decode cX10_signAt 0 = .ok (.aload_n 0, 1) := by decide +kernel
theorem dX10_signAt_1 : decode cX10_signAt 1 = .ok (.iload_n 1, 1) := by decide +kernel
theorem dX10_signAt_2 : decode cX10_signAt 2 = .ok (.iload_n 2, 1) := by decide +kernel
theorem dX10_signAt_3 : decode cX10_signAt 3 = .ok (.invokevirtual 187, 3) := by decide +kernel
theorem dX10_signAt_6 : decode cX10_signAt 6 = .ok (.i2l, 1) := by decide +kernel
theorem dX10_signAt_7 : decode cX10_signAt 7 = .ok (.lstore 5, 2) := by decide +kernel
theorem dX10_signAt_9 : decode cX10_signAt 9 = .ok (.aload_n 0, 1) := by decide +kernel
theorem dX10_signAt_10 : decode cX10_signAt 10 = .ok (.iload_n 1, 1) := by decide +kernel
theorem dX10_signAt_11 : decode cX10_signAt 11 = .ok (.iload_n 2, 1) := by decide +kernel
theorem dX10_signAt_12 : decode cX10_signAt 12 = .ok (.invokevirtual 190, 3) := by decide +kernel
theorem dX10_signAt_15 : decode cX10_signAt 15 = .ok (.i2l, 1) := by decide +kernel
theorem dX10_signAt_16 : decode cX10_signAt 16 = .ok (.lstore 7, 2) := by decide +kernel
theorem dX10_signAt_18 : decode cX10_signAt 18 = .ok (.lload 5, 2) := by decide +kernel
theorem dX10_signAt_20 : decode cX10_signAt 20 = .ok (.iload 4, 2) := by decide +kernel
theorem dX10_signAt_22 : decode cX10_signAt 22 = .ok (.i2l, 1) := by decide +kernel
theorem dX10_signAt_23 : decode cX10_signAt 23 = .ok (.lmul, 1) := by decide +kernel
theorem dX10_signAt_24 : decode cX10_signAt 24 = .ok (.iload_n 3, 1) := by decide +kernel
theorem dX10_signAt_25 : decode cX10_signAt 25 = .ok (.i2l, 1) := by decide +kernel
theorem dX10_signAt_26 : decode cX10_signAt 26 = .ok (.lload 7, 2) := by decide +kernel
theorem dX10_signAt_28 : decode cX10_signAt 28 = .ok (.lload 5, 2) := by decide +kernel
theorem dX10_signAt_30 : decode cX10_signAt 30 = .ok (.lsub, 1) := by decide +kernel
theorem dX10_signAt_31 : decode cX10_signAt 31 = .ok (.lmul, 1) := by decide +kernel
theorem dX10_signAt_32 : decode cX10_signAt 32 = .ok (.ladd, 1) := by decide +kernel
theorem dX10_signAt_33 : decode cX10_signAt 33 = .ok (.lstore 9, 2) := by decide +kernel
theorem dX10_signAt_35 : decode cX10_signAt 35 = .ok (.lload 9, 2) := by decide +kernel
theorem dX10_signAt_37 : decode cX10_signAt 37 = .ok (.lconst 0, 1) := by decide +kernel
theorem dX10_signAt_38 : decode cX10_signAt 38 = .ok (.lcmp, 1) := by decide +kernel
theorem dX10_signAt_39 : decode cX10_signAt 39 = .ok (.ifCond .le 7, 3) := by decide +kernel
theorem dX10_signAt_42 : decode cX10_signAt 42 = .ok (.iconst 1, 1) := by decide +kernel
theorem dX10_signAt_43 : decode cX10_signAt 43 = .ok (.goto 15, 3) := by decide +kernel
theorem dX10_signAt_46 : decode cX10_signAt 46 = .ok (.lload 9, 2) := by decide +kernel
theorem dX10_signAt_48 : decode cX10_signAt 48 = .ok (.lconst 0, 1) := by decide +kernel
theorem dX10_signAt_49 : decode cX10_signAt 49 = .ok (.lcmp, 1) := by decide +kernel
theorem dX10_signAt_50 : decode cX10_signAt 50 = .ok (.ifCond .ge 7, 3) := by decide +kernel
theorem dX10_signAt_53 : decode cX10_signAt 53 = .ok (.iconst (-1), 1) := by decide +kernel
theorem dX10_signAt_54 : decode cX10_signAt 54 = .ok (.goto 4, 3) := by decide +kernel
theorem dX10_signAt_57 : decode cX10_signAt 57 = .ok (.iconst 0, 1) := by decide +kernel
theorem dX10_signAt_58 : decode cX10_signAt 58 = .ok (.ireturn, 1) := by decide +kernel
theorem dX10_relation_0 : decode cX10_relation 0 = .ok (.aload_n 0, 1) := by decide +kernel
theorem dX10_relation_1 : decode cX10_relation 1 = .ok (.iload_n 1, 1) := by decide +kernel
theorem dX10_relation_2 : decode cX10_relation 2 = .ok (.iload_n 2, 1) := by decide +kernel
theorem dX10_relation_3 : decode cX10_relation 3 = .ok (.iload_n 3, 1) := by decide +kernel
theorem dX10_relation_4 : decode cX10_relation 4 = .ok (.iload 4, 2) := by decide +kernel
theorem dX10_relation_6 : decode cX10_relation 6 = .ok (.invokevirtual 193, 3) := by decide +kernel
theorem dX10_relation_9 : decode cX10_relation 9 = .ok (.istore 7, 2) := by decide +kernel
theorem dX10_relation_11 : decode cX10_relation 11 = .ok (.aload_n 0, 1) := by decide +kernel
theorem dX10_relation_12 : decode cX10_relation 12 = .ok (.iload_n 1, 1) := by decide +kernel
theorem dX10_relation_13 : decode cX10_relation 13 = .ok (.iload_n 2, 1) := by decide +kernel
theorem dX10_relation_14 : decode cX10_relation 14 = .ok (.iload 5, 2) := by decide +kernel
theorem dX10_relation_16 : decode cX10_relation 16 = .ok (.iload 6, 2) := by decide +kernel
theorem dX10_relation_18 : decode cX10_relation 18 = .ok (.invokevirtual 193, 3) := by decide +kernel
theorem dX10_relation_21 : decode cX10_relation 21 = .ok (.istore 8, 2) := by decide +kernel
theorem dX10_relation_23 : decode cX10_relation 23 = .ok (.iload 7, 2) := by decide +kernel
theorem dX10_relation_25 : decode cX10_relation 25 = .ok (.ifCond .ne 10, 3) := by decide +kernel
theorem dX10_relation_28 : decode cX10_relation 28 = .ok (.iload 8, 2) := by decide +kernel
theorem dX10_relation_30 : decode cX10_relation 30 = .ok (.ifCond .ne 5, 3) := by decide +kernel
theorem dX10_relation_33 : decode cX10_relation 33 = .ok (.iconst 0, 1) := by decide +kernel
theorem dX10_relation_34 : decode cX10_relation 34 = .ok (.ireturn, 1) := by decide +kernel
theorem dX10_relation_35 : decode cX10_relation 35 = .ok (.iload 7, 2) := by decide +kernel
theorem dX10_relation_37 : decode cX10_relation 37 = .ok (.ifCond .lt 10, 3) := by decide +kernel
theorem dX10_relation_40 : decode cX10_relation 40 = .ok (.iload 8, 2) := by decide +kernel
theorem dX10_relation_42 : decode cX10_relation 42 = .ok (.ifCond .lt 5, 3) := by decide +kernel
theorem dX10_relation_45 : decode cX10_relation 45 = .ok (.iconst 1, 1) := by decide +kernel
theorem dX10_relation_46 : decode cX10_relation 46 = .ok (.ireturn, 1) := by decide +kernel
theorem dX10_relation_47 : decode cX10_relation 47 = .ok (.iload 7, 2) := by decide +kernel
theorem dX10_relation_49 : decode cX10_relation 49 = .ok (.ifCond .gt 12, 3) := by decide +kernel
theorem dX10_relation_52 : decode cX10_relation 52 = .ok (.iload 8, 2) := by decide +kernel
theorem dX10_relation_54 : decode cX10_relation 54 = .ok (.ifCond .gt 7, 3) := by decide +kernel
theorem dX10_relation_57 : decode cX10_relation 57 = .ok (.iconst (-1), 1) := by decide +kernel
theorem dX10_relation_58 : decode cX10_relation 58 = .ok (.goto 4, 3) := by decide +kernel
theorem dX10_relation_61 : decode cX10_relation 61 = .ok (.iconst 2, 1) := by decide +kernel
theorem dX10_relation_62 : decode cX10_relation 62 = .ok (.ireturn, 1) := by decide +kernel
theorem dX10_divisor_0 : decode cX10_divisor 0 = .ok (.iload_n 0, 1) := by decide +kernel
theorem dX10_divisor_1 : decode cX10_divisor 1 = .ok (.ifCond .ge 8, 3) := by decide +kernel
theorem dX10_divisor_4 : decode cX10_divisor 4 = .ok (.iload_n 0, 1) := by decide +kernel
theorem dX10_divisor_5 : decode cX10_divisor 5 = .ok (.ineg, 1) := by decide +kernel
theorem dX10_divisor_6 : decode cX10_divisor 6 = .ok (.goto 4, 3) := by decide +kernel
theorem dX10_divisor_9 : decode cX10_divisor 9 = .ok (.iload_n 0, 1) := by decide +kernel
theorem dX10_divisor_10 : decode cX10_divisor 10 = .ok (.istore_n 2, 1) := by decide +kernel
theorem dX10_divisor_11 : decode cX10_divisor 11 = .ok (.iload_n 1, 1) := by decide +kernel
theorem dX10_divisor_12 : decode cX10_divisor 12 = .ok (.ifCond .ge 8, 3) := by decide +kernel
theorem dX10_divisor_15 : decode cX10_divisor 15 = .ok (.iload_n 1, 1) := by decide +kernel
theorem dX10_divisor_16 : decode cX10_divisor 16 = .ok (.ineg, 1) := by decide +kernel
theorem dX10_divisor_17 : decode cX10_divisor 17 = .ok (.goto 4, 3) := by decide +kernel
theorem dX10_divisor_20 : decode cX10_divisor 20 = .ok (.iload_n 1, 1) := by decide +kernel
theorem dX10_divisor_21 : decode cX10_divisor 21 = .ok (.istore_n 3, 1) := by decide +kernel
theorem dX10_divisor_22 : decode cX10_divisor 22 = .ok (.iload_n 3, 1) := by decide +kernel
theorem dX10_divisor_23 : decode cX10_divisor 23 = .ok (.ifCond .eq 16, 3) := by decide +kernel
theorem dX10_divisor_26 : decode cX10_divisor 26 = .ok (.iload_n 2, 1) := by decide +kernel
theorem dX10_divisor_27 : decode cX10_divisor 27 = .ok (.iload_n 3, 1) := by decide +kernel
theorem dX10_divisor_28 : decode cX10_divisor 28 = .ok (.irem, 1) := by decide +kernel
theorem dX10_divisor_29 : decode cX10_divisor 29 = .ok (.istore 4, 2) := by decide +kernel
theorem dX10_divisor_31 : decode cX10_divisor 31 = .ok (.iload_n 3, 1) := by decide +kernel
theorem dX10_divisor_32 : decode cX10_divisor 32 = .ok (.istore_n 2, 1) := by decide +kernel
theorem dX10_divisor_33 : decode cX10_divisor 33 = .ok (.iload 4, 2) := by decide +kernel
theorem dX10_divisor_35 : decode cX10_divisor 35 = .ok (.istore_n 3, 1) := by decide +kernel
theorem dX10_divisor_36 : decode cX10_divisor 36 = .ok (.goto (-14), 3) := by decide +kernel
theorem dX10_divisor_39 : decode cX10_divisor 39 = .ok (.iload_n 2, 1) := by decide +kernel
theorem dX10_divisor_40 : decode cX10_divisor 40 = .ok (.ireturn, 1) := by decide +kernel
theorem dX10_cut_0 : decode cX10_cut 0 = .ok (.aload_n 0, 1) := by decide +kernel
theorem dX10_cut_1 : decode cX10_cut 1 = .ok (.iload_n 1, 1) := by decide +kernel
theorem dX10_cut_2 : decode cX10_cut 2 = .ok (.iload_n 2, 1) := by decide +kernel
theorem dX10_cut_3 : decode cX10_cut 3 = .ok (.invokevirtual 187, 3) := by decide +kernel
theorem dX10_cut_6 : decode cX10_cut 6 = .ok (.istore_n 3, 1) := by decide +kernel
theorem dX10_cut_7 : decode cX10_cut 7 = .ok (.iload_n 3, 1) := by decide +kernel
theorem dX10_cut_8 : decode cX10_cut 8 = .ok (.aload_n 0, 1) := by decide +kernel
theorem dX10_cut_9 : decode cX10_cut 9 = .ok (.iload_n 1, 1) := by decide +kernel
theorem dX10_cut_10 : decode cX10_cut 10 = .ok (.iload_n 2, 1) := by decide +kernel
theorem dX10_cut_11 : decode cX10_cut 11 = .ok (.invokevirtual 190, 3) := by decide +kernel
theorem dX10_cut_14 : decode cX10_cut 14 = .ok (.isub, 1) := by decide +kernel
theorem dX10_cut_15 : decode cX10_cut 15 = .ok (.istore 4, 2) := by decide +kernel
theorem dX10_cut_17 : decode cX10_cut 17 = .ok (.iload_n 3, 1) := by decide +kernel
theorem dX10_cut_18 : decode cX10_cut 18 = .ok (.iload 4, 2) := by decide +kernel
theorem dX10_cut_20 : decode cX10_cut 20 = .ok (.invokestatic 197, 3) := by decide +kernel
theorem dX10_cut_23 : decode cX10_cut 23 = .ok (.istore 5, 2) := by decide +kernel
theorem dX10_cut_25 : decode cX10_cut 25 = .ok (.aload_n 0, 1) := by decide +kernel
theorem dX10_cut_26 : decode cX10_cut 26 = .ok (.iload 4, 2) := by decide +kernel
theorem dX10_cut_28 : decode cX10_cut 28 = .ok (.ifCond .ge 8, 3) := by decide +kernel
theorem dX10_cut_31 : decode cX10_cut 31 = .ok (.iload_n 3, 1) := by decide +kernel
theorem dX10_cut_32 : decode cX10_cut 32 = .ok (.ineg, 1) := by decide +kernel
theorem dX10_cut_33 : decode cX10_cut 33 = .ok (.goto 4, 3) := by decide +kernel
theorem dX10_cut_36 : decode cX10_cut 36 = .ok (.iload_n 3, 1) := by decide +kernel
theorem dX10_cut_37 : decode cX10_cut 37 = .ok (.iload 5, 2) := by decide +kernel
theorem dX10_cut_39 : decode cX10_cut 39 = .ok (.idiv, 1) := by decide +kernel
theorem dX10_cut_40 : decode cX10_cut 40 = .ok (.putfield 200, 3) := by decide +kernel
theorem dX10_cut_43 : decode cX10_cut 43 = .ok (.aload_n 0, 1) := by decide +kernel
theorem dX10_cut_44 : decode cX10_cut 44 = .ok (.iload 4, 2) := by decide +kernel
theorem dX10_cut_46 : decode cX10_cut 46 = .ok (.ifCond .ge 9, 3) := by decide +kernel
theorem dX10_cut_49 : decode cX10_cut 49 = .ok (.iload 4, 2) := by decide +kernel
theorem dX10_cut_51 : decode cX10_cut 51 = .ok (.ineg, 1) := by decide +kernel
theorem dX10_cut_52 : decode cX10_cut 52 = .ok (.goto 5, 3) := by decide +kernel
theorem dX10_cut_55 : decode cX10_cut 55 = .ok (.iload 4, 2) := by decide +kernel
theorem dX10_cut_57 : decode cX10_cut 57 = .ok (.iload 5, 2) := by decide +kernel
theorem dX10_cut_59 : decode cX10_cut 59 = .ok (.idiv, 1) := by decide +kernel
theorem dX10_cut_60 : decode cX10_cut 60 = .ok (.putfield 203, 3) := by decide +kernel
theorem dX10_cut_63 : decode cX10_cut 63 = .ok (.return_, 1) := by decide +kernel
theorem dX10_addPiece_0 : decode cX10_addPiece 0 = .ok (.aload_n 0, 1) := by decide +kernel
theorem dX10_addPiece_1 : decode cX10_addPiece 1 = .ok (.getfield 62, 3) := by decide +kernel
theorem dX10_addPiece_4 : decode cX10_addPiece 4 = .ok (.aload_n 0, 1) := by decide +kernel
theorem dX10_addPiece_5 : decode cX10_addPiece 5 = .ok (.getfield 206, 3) := by decide +kernel
theorem dX10_addPiece_8 : decode cX10_addPiece 8 = .ok (.iload_n 2, 1) := by decide +kernel
theorem dX10_addPiece_9 : decode cX10_addPiece 9 = .ok (.iastore, 1) := by decide +kernel
theorem dX10_addPiece_10 : decode cX10_addPiece 10 = .ok (.aload_n 0, 1) := by decide +kernel
theorem dX10_addPiece_11 : decode cX10_addPiece 11 = .ok (.getfield 65, 3) := by decide +kernel
theorem dX10_addPiece_14 : decode cX10_addPiece 14 = .ok (.aload_n 0, 1) := by decide +kernel
theorem dX10_addPiece_15 : decode cX10_addPiece 15 = .ok (.getfield 206, 3) := by decide +kernel
theorem dX10_addPiece_18 : decode cX10_addPiece 18 = .ok (.iload_n 1, 1) := by decide +kernel
theorem dX10_addPiece_19 : decode cX10_addPiece 19 = .ok (.iastore, 1) := by decide +kernel
theorem dX10_addPiece_20 : decode cX10_addPiece 20 = .ok (.aload_n 0, 1) := by decide +kernel
theorem dX10_addPiece_21 : decode cX10_addPiece 21 = .ok (.getfield 68, 3) := by decide +kernel
theorem dX10_addPiece_24 : decode cX10_addPiece 24 = .ok (.iconst 4, 1) := by decide +kernel
theorem dX10_addPiece_25 : decode cX10_addPiece 25 = .ok (.aload_n 0, 1) := by decide +kernel
theorem dX10_addPiece_26 : decode cX10_addPiece 26 = .ok (.getfield 206, 3) := by decide +kernel
theorem dX10_addPiece_29 : decode cX10_addPiece 29 = .ok (.imul, 1) := by decide +kernel
theorem dX10_addPiece_30 : decode cX10_addPiece 30 = .ok (.iload_n 3, 1) := by decide +kernel
theorem dX10_addPiece_31 : decode cX10_addPiece 31 = .ok (.iastore, 1) := by decide +kernel
theorem dX10_addPiece_32 : decode cX10_addPiece 32 = .ok (.aload_n 0, 1) := by decide +kernel
theorem dX10_addPiece_33 : decode cX10_addPiece 33 = .ok (.getfield 68, 3) := by decide +kernel
theorem dX10_addPiece_36 : decode cX10_addPiece 36 = .ok (.iconst 4, 1) := by decide +kernel
theorem dX10_addPiece_37 : decode cX10_addPiece 37 = .ok (.aload_n 0, 1) := by decide +kernel
theorem dX10_addPiece_38 : decode cX10_addPiece 38 = .ok (.getfield 206, 3) := by decide +kernel
theorem dX10_addPiece_41 : decode cX10_addPiece 41 = .ok (.imul, 1) := by decide +kernel
theorem dX10_addPiece_42 : decode cX10_addPiece 42 = .ok (.iconst 1, 1) := by decide +kernel
theorem dX10_addPiece_43 : decode cX10_addPiece 43 = .ok (.iadd, 1) := by decide +kernel
theorem dX10_addPiece_44 : decode cX10_addPiece 44 = .ok (.iload 4, 2) := by decide +kernel
theorem dX10_addPiece_46 : decode cX10_addPiece 46 = .ok (.iastore, 1) := by decide +kernel
theorem dX10_addPiece_47 : decode cX10_addPiece 47 = .ok (.aload_n 0, 1) := by decide +kernel
theorem dX10_addPiece_48 : decode cX10_addPiece 48 = .ok (.getfield 68, 3) := by decide +kernel
theorem dX10_addPiece_51 : decode cX10_addPiece 51 = .ok (.iconst 4, 1) := by decide +kernel
theorem dX10_addPiece_52 : decode cX10_addPiece 52 = .ok (.aload_n 0, 1) := by decide +kernel
theorem dX10_addPiece_53 : decode cX10_addPiece 53 = .ok (.getfield 206, 3) := by decide +kernel
theorem dX10_addPiece_56 : decode cX10_addPiece 56 = .ok (.imul, 1) := by decide +kernel
theorem dX10_addPiece_57 : decode cX10_addPiece 57 = .ok (.iconst 2, 1) := by decide +kernel
theorem dX10_addPiece_58 : decode cX10_addPiece 58 = .ok (.iadd, 1) := by decide +kernel
theorem dX10_addPiece_59 : decode cX10_addPiece 59 = .ok (.iload 5, 2) := by decide +kernel
theorem dX10_addPiece_61 : decode cX10_addPiece 61 = .ok (.iastore, 1) := by decide +kernel
theorem dX10_addPiece_62 : decode cX10_addPiece 62 = .ok (.aload_n 0, 1) := by decide +kernel
theorem dX10_addPiece_63 : decode cX10_addPiece 63 = .ok (.getfield 68, 3) := by decide +kernel
theorem dX10_addPiece_66 : decode cX10_addPiece 66 = .ok (.iconst 4, 1) := by decide +kernel
theorem dX10_addPiece_67 : decode cX10_addPiece 67 = .ok (.aload_n 0, 1) := by decide +kernel
theorem dX10_addPiece_68 : decode cX10_addPiece 68 = .ok (.getfield 206, 3) := by decide +kernel
theorem dX10_addPiece_71 : decode cX10_addPiece 71 = .ok (.imul, 1) := by decide +kernel
theorem dX10_addPiece_72 : decode cX10_addPiece 72 = .ok (.iconst 3, 1) := by decide +kernel
theorem dX10_addPiece_73 : decode cX10_addPiece 73 = .ok (.iadd, 1) := by decide +kernel
theorem dX10_addPiece_74 : decode cX10_addPiece 74 = .ok (.iload 6, 2) := by decide +kernel
theorem dX10_addPiece_76 : decode cX10_addPiece 76 = .ok (.iastore, 1) := by decide +kernel
theorem dX10_addPiece_77 : decode cX10_addPiece 77 = .ok (.aload_n 0, 1) := by decide +kernel
theorem dX10_addPiece_78 : decode cX10_addPiece 78 = .ok (.getfield 71, 3) := by decide +kernel
theorem dX10_addPiece_81 : decode cX10_addPiece 81 = .ok (.aload_n 0, 1) := by decide +kernel
theorem dX10_addPiece_82 : decode cX10_addPiece 82 = .ok (.getfield 206, 3) := by decide +kernel
theorem dX10_addPiece_85 : decode cX10_addPiece 85 = .ok (.iconst (-1), 1) := by decide +kernel
theorem dX10_addPiece_86 : decode cX10_addPiece 86 = .ok (.iastore, 1) := by decide +kernel
theorem dX10_addPiece_87 : decode cX10_addPiece 87 = .ok (.aload_n 0, 1) := by decide +kernel
theorem dX10_addPiece_88 : decode cX10_addPiece 88 = .ok (.getfield 56, 3) := by decide +kernel
theorem dX10_addPiece_91 : decode cX10_addPiece 91 = .ok (.iload_n 1, 1) := by decide +kernel
theorem dX10_addPiece_92 : decode cX10_addPiece 92 = .ok (.iaload, 1) := by decide +kernel
theorem dX10_addPiece_93 : decode cX10_addPiece 93 = .ok (.ifCond .ge 16, 3) := by decide +kernel
theorem dX10_addPiece_96 : decode cX10_addPiece 96 = .ok (.aload_n 0, 1) := by decide +kernel
theorem dX10_addPiece_97 : decode cX10_addPiece 97 = .ok (.getfield 56, 3) := by decide +kernel
theorem dX10_addPiece_100 : decode cX10_addPiece 100 = .ok (.iload_n 1, 1) := by decide +kernel
theorem dX10_addPiece_101 : decode cX10_addPiece 101 = .ok (.aload_n 0, 1) := by decide +kernel
theorem dX10_addPiece_102 : decode cX10_addPiece 102 = .ok (.getfield 206, 3) := by decide +kernel
theorem dX10_addPiece_105 : decode cX10_addPiece 105 = .ok (.iastore, 1) := by decide +kernel
theorem dX10_addPiece_106 : decode cX10_addPiece 106 = .ok (.goto 18, 3) := by decide +kernel
theorem dX10_addPiece_109 : decode cX10_addPiece 109 = .ok (.aload_n 0, 1) := by decide +kernel
theorem dX10_addPiece_110 : decode cX10_addPiece 110 = .ok (.getfield 71, 3) := by decide +kernel
theorem dX10_addPiece_113 : decode cX10_addPiece 113 = .ok (.aload_n 0, 1) := by decide +kernel
theorem dX10_addPiece_114 : decode cX10_addPiece 114 = .ok (.getfield 59, 3) := by decide +kernel
theorem dX10_addPiece_117 : decode cX10_addPiece 117 = .ok (.iload_n 1, 1) := by decide +kernel
theorem dX10_addPiece_118 : decode cX10_addPiece 118 = .ok (.iaload, 1) := by decide +kernel
theorem dX10_addPiece_119 : decode cX10_addPiece 119 = .ok (.aload_n 0, 1) := by decide +kernel
theorem dX10_addPiece_120 : decode cX10_addPiece 120 = .ok (.getfield 206, 3) := by decide +kernel
theorem dX10_addPiece_123 : decode cX10_addPiece 123 = .ok (.iastore, 1) := by decide +kernel
theorem dX10_addPiece_124 : decode cX10_addPiece 124 = .ok (.aload_n 0, 1) := by decide +kernel
theorem dX10_addPiece_125 : decode cX10_addPiece 125 = .ok (.getfield 59, 3) := by decide +kernel
theorem dX10_addPiece_128 : decode cX10_addPiece 128 = .ok (.iload_n 1, 1) := by decide +kernel
theorem dX10_addPiece_129 : decode cX10_addPiece 129 = .ok (.aload_n 0, 1) := by decide +kernel
theorem dX10_addPiece_130 : decode cX10_addPiece 130 = .ok (.getfield 206, 3) := by decide +kernel
theorem dX10_addPiece_133 : decode cX10_addPiece 133 = .ok (.iastore, 1) := by decide +kernel
theorem dX10_addPiece_134 : decode cX10_addPiece 134 = .ok (.aload_n 0, 1) := by decide +kernel
theorem dX10_addPiece_135 : decode cX10_addPiece 135 = .ok (.dup, 1) := by decide +kernel
theorem dX10_addPiece_136 : decode cX10_addPiece 136 = .ok (.getfield 206, 3) := by decide +kernel
theorem dX10_addPiece_139 : decode cX10_addPiece 139 = .ok (.iconst 1, 1) := by decide +kernel
theorem dX10_addPiece_140 : decode cX10_addPiece 140 = .ok (.iadd, 1) := by decide +kernel
theorem dX10_addPiece_141 : decode cX10_addPiece 141 = .ok (.putfield 206, 3) := by decide +kernel
theorem dX10_addPiece_144 : decode cX10_addPiece 144 = .ok (.return_, 1) := by decide +kernel
theorem dX10_addNode_0 : decode cX10_addNode 0 = .ok (.aload_n 0, 1) := by decide +kernel
theorem dX10_addNode_1 : decode cX10_addNode 1 = .ok (.getfield 47, 3) := by decide +kernel
theorem dX10_addNode_4 : decode cX10_addNode 4 = .ok (.aload_n 0, 1) := by decide +kernel
theorem dX10_addNode_5 : decode cX10_addNode 5 = .ok (.getfield 209, 3) := by decide +kernel
theorem dX10_addNode_8 : decode cX10_addNode 8 = .ok (.iload_n 1, 1) := by decide +kernel
theorem dX10_addNode_9 : decode cX10_addNode 9 = .ok (.iastore, 1) := by decide +kernel
theorem dX10_addNode_10 : decode cX10_addNode 10 = .ok (.aload_n 0, 1) := by decide +kernel
theorem dX10_addNode_11 : decode cX10_addNode 11 = .ok (.getfield 50, 3) := by decide +kernel
theorem dX10_addNode_14 : decode cX10_addNode 14 = .ok (.aload_n 0, 1) := by decide +kernel
theorem dX10_addNode_15 : decode cX10_addNode 15 = .ok (.getfield 209, 3) := by decide +kernel
theorem dX10_addNode_18 : decode cX10_addNode 18 = .ok (.iconst (-1), 1) := by decide +kernel
theorem dX10_addNode_19 : decode cX10_addNode 19 = .ok (.iastore, 1) := by decide +kernel
theorem dX10_addNode_20 : decode cX10_addNode 20 = .ok (.aload_n 0, 1) := by decide +kernel
theorem dX10_addNode_21 : decode cX10_addNode 21 = .ok (.getfield 53, 3) := by decide +kernel
theorem dX10_addNode_24 : decode cX10_addNode 24 = .ok (.aload_n 0, 1) := by decide +kernel
theorem dX10_addNode_25 : decode cX10_addNode 25 = .ok (.getfield 209, 3) := by decide +kernel
theorem dX10_addNode_28 : decode cX10_addNode 28 = .ok (.iconst (-1), 1) := by decide +kernel
theorem dX10_addNode_29 : decode cX10_addNode 29 = .ok (.iastore, 1) := by decide +kernel
theorem dX10_addNode_30 : decode cX10_addNode 30 = .ok (.aload_n 0, 1) := by decide +kernel
theorem dX10_addNode_31 : decode cX10_addNode 31 = .ok (.getfield 56, 3) := by decide +kernel
theorem dX10_addNode_34 : decode cX10_addNode 34 = .ok (.aload_n 0, 1) := by decide +kernel
theorem dX10_addNode_35 : decode cX10_addNode 35 = .ok (.getfield 209, 3) := by decide +kernel
theorem dX10_addNode_38 : decode cX10_addNode 38 = .ok (.iconst (-1), 1) := by decide +kernel
theorem dX10_addNode_39 : decode cX10_addNode 39 = .ok (.iastore, 1) := by decide +kernel
theorem dX10_addNode_40 : decode cX10_addNode 40 = .ok (.iload_n 2, 1) := by decide +kernel
theorem dX10_addNode_41 : decode cX10_addNode 41 = .ok (.ifCond .ge 14, 3) := by decide +kernel
theorem dX10_addNode_44 : decode cX10_addNode 44 = .ok (.aload_n 0, 1) := by decide +kernel
theorem dX10_addNode_45 : decode cX10_addNode 45 = .ok (.aload_n 0, 1) := by decide +kernel
theorem dX10_addNode_46 : decode cX10_addNode 46 = .ok (.getfield 209, 3) := by decide +kernel
theorem dX10_addNode_49 : decode cX10_addNode 49 = .ok (.putfield 212, 3) := by decide +kernel
theorem dX10_addNode_52 : decode cX10_addNode 52 = .ok (.goto 30, 3) := by decide +kernel
theorem dX10_addNode_55 : decode cX10_addNode 55 = .ok (.iload_n 3, 1) := by decide +kernel
theorem dX10_addNode_56 : decode cX10_addNode 56 = .ok (.ifCond .ne 16, 3) := by decide +kernel
theorem dX10_addNode_59 : decode cX10_addNode 59 = .ok (.aload_n 0, 1) := by decide +kernel
theorem dX10_addNode_60 : decode cX10_addNode 60 = .ok (.getfield 50, 3) := by decide +kernel
theorem dX10_addNode_63 : decode cX10_addNode 63 = .ok (.iload_n 2, 1) := by decide +kernel
theorem dX10_addNode_64 : decode cX10_addNode 64 = .ok (.aload_n 0, 1) := by decide +kernel
theorem dX10_addNode_65 : decode cX10_addNode 65 = .ok (.getfield 209, 3) := by decide +kernel
theorem dX10_addNode_68 : decode cX10_addNode 68 = .ok (.iastore, 1) := by decide +kernel
theorem dX10_addNode_69 : decode cX10_addNode 69 = .ok (.goto 13, 3) := by decide +kernel
theorem dX10_addNode_72 : decode cX10_addNode 72 = .ok (.aload_n 0, 1) := by decide +kernel
theorem dX10_addNode_73 : decode cX10_addNode 73 = .ok (.getfield 53, 3) := by decide +kernel
theorem dX10_addNode_76 : decode cX10_addNode 76 = .ok (.iload_n 2, 1) := by decide +kernel
theorem dX10_addNode_77 : decode cX10_addNode 77 = .ok (.aload_n 0, 1) := by decide +kernel
theorem dX10_addNode_78 : decode cX10_addNode 78 = .ok (.getfield 209, 3) := by decide +kernel
theorem dX10_addNode_81 : decode cX10_addNode 81 = .ok (.iastore, 1) := by decide +kernel
theorem dX10_addNode_82 : decode cX10_addNode 82 = .ok (.aload_n 0, 1) := by decide +kernel
theorem dX10_addNode_83 : decode cX10_addNode 83 = .ok (.dup, 1) := by decide +kernel
theorem dX10_addNode_84 : decode cX10_addNode 84 = .ok (.getfield 209, 3) := by decide +kernel
theorem dX10_addNode_87 : decode cX10_addNode 87 = .ok (.iconst 1, 1) := by decide +kernel
theorem dX10_addNode_88 : decode cX10_addNode 88 = .ok (.iadd, 1) := by decide +kernel
theorem dX10_addNode_89 : decode cX10_addNode 89 = .ok (.putfield 209, 3) := by decide +kernel
theorem dX10_addNode_92 : decode cX10_addNode 92 = .ok (.aload_n 0, 1) := by decide +kernel
theorem dX10_addNode_93 : decode cX10_addNode 93 = .ok (.getfield 209, 3) := by decide +kernel
theorem dX10_addNode_96 : decode cX10_addNode 96 = .ok (.iconst 1, 1) := by decide +kernel
theorem dX10_addNode_97 : decode cX10_addNode 97 = .ok (.isub, 1) := by decide +kernel
theorem dX10_addNode_98 : decode cX10_addNode 98 = .ok (.ireturn, 1) := by decide +kernel
theorem dX10_price_0 : decode cX10_price 0 = .ok (.iconst 0, 1) := by decide +kernel
theorem dX10_price_1 : decode cX10_price 1 = .ok (.istore 5, 2) := by decide +kernel
theorem dX10_price_3 : decode cX10_price 3 = .ok (.iconst 0, 1) := by decide +kernel
theorem dX10_price_4 : decode cX10_price 4 = .ok (.istore 6, 2) := by decide +kernel
theorem dX10_price_6 : decode cX10_price 6 = .ok (.iconst 0, 1) := by decide +kernel
theorem dX10_price_7 : decode cX10_price 7 = .ok (.istore 7, 2) := by decide +kernel
theorem dX10_price_9 : decode cX10_price 9 = .ok (.iload 7, 2) := by decide +kernel
theorem dX10_price_11 : decode cX10_price 11 = .ok (.bipush 12, 2) := by decide +kernel
theorem dX10_price_13 : decode cX10_price 13 = .ok (.if_icmp .ge 118, 3) := by decide +kernel
theorem dX10_price_16 : decode cX10_price 16 = .ok (.bipush 60, 2) := by decide +kernel
theorem dX10_price_18 : decode cX10_price 18 = .ok (.iload_n 1, 1) := by decide +kernel
theorem dX10_price_19 : decode cX10_price 19 = .ok (.imul, 1) := by decide +kernel
theorem dX10_price_20 : decode cX10_price 20 = .ok (.iconst 5, 1) := by decide +kernel
theorem dX10_price_21 : decode cX10_price 21 = .ok (.iload 7, 2) := by decide +kernel
theorem dX10_price_23 : decode cX10_price 23 = .ok (.imul, 1) := by decide +kernel
theorem dX10_price_24 : decode cX10_price 24 = .ok (.iadd, 1) := by decide +kernel
theorem dX10_price_25 : decode cX10_price 25 = .ok (.istore 8, 2) := by decide +kernel
theorem dX10_price_27 : decode cX10_price 27 = .ok (.aload_n 0, 1) := by decide +kernel
theorem dX10_price_28 : decode cX10_price 28 = .ok (.getfield 74, 3) := by decide +kernel
theorem dX10_price_31 : decode cX10_price 31 = .ok (.iload 8, 2) := by decide +kernel
theorem dX10_price_33 : decode cX10_price 33 = .ok (.iaload, 1) := by decide +kernel
theorem dX10_price_34 : decode cX10_price 34 = .ok (.iconst 1, 1) := by decide +kernel
theorem dX10_price_35 : decode cX10_price 35 = .ok (.if_icmp .ne 90, 3) := by decide +kernel
theorem dX10_price_38 : decode cX10_price 38 = .ok (.aload_n 0, 1) := by decide +kernel
theorem dX10_price_39 : decode cX10_price 39 = .ok (.iload_n 2, 1) := by decide +kernel
theorem dX10_price_40 : decode cX10_price 40 = .ok (.iload 7, 2) := by decide +kernel
theorem dX10_price_42 : decode cX10_price 42 = .ok (.aload_n 0, 1) := by decide +kernel
theorem dX10_price_43 : decode cX10_price 43 = .ok (.getfield 74, 3) := by decide +kernel
theorem dX10_price_46 : decode cX10_price 46 = .ok (.iload 8, 2) := by decide +kernel
theorem dX10_price_48 : decode cX10_price 48 = .ok (.iconst 1, 1) := by decide +kernel
theorem dX10_price_49 : decode cX10_price 49 = .ok (.iadd, 1) := by decide +kernel
theorem dX10_price_50 : decode cX10_price 50 = .ok (.iaload, 1) := by decide +kernel
theorem dX10_price_51 : decode cX10_price 51 = .ok (.aload_n 0, 1) := by decide +kernel
theorem dX10_price_52 : decode cX10_price 52 = .ok (.getfield 74, 3) := by decide +kernel
theorem dX10_price_55 : decode cX10_price 55 = .ok (.iload 8, 2) := by decide +kernel
theorem dX10_price_57 : decode cX10_price 57 = .ok (.iconst 2, 1) := by decide +kernel
theorem dX10_price_58 : decode cX10_price 58 = .ok (.iadd, 1) := by decide +kernel
theorem dX10_price_59 : decode cX10_price 59 = .ok (.iaload, 1) := by decide +kernel
theorem dX10_price_60 : decode cX10_price 60 = .ok (.aload_n 0, 1) := by decide +kernel
theorem dX10_price_61 : decode cX10_price 61 = .ok (.getfield 74, 3) := by decide +kernel
theorem dX10_price_64 : decode cX10_price 64 = .ok (.iload 8, 2) := by decide +kernel
theorem dX10_price_66 : decode cX10_price 66 = .ok (.iconst 3, 1) := by decide +kernel
theorem dX10_price_67 : decode cX10_price 67 = .ok (.iadd, 1) := by decide +kernel
theorem dX10_price_68 : decode cX10_price 68 = .ok (.iaload, 1) := by decide +kernel
theorem dX10_price_69 : decode cX10_price 69 = .ok (.aload_n 0, 1) := by decide +kernel
theorem dX10_price_70 : decode cX10_price 70 = .ok (.getfield 74, 3) := by decide +kernel
theorem dX10_price_73 : decode cX10_price 73 = .ok (.iload 8, 2) := by decide +kernel
theorem dX10_price_75 : decode cX10_price 75 = .ok (.iconst 4, 1) := by decide +kernel
theorem dX10_price_76 : decode cX10_price 76 = .ok (.iadd, 1) := by decide +kernel
theorem dX10_price_77 : decode cX10_price 77 = .ok (.iaload, 1) := by decide +kernel
theorem dX10_price_78 : decode cX10_price 78 = .ok (.invokevirtual 215, 3) := by decide +kernel
theorem dX10_price_81 : decode cX10_price 81 = .ok (.istore 9, 2) := by decide +kernel
theorem dX10_price_83 : decode cX10_price 83 = .ok (.iload 5, 2) := by decide +kernel
theorem dX10_price_85 : decode cX10_price 85 = .ok (.iload 9, 2) := by decide +kernel
theorem dX10_price_87 : decode cX10_price 87 = .ok (.iconst 2, 1) := by decide +kernel
theorem dX10_price_88 : decode cX10_price 88 = .ok (.if_icmp .ne 7, 3) := by decide +kernel
theorem dX10_price_91 : decode cX10_price 91 = .ok (.iconst 1, 1) := by decide +kernel
theorem dX10_price_92 : decode cX10_price 92 = .ok (.goto 4, 3) := by decide +kernel
theorem dX10_price_95 : decode cX10_price 95 = .ok (.iconst 0, 1) := by decide +kernel
theorem dX10_price_96 : decode cX10_price 96 = .ok (.iadd, 1) := by decide +kernel
theorem dX10_price_97 : decode cX10_price 97 = .ok (.istore 5, 2) := by decide +kernel
theorem dX10_price_99 : decode cX10_price 99 = .ok (.iload 6, 2) := by decide +kernel
theorem dX10_price_101 : decode cX10_price 101 = .ok (.iload 9, 2) := by decide +kernel
theorem dX10_price_103 : decode cX10_price 103 = .ok (.iconst 1, 1) := by decide +kernel
theorem dX10_price_104 : decode cX10_price 104 = .ok (.if_icmp .ne 7, 3) := by decide +kernel
theorem dX10_price_107 : decode cX10_price 107 = .ok (.iconst 1, 1) := by decide +kernel
theorem dX10_price_108 : decode cX10_price 108 = .ok (.goto 14, 3) := by decide +kernel
theorem dX10_price_111 : decode cX10_price 111 = .ok (.iload 9, 2) := by decide +kernel
theorem dX10_price_113 : decode cX10_price 113 = .ok (.iconst (-1), 1) := by decide +kernel
theorem dX10_price_114 : decode cX10_price 114 = .ok (.if_icmp .ne 7, 3) := by decide +kernel
theorem dX10_price_117 : decode cX10_price 117 = .ok (.iconst (-1), 1) := by decide +kernel
theorem dX10_price_118 : decode cX10_price 118 = .ok (.goto 4, 3) := by decide +kernel
theorem dX10_price_121 : decode cX10_price 121 = .ok (.iconst 0, 1) := by decide +kernel
theorem dX10_price_122 : decode cX10_price 122 = .ok (.iadd, 1) := by decide +kernel
theorem dX10_price_123 : decode cX10_price 123 = .ok (.istore 6, 2) := by decide +kernel
theorem dX10_price_125 : decode cX10_price 125 = .ok (.iinc 7 1, 3) := by decide +kernel
theorem dX10_price_128 : decode cX10_price 128 = .ok (.goto (-119), 3) := by decide +kernel
theorem dX10_price_131 : decode cX10_price 131 = .ok (.iload_n 3, 1) := by decide +kernel
theorem dX10_price_132 : decode cX10_price 132 = .ok (.iload 5, 2) := by decide +kernel
theorem dX10_price_134 : decode cX10_price 134 = .ok (.imul, 1) := by decide +kernel
theorem dX10_price_135 : decode cX10_price 135 = .ok (.iload 4, 2) := by decide +kernel
theorem dX10_price_137 : decode cX10_price 137 = .ok (.iload 6, 2) := by decide +kernel
theorem dX10_price_139 : decode cX10_price 139 = .ok (.ifCond .ge 9, 3) := by decide +kernel
theorem dX10_price_142 : decode cX10_price 142 = .ok (.iload 6, 2) := by decide +kernel
theorem dX10_price_144 : decode cX10_price 144 = .ok (.ineg, 1) := by decide +kernel
theorem dX10_price_145 : decode cX10_price 145 = .ok (.goto 5, 3) := by decide +kernel
theorem dX10_price_148 : decode cX10_price 148 = .ok (.iload 6, 2) := by decide +kernel
theorem dX10_price_150 : decode cX10_price 150 = .ok (.imul, 1) := by decide +kernel
theorem dX10_price_151 : decode cX10_price 151 = .ok (.iadd, 1) := by decide +kernel
theorem dX10_price_152 : decode cX10_price 152 = .ok (.ireturn, 1) := by decide +kernel
theorem dX10_put_0 : decode cX10_put 0 = .ok (.bipush 60, 2) := by decide +kernel
theorem dX10_put_2 : decode cX10_put 2 = .ok (.iload_n 1, 1) := by decide +kernel
theorem dX10_put_3 : decode cX10_put 3 = .ok (.imul, 1) := by decide +kernel
theorem dX10_put_4 : decode cX10_put 4 = .ok (.iconst 5, 1) := by decide +kernel
theorem dX10_put_5 : decode cX10_put 5 = .ok (.iload_n 2, 1) := by decide +kernel
theorem dX10_put_6 : decode cX10_put 6 = .ok (.imul, 1) := by decide +kernel
theorem dX10_put_7 : decode cX10_put 7 = .ok (.iadd, 1) := by decide +kernel
theorem dX10_put_8 : decode cX10_put 8 = .ok (.istore 7, 2) := by decide +kernel
theorem dX10_put_10 : decode cX10_put 10 = .ok (.aload_n 0, 1) := by decide +kernel
theorem dX10_put_11 : decode cX10_put 11 = .ok (.getfield 74, 3) := by decide +kernel
theorem dX10_put_14 : decode cX10_put 14 = .ok (.iload 7, 2) := by decide +kernel
theorem dX10_put_16 : decode cX10_put 16 = .ok (.iconst 1, 1) := by decide +kernel
theorem dX10_put_17 : decode cX10_put 17 = .ok (.iastore, 1) := by decide +kernel
theorem dX10_put_18 : decode cX10_put 18 = .ok (.aload_n 0, 1) := by decide +kernel
theorem dX10_put_19 : decode cX10_put 19 = .ok (.getfield 74, 3) := by decide +kernel
theorem dX10_put_22 : decode cX10_put 22 = .ok (.iload 7, 2) := by decide +kernel
theorem dX10_put_24 : decode cX10_put 24 = .ok (.iconst 1, 1) := by decide +kernel
theorem dX10_put_25 : decode cX10_put 25 = .ok (.iadd, 1) := by decide +kernel
theorem dX10_put_26 : decode cX10_put 26 = .ok (.iload_n 3, 1) := by decide +kernel
theorem dX10_put_27 : decode cX10_put 27 = .ok (.iastore, 1) := by decide +kernel
theorem dX10_put_28 : decode cX10_put 28 = .ok (.aload_n 0, 1) := by decide +kernel
theorem dX10_put_29 : decode cX10_put 29 = .ok (.getfield 74, 3) := by decide +kernel
theorem dX10_put_32 : decode cX10_put 32 = .ok (.iload 7, 2) := by decide +kernel
theorem dX10_put_34 : decode cX10_put 34 = .ok (.iconst 2, 1) := by decide +kernel
theorem dX10_put_35 : decode cX10_put 35 = .ok (.iadd, 1) := by decide +kernel
theorem dX10_put_36 : decode cX10_put 36 = .ok (.iload 4, 2) := by decide +kernel
theorem dX10_put_38 : decode cX10_put 38 = .ok (.iastore, 1) := by decide +kernel
theorem dX10_put_39 : decode cX10_put 39 = .ok (.aload_n 0, 1) := by decide +kernel
theorem dX10_put_40 : decode cX10_put 40 = .ok (.getfield 74, 3) := by decide +kernel
theorem dX10_put_43 : decode cX10_put 43 = .ok (.iload 7, 2) := by decide +kernel
theorem dX10_put_45 : decode cX10_put 45 = .ok (.iconst 3, 1) := by decide +kernel
theorem dX10_put_46 : decode cX10_put 46 = .ok (.iadd, 1) := by decide +kernel
theorem dX10_put_47 : decode cX10_put 47 = .ok (.iload 5, 2) := by decide +kernel
theorem dX10_put_49 : decode cX10_put 49 = .ok (.iastore, 1) := by decide +kernel
theorem dX10_put_50 : decode cX10_put 50 = .ok (.aload_n 0, 1) := by decide +kernel
theorem dX10_put_51 : decode cX10_put 51 = .ok (.getfield 74, 3) := by decide +kernel
theorem dX10_put_54 : decode cX10_put 54 = .ok (.iload 7, 2) := by decide +kernel
theorem dX10_put_56 : decode cX10_put 56 = .ok (.iconst 4, 1) := by decide +kernel
theorem dX10_put_57 : decode cX10_put 57 = .ok (.iadd, 1) := by decide +kernel
theorem dX10_put_58 : decode cX10_put 58 = .ok (.iload 6, 2) := by decide +kernel
theorem dX10_put_60 : decode cX10_put 60 = .ok (.iastore, 1) := by decide +kernel
theorem dX10_put_61 : decode cX10_put 61 = .ok (.return_, 1) := by decide +kernel
theorem dX10_makeFixed_0 : decode cX10_makeFixed 0 = .ok (.aload_n 0, 1) := by decide +kernel
theorem dX10_makeFixed_1 : decode cX10_makeFixed 1 = .ok (.iconst 0, 1) := by decide +kernel
theorem dX10_makeFixed_2 : decode cX10_makeFixed 2 = .ok (.putfield 209, 3) := by decide +kernel
theorem dX10_makeFixed_5 : decode cX10_makeFixed 5 = .ok (.aload_n 0, 1) := by decide +kernel
theorem dX10_makeFixed_6 : decode cX10_makeFixed 6 = .ok (.iconst 0, 1) := by decide +kernel
theorem dX10_makeFixed_7 : decode cX10_makeFixed 7 = .ok (.putfield 206, 3) := by decide +kernel
theorem dX10_makeFixed_10 : decode cX10_makeFixed 10 = .ok (.aload_n 0, 1) := by decide +kernel
theorem dX10_makeFixed_11 : decode cX10_makeFixed 11 = .ok (.iconst (-1), 1) := by decide +kernel
theorem dX10_makeFixed_12 : decode cX10_makeFixed 12 = .ok (.putfield 212, 3) := by decide +kernel
theorem dX10_makeFixed_15 : decode cX10_makeFixed 15 = .ok (.aload_n 0, 1) := by decide +kernel
theorem dX10_makeFixed_16 : decode cX10_makeFixed 16 = .ok (.iconst 1, 1) := by decide +kernel
theorem dX10_makeFixed_17 : decode cX10_makeFixed 17 = .ok (.putfield 219, 3) := by decide +kernel
theorem dX10_makeFixed_20 : decode cX10_makeFixed 20 = .ok (.aload_n 0, 1) := by decide +kernel
theorem dX10_makeFixed_21 : decode cX10_makeFixed 21 = .ok (.getfield 77, 3) := by decide +kernel
theorem dX10_makeFixed_24 : decode cX10_makeFixed 24 = .ok (.iconst 0, 1) := by decide +kernel
theorem dX10_makeFixed_25 : decode cX10_makeFixed 25 = .ok (.iconst (-1), 1) := by decide +kernel
theorem dX10_makeFixed_26 : decode cX10_makeFixed 26 = .ok (.iastore, 1) := by decide +kernel
theorem dX10_makeFixed_27 : decode cX10_makeFixed 27 = .ok (.iconst 0, 1) := by decide +kernel
theorem dX10_makeFixed_28 : decode cX10_makeFixed 28 = .ok (.istore_n 3, 1) := by decide +kernel
theorem dX10_makeFixed_29 : decode cX10_makeFixed 29 = .ok (.iload_n 3, 1) := by decide +kernel
theorem dX10_makeFixed_30 : decode cX10_makeFixed 30 = .ok (.bipush 12, 2) := by decide +kernel
theorem dX10_makeFixed_32 : decode cX10_makeFixed 32 = .ok (.if_icmp .ge 52, 3) := by decide +kernel
theorem dX10_makeFixed_35 : decode cX10_makeFixed 35 = .ok (.aload_n 0, 1) := by decide +kernel
theorem dX10_makeFixed_36 : decode cX10_makeFixed 36 = .ok (.iconst 0, 1) := by decide +kernel
theorem dX10_makeFixed_37 : decode cX10_makeFixed 37 = .ok (.iload_n 3, 1) := by decide +kernel
theorem dX10_makeFixed_38 : decode cX10_makeFixed 38 = .ok (.iconst 0, 1) := by decide +kernel
theorem dX10_makeFixed_39 : decode cX10_makeFixed 39 = .ok (.iconst 1, 1) := by decide +kernel
theorem dX10_makeFixed_40 : decode cX10_makeFixed 40 = .ok (.iconst 1, 1) := by decide +kernel
theorem dX10_makeFixed_41 : decode cX10_makeFixed 41 = .ok (.iconst 1, 1) := by decide +kernel
theorem dX10_makeFixed_42 : decode cX10_makeFixed 42 = .ok (.invokevirtual 222, 3) := by decide +kernel
theorem dX10_makeFixed_45 : decode cX10_makeFixed 45 = .ok (.aload_n 0, 1) := by decide +kernel
theorem dX10_makeFixed_46 : decode cX10_makeFixed 46 = .ok (.getfield 74, 3) := by decide +kernel
theorem dX10_makeFixed_49 : decode cX10_makeFixed 49 = .ok (.iconst 5, 1) := by decide +kernel
theorem dX10_makeFixed_50 : decode cX10_makeFixed 50 = .ok (.iload_n 3, 1) := by decide +kernel
theorem dX10_makeFixed_51 : decode cX10_makeFixed 51 = .ok (.imul, 1) := by decide +kernel
theorem dX10_makeFixed_52 : decode cX10_makeFixed 52 = .ok (.aload_n 0, 1) := by decide +kernel
theorem dX10_makeFixed_53 : decode cX10_makeFixed 53 = .ok (.iload_n 3, 1) := by decide +kernel
theorem dX10_makeFixed_54 : decode cX10_makeFixed 54 = .ok (.iconst 0, 1) := by decide +kernel
theorem dX10_makeFixed_55 : decode cX10_makeFixed 55 = .ok (.invokevirtual 129, 3) := by decide +kernel
