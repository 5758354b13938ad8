theorem dX0_init_0 : decode cX0_init 0 = .ok (.aload_n 0, 1) := by decide +kernel
theorem dX0_init_1 : decode cX0_init 1 = .ok (.invokespecial 3, 3) := by decide +kernel
theorem dX0_init_4 : decode cX0_init 4 = .ok (.aload_n 0, 1) := by decide +kernel
theorem dX0_init_5 : decode cX0_init 5 = .ok (.sipush 144, 3) := by decide +kernel
theorem dX0_init_8 : decode cX0_init 8 = .ok (.newarray .int, 2) := by decide +kernel
theorem dX0_init_10 : decode cX0_init 10 = .ok (.putfield 9, 3) := by decide +kernel
theorem dX0_init_13 : decode cX0_init 13 = .ok (.aload_n 0, 1) := by decide +kernel
theorem dX0_init_14 : decode cX0_init 14 = .ok (.iconst 0, 1) := by decide +kernel
theorem dX0_init_15 : decode cX0_init 15 = .ok (.putfield 15, 3) := by decide +kernel
theorem dX0_init_18 : decode cX0_init 18 = .ok (.aload_n 0, 1) := by decide +kernel
theorem dX0_init_19 : decode cX0_init 19 = .ok (.iconst 0, 1) := by decide +kernel
theorem dX0_init_20 : decode cX0_init 20 = .ok (.putfield 19, 3) := by decide +kernel
theorem dX0_init_23 : decode cX0_init 23 = .ok (.aload_n 0, 1) := by decide +kernel
theorem dX0_init_24 : decode cX0_init 24 = .ok (.iconst 0, 1) := by decide +kernel
theorem dX0_init_25 : decode cX0_init 25 = .ok (.putfield 22, 3) := by decide +kernel
theorem dX0_init_28 : decode cX0_init 28 = .ok (.aload_n 0, 1) := by decide +kernel
theorem dX0_init_29 : decode cX0_init 29 = .ok (.aload_n 1, 1) := by decide +kernel
theorem dX0_init_30 : decode cX0_init 30 = .ok (.putfield 25, 3) := by decide +kernel
theorem dX0_init_33 : decode cX0_init 33 = .ok (.aload_n 0, 1) := by decide +kernel
theorem dX0_init_34 : decode cX0_init 34 = .ok (.aload_n 2, 1) := by decide +kernel
theorem dX0_init_35 : decode cX0_init 35 = .ok (.putfield 29, 3) := by decide +kernel
theorem dX0_init_38 : decode cX0_init 38 = .ok (.return_, 1) := by decide +kernel
theorem dX0_size_0 : decode cX0_size 0 = .ok (.aload_n 0, 1) := by decide +kernel
theorem dX0_size_1 : decode cX0_size 1 = .ok (.getfield 15, 3) := by decide +kernel
theorem dX0_size_4 : decode cX0_size 4 = .ok (.ireturn, 1) := by decide +kernel
theorem dX0_pieceAt_0 : decode cX0_pieceAt 0 = .ok (.iload_n 1, 1) := by decide +kernel
theorem dX0_pieceAt_1 : decode cX0_pieceAt 1 = .ok (.ifCond .lt 27, 3) := by decide +kernel
theorem dX0_pieceAt_4 : decode cX0_pieceAt 4 = .ok (.iload_n 1, 1) := by decide +kernel
theorem dX0_pieceAt_5 : decode cX0_pieceAt 5 = .ok (.aload_n 0, 1) := by decide +kernel
theorem dX0_pieceAt_6 : decode cX0_pieceAt 6 = .ok (.getfield 15, 3) := by decide +kernel
theorem dX0_pieceAt_9 : decode cX0_pieceAt 9 = .ok (.if_icmp .ge 19, 3) := by decide +kernel
theorem dX0_pieceAt_12 : decode cX0_pieceAt 12 = .ok (.iload_n 1, 1) := by decide +kernel
theorem dX0_pieceAt_13 : decode cX0_pieceAt 13 = .ok (.sipush 144, 3) := by decide +kernel
theorem dX0_pieceAt_16 : decode cX0_pieceAt 16 = .ok (.if_icmp .ge 12, 3) := by decide +kernel
theorem dX0_pieceAt_19 : decode cX0_pieceAt 19 = .ok (.aload_n 0, 1) := by decide +kernel
theorem dX0_pieceAt_20 : decode cX0_pieceAt 20 = .ok (.getfield 9, 3) := by decide +kernel
theorem dX0_pieceAt_23 : decode cX0_pieceAt 23 = .ok (.iload_n 1, 1) := by decide +kernel
theorem dX0_pieceAt_24 : decode cX0_pieceAt 24 = .ok (.iaload, 1) := by decide +kernel
theorem dX0_pieceAt_25 : decode cX0_pieceAt 25 = .ok (.goto 5, 3) := by decide +kernel
theorem dX0_pieceAt_28 : decode cX0_pieceAt 28 = .ok (.bipush (-8), 2) := by decide +kernel
theorem dX0_pieceAt_30 : decode cX0_pieceAt 30 = .ok (.ireturn, 1) := by decide +kernel
theorem dX0_arrange_0 : decode cX0_arrange 0 = .ok (.aload_n 0, 1) := by decide +kernel
theorem dX0_arrange_1 : decode cX0_arrange 1 = .ok (.iload_n 1, 1) := by decide +kernel
theorem dX0_arrange_2 : decode cX0_arrange 2 = .ok (.putfield 19, 3) := by decide +kernel
theorem dX0_arrange_5 : decode cX0_arrange 5 = .ok (.aload_n 0, 1) := by decide +kernel
theorem dX0_arrange_6 : decode cX0_arrange 6 = .ok (.iload_n 2, 1) := by decide +kernel
theorem dX0_arrange_7 : decode cX0_arrange 7 = .ok (.putfield 22, 3) := by decide +kernel
theorem dX0_arrange_10 : decode cX0_arrange 10 = .ok (.aload_n 0, 1) := by decide +kernel
theorem dX0_arrange_11 : decode cX0_arrange 11 = .ok (.iconst 0, 1) := by decide +kernel
theorem dX0_arrange_12 : decode cX0_arrange 12 = .ok (.putfield 15, 3) := by decide +kernel
theorem dX0_arrange_15 : decode cX0_arrange 15 = .ok (.aload_n 0, 1) := by decide +kernel
theorem dX0_arrange_16 : decode cX0_arrange 16 = .ok (.aload_n 0, 1) := by decide +kernel
theorem dX0_arrange_17 : decode cX0_arrange 17 = .ok (.getfield 29, 3) := by decide +kernel
theorem dX0_arrange_20 : decode cX0_arrange 20 = .ok (.invokevirtual 33, 3) := by decide +kernel
theorem dX0_arrange_23 : decode cX0_arrange 23 = .ok (.iconst 0, 1) := by decide +kernel
theorem dX0_arrange_24 : decode cX0_arrange 24 = .ok (.invokevirtual 39, 3) := by decide +kernel
theorem dX0_arrange_27 : decode cX0_arrange 27 = .ok (.return_, 1) := by decide +kernel
theorem dX0_arrangeSubtree_0 : decode cX0_arrangeSubtree 0 = .ok (.aload_n 0, 1) := by decide +kernel
theorem dX0_arrangeSubtree_1 : decode cX0_arrangeSubtree 1 = .ok (.getfield 29, 3) := by decide +kernel
theorem dX0_arrangeSubtree_4 : decode cX0_arrangeSubtree 4 = .ok (.iload_n 1, 1) := by decide +kernel
theorem dX0_arrangeSubtree_5 : decode cX0_arrangeSubtree 5 = .ok (.invokevirtual 43, 3) := by decide +kernel
theorem dX0_arrangeSubtree_8 : decode cX0_arrangeSubtree 8 = .ok (.ifCond .eq 9, 3) := by decide +kernel
theorem dX0_arrangeSubtree_11 : decode cX0_arrangeSubtree 11 = .ok (.iload_n 2, 1) := by decide +kernel
theorem dX0_arrangeSubtree_12 : decode cX0_arrangeSubtree 12 = .ok (.bipush 12, 2) := by decide +kernel
theorem dX0_arrangeSubtree_14 : decode cX0_arrangeSubtree 14 = .ok (.if_icmp .lt 4, 3) := by decide +kernel
theorem dX0_arrangeSubtree_17 : decode cX0_arrangeSubtree 17 = .ok (.return_, 1) := by decide +kernel
theorem dX0_arrangeSubtree_18 : decode cX0_arrangeSubtree 18 = .ok (.aload_n 0, 1) := by decide +kernel
theorem dX0_arrangeSubtree_19 : decode cX0_arrangeSubtree 19 = .ok (.getfield 29, 3) := by decide +kernel
theorem dX0_arrangeSubtree_22 : decode cX0_arrangeSubtree 22 = .ok (.iload_n 1, 1) := by decide +kernel
theorem dX0_arrangeSubtree_23 : decode cX0_arrangeSubtree 23 = .ok (.aload_n 0, 1) := by decide +kernel
theorem dX0_arrangeSubtree_24 : decode cX0_arrangeSubtree 24 = .ok (.getfield 19, 3) := by decide +kernel
theorem dX0_arrangeSubtree_27 : decode cX0_arrangeSubtree 27 = .ok (.aload_n 0, 1) := by decide +kernel
theorem dX0_arrangeSubtree_28 : decode cX0_arrangeSubtree 28 = .ok (.getfield 22, 3) := by decide +kernel
theorem dX0_arrangeSubtree_31 : decode cX0_arrangeSubtree 31 = .ok (.invokevirtual 47, 3) := by decide +kernel
theorem dX0_arrangeSubtree_34 : decode cX0_arrangeSubtree 34 = .ok (.ifCond .eq 28, 3) := by decide +kernel
theorem dX0_arrangeSubtree_37 : decode cX0_arrangeSubtree 37 = .ok (.aload_n 0, 1) := by decide +kernel
theorem dX0_arrangeSubtree_38 : decode cX0_arrangeSubtree 38 = .ok (.aload_n 0, 1) := by decide +kernel
theorem dX0_arrangeSubtree_39 : decode cX0_arrangeSubtree 39 = .ok (.getfield 29, 3) := by decide +kernel
theorem dX0_arrangeSubtree_42 : decode cX0_arrangeSubtree 42 = .ok (.iload_n 1, 1) := by decide +kernel
theorem dX0_arrangeSubtree_43 : decode cX0_arrangeSubtree 43 = .ok (.invokevirtual 51, 3) := by decide +kernel
theorem dX0_arrangeSubtree_46 : decode cX0_arrangeSubtree 46 = .ok (.iload_n 1, 1) := by decide +kernel
theorem dX0_arrangeSubtree_47 : decode cX0_arrangeSubtree 47 = .ok (.aload_n 0, 1) := by decide +kernel
theorem dX0_arrangeSubtree_48 : decode cX0_arrangeSubtree 48 = .ok (.getfield 29, 3) := by decide +kernel
theorem dX0_arrangeSubtree_51 : decode cX0_arrangeSubtree 51 = .ok (.iload_n 1, 1) := by decide +kernel
theorem dX0_arrangeSubtree_52 : decode cX0_arrangeSubtree 52 = .ok (.invokevirtual 55, 3) := by decide +kernel
theorem dX0_arrangeSubtree_55 : decode cX0_arrangeSubtree 55 = .ok (.iload_n 2, 1) := by decide +kernel
theorem dX0_arrangeSubtree_56 : decode cX0_arrangeSubtree 56 = .ok (.invokevirtual 58, 3) := by decide +kernel
theorem dX0_arrangeSubtree_59 : decode cX0_arrangeSubtree 59 = .ok (.goto 25, 3) := by decide +kernel
theorem dX0_arrangeSubtree_62 : decode cX0_arrangeSubtree 62 = .ok (.aload_n 0, 1) := by decide +kernel
theorem dX0_arrangeSubtree_63 : decode cX0_arrangeSubtree 63 = .ok (.aload_n 0, 1) := by decide +kernel
theorem dX0_arrangeSubtree_64 : decode cX0_arrangeSubtree 64 = .ok (.getfield 29, 3) := by decide +kernel
theorem dX0_arrangeSubtree_67 : decode cX0_arrangeSubtree 67 = .ok (.iload_n 1, 1) := by decide +kernel
theorem dX0_arrangeSubtree_68 : decode cX0_arrangeSubtree 68 = .ok (.invokevirtual 55, 3) := by decide +kernel
theorem dX0_arrangeSubtree_71 : decode cX0_arrangeSubtree 71 = .ok (.iload_n 1, 1) := by decide +kernel
theorem dX0_arrangeSubtree_72 : decode cX0_arrangeSubtree 72 = .ok (.aload_n 0, 1) := by decide +kernel
theorem dX0_arrangeSubtree_73 : decode cX0_arrangeSubtree 73 = .ok (.getfield 29, 3) := by decide +kernel
theorem dX0_arrangeSubtree_76 : decode cX0_arrangeSubtree 76 = .ok (.iload_n 1, 1) := by decide +kernel
theorem dX0_arrangeSubtree_77 : decode cX0_arrangeSubtree 77 = .ok (.invokevirtual 51, 3) := by decide +kernel
theorem dX0_arrangeSubtree_80 : decode cX0_arrangeSubtree 80 = .ok (.iload_n 2, 1) := by decide +kernel
theorem dX0_arrangeSubtree_81 : decode cX0_arrangeSubtree 81 = .ok (.invokevirtual 58, 3) := by decide +kernel
theorem dX0_arrangeSubtree_84 : decode cX0_arrangeSubtree 84 = .ok (.return_, 1) := by decide +kernel
theorem dX0_arrangeNode_0 : decode cX0_arrangeNode 0 = .ok (.aload_n 0, 1) := by decide +kernel
theorem dX0_arrangeNode_1 : decode cX0_arrangeNode 1 = .ok (.iload_n 1, 1) := by decide +kernel
theorem dX0_arrangeNode_2 : decode cX0_arrangeNode 2 = .ok (.iload 4, 2) := by decide +kernel
theorem dX0_arrangeNode_4 : decode cX0_arrangeNode 4 = .ok (.iconst 1, 1) := by decide +kernel
theorem dX0_arrangeNode_5 : decode cX0_arrangeNode 5 = .ok (.iadd, 1) := by decide +kernel
theorem dX0_arrangeNode_6 : decode cX0_arrangeNode 6 = .ok (.invokevirtual 39, 3) := by decide +kernel
theorem dX0_arrangeNode_9 : decode cX0_arrangeNode 9 = .ok (.aload_n 0, 1) := by decide +kernel
theorem dX0_arrangeNode_10 : decode cX0_arrangeNode 10 = .ok (.iload_n 2, 1) := by decide +kernel
theorem dX0_arrangeNode_11 : decode cX0_arrangeNode 11 = .ok (.invokevirtual 62, 3) := by decide +kernel
theorem dX0_arrangeNode_14 : decode cX0_arrangeNode 14 = .ok (.aload_n 0, 1) := by decide +kernel
theorem dX0_arrangeNode_15 : decode cX0_arrangeNode 15 = .ok (.iload_n 3, 1) := by decide +kernel
theorem dX0_arrangeNode_16 : decode cX0_arrangeNode 16 = .ok (.iload 4, 2) := by decide +kernel
theorem dX0_arrangeNode_18 : decode cX0_arrangeNode 18 = .ok (.iconst 1, 1) := by decide +kernel
theorem dX0_arrangeNode_19 : decode cX0_arrangeNode 19 = .ok (.iadd, 1) := by decide +kernel
theorem dX0_arrangeNode_20 : decode cX0_arrangeNode 20 = .ok (.invokevirtual 39, 3) := by decide +kernel
theorem dX0_arrangeNode_23 : decode cX0_arrangeNode 23 = .ok (.return_, 1) := by decide +kernel
theorem dX0_addPiecesOf_0 : decode cX0_addPiecesOf 0 = .ok (.aload_n 0, 1) := by decide +kernel
theorem dX0_addPiecesOf_1 : decode cX0_addPiecesOf 1 = .ok (.getfield 29, 3) := by decide +kernel
theorem dX0_addPiecesOf_4 : decode cX0_addPiecesOf 4 = .ok (.iload_n 1, 1) := by decide +kernel
theorem dX0_addPiecesOf_5 : decode cX0_addPiecesOf 5 = .ok (.invokevirtual 66, 3) := by decide +kernel
theorem dX0_addPiecesOf_8 : decode cX0_addPiecesOf 8 = .ok (.istore_n 2, 1) := by decide +kernel
theorem dX0_addPiecesOf_9 : decode cX0_addPiecesOf 9 = .ok (.iload_n 2, 1) := by decide +kernel
theorem dX0_addPiecesOf_10 : decode cX0_addPiecesOf 10 = .ok (.aload_n 0, 1) := by decide +kernel
theorem dX0_addPiecesOf_11 : decode cX0_addPiecesOf 11 = .ok (.getfield 29, 3) := by decide +kernel
theorem dX0_addPiecesOf_14 : decode cX0_addPiecesOf 14 = .ok (.iload_n 1, 1) := by decide +kernel
theorem dX0_addPiecesOf_15 : decode cX0_addPiecesOf 15 = .ok (.invokevirtual 69, 3) := by decide +kernel
theorem dX0_addPiecesOf_18 : decode cX0_addPiecesOf 18 = .ok (.iadd, 1) := by decide +kernel
theorem dX0_addPiecesOf_19 : decode cX0_addPiecesOf 19 = .ok (.istore_n 3, 1) := by decide +kernel
theorem dX0_addPiecesOf_20 : decode cX0_addPiecesOf 20 = .ok (.iload_n 2, 1) := by decide +kernel
theorem dX0_addPiecesOf_21 : decode cX0_addPiecesOf 21 = .ok (.istore 4, 2) := by decide +kernel
theorem dX0_addPiecesOf_23 : decode cX0_addPiecesOf 23 = .ok (.iload 4, 2) := by decide +kernel
theorem dX0_addPiecesOf_25 : decode cX0_addPiecesOf 25 = .ok (.iload_n 3, 1) := by decide +kernel
theorem dX0_addPiecesOf_26 : decode cX0_addPiecesOf 26 = .ok (.if_icmp .ge 67, 3) := by decide +kernel
theorem dX0_addPiecesOf_29 : decode cX0_addPiecesOf 29 = .ok (.aload_n 0, 1) := by decide +kernel
theorem dX0_addPiecesOf_30 : decode cX0_addPiecesOf 30 = .ok (.getfield 15, 3) := by decide +kernel
theorem dX0_addPiecesOf_33 : decode cX0_addPiecesOf 33 = .ok (.sipush 144, 3) := by decide +kernel
theorem dX0_addPiecesOf_36 : decode cX0_addPiecesOf 36 = .ok (.if_icmp .ge 57, 3) := by decide +kernel
theorem dX0_addPiecesOf_39 : decode cX0_addPiecesOf 39 = .ok (.aload_n 0, 1) := by decide +kernel
theorem dX0_addPiecesOf_40 : decode cX0_addPiecesOf 40 = .ok (.getfield 25, 3) := by decide +kernel
theorem dX0_addPiecesOf_43 : decode cX0_addPiecesOf 43 = .ok (.aload_n 0, 1) := by decide +kernel
theorem dX0_addPiecesOf_44 : decode cX0_addPiecesOf 44 = .ok (.getfield 29, 3) := by decide +kernel
theorem dX0_addPiecesOf_47 : decode cX0_addPiecesOf 47 = .ok (.iload 4, 2) := by decide +kernel
theorem dX0_addPiecesOf_49 : decode cX0_addPiecesOf 49 = .ok (.invokevirtual 72, 3) := by decide +kernel
theorem dX0_addPiecesOf_52 : decode cX0_addPiecesOf 52 = .ok (.aload_n 0, 1) := by decide +kernel
theorem dX0_addPiecesOf_53 : decode cX0_addPiecesOf 53 = .ok (.getfield 19, 3) := by decide +kernel
theorem dX0_addPiecesOf_56 : decode cX0_addPiecesOf 56 = .ok (.aload_n 0, 1) := by decide +kernel
theorem dX0_addPiecesOf_57 : decode cX0_addPiecesOf 57 = .ok (.getfield 22, 3) := by decide +kernel
theorem dX0_addPiecesOf_60 : decode cX0_addPiecesOf 60 = .ok (.invokevirtual 75, 3) := by decide +kernel
theorem dX0_addPiecesOf_63 : decode cX0_addPiecesOf 63 = .ok (.ifCond .eq 24, 3) := by decide +kernel
theorem dX0_addPiecesOf_66 : decode cX0_addPiecesOf 66 = .ok (.aload_n 0, 1) := by decide +kernel
theorem dX0_addPiecesOf_67 : decode cX0_addPiecesOf 67 = .ok (.getfield 9, 3) := by decide +kernel
theorem dX0_addPiecesOf_70 : decode cX0_addPiecesOf 70 = .ok (.aload_n 0, 1) := by decide +kernel
theorem dX0_addPiecesOf_71 : decode cX0_addPiecesOf 71 = .ok (.getfield 15, 3) := by decide +kernel
theorem dX0_addPiecesOf_74 : decode cX0_addPiecesOf 74 = .ok (.iload 4, 2) := by decide +kernel
theorem dX0_addPiecesOf_76 : decode cX0_addPiecesOf 76 = .ok (.iastore, 1) := by decide +kernel
theorem dX0_addPiecesOf_77 : decode cX0_addPiecesOf 77 = .ok (.aload_n 0, 1) := by decide +kernel
theorem dX0_addPiecesOf_78 : decode cX0_addPiecesOf 78 = .ok (.dup, 1) := by decide +kernel
theorem dX0_addPiecesOf_79 : decode cX0_addPiecesOf 79 = .ok (.getfield 15, 3) := by decide +kernel
theorem dX0_addPiecesOf_82 : decode cX0_addPiecesOf 82 = .ok (.iconst 1, 1) := by decide +kernel
theorem dX0_addPiecesOf_83 : decode cX0_addPiecesOf 83 = .ok (.iadd, 1) := by decide +kernel
theorem dX0_addPiecesOf_84 : decode cX0_addPiecesOf 84 = .ok (.putfield 15, 3) := by decide +kernel
theorem dX0_addPiecesOf_87 : decode cX0_addPiecesOf 87 = .ok (.iinc 4 1, 3) := by decide +kernel
theorem dX0_addPiecesOf_90 : decode cX0_addPiecesOf 90 = .ok (.goto (-67), 3) := by decide +kernel
theorem dX0_addPiecesOf_93 : decode cX0_addPiecesOf 93 = .ok (.return_, 1) := by decide +kernel
theorem dX1_init_0 : decode cX1_init 0 = .ok (.aload_n 0, 1) := by decide +kernel
theorem dX1_init_1 : decode cX1_init 1 = .ok (.invokespecial 3, 3) := by decide +kernel
theorem dX1_init_4 : decode cX1_init 4 = .ok (.aload_n 0, 1) := by decide +kernel
theorem dX1_init_5 : decode cX1_init 5 = .ok (.iconst 0, 1) := by decide +kernel
theorem dX1_init_6 : decode cX1_init 6 = .ok (.putfield 9, 3) := by decide +kernel
theorem dX1_init_9 : decode cX1_init 9 = .ok (.aload_n 0, 1) := by decide +kernel
theorem dX1_init_10 : decode cX1_init 10 = .ok (.bipush (-8), 2) := by decide +kernel
theorem dX1_init_12 : decode cX1_init 12 = .ok (.putfield 15, 3) := by decide +kernel
theorem dX1_init_15 : decode cX1_init 15 = .ok (.aload_n 0, 1) := by decide +kernel
theorem dX1_init_16 : decode cX1_init 16 = .ok (.new 18, 3) := by decide +kernel
theorem dX1_init_19 : decode cX1_init 19 = .ok (.dup, 1) := by decide +kernel
theorem dX1_init_20 : decode cX1_init 20 = .ok (.aload_n 1, 1) := by decide +kernel
theorem dX1_init_21 : decode cX1_init 21 = .ok (.bipush 55, 2) := by decide +kernel
theorem dX1_init_23 : decode cX1_init 23 = .ok (.invokespecial 20, 3) := by decide +kernel
theorem dX1_init_26 : decode cX1_init 26 = .ok (.putfield 23, 3) := by decide +kernel
theorem dX1_init_29 : decode cX1_init 29 = .ok (.return_, 1) := by decide +kernel
theorem dX1_fewestPieces_0 : decode cX1_fewestPieces 0 = .ok (.aload_n 0, 1) := by decide +kernel
theorem dX1_fewestPieces_1 : decode cX1_fewestPieces 1 = .ok (.getfield 9, 3) := by decide +kernel
theorem dX1_fewestPieces_4 : decode cX1_fewestPieces 4 = .ok (.ireturn, 1) := by decide +kernel
theorem dX1_rootWall_0 : decode cX1_rootWall 0 = .ok (.aload_n 0, 1) := by decide +kernel
theorem dX1_rootWall_1 : decode cX1_rootWall 1 = .ok (.getfield 15, 3) := by decide +kernel
theorem dX1_rootWall_4 : decode cX1_rootWall 4 = .ok (.ireturn, 1) := by decide +kernel
theorem dX1_search_0 : decode cX1_search 0 = .ok (.aload_n 0, 1) := by decide +kernel
theorem dX1_search_1 : decode cX1_search 1 = .ok (.iconst 0, 1) := by decide +kernel
theorem dX1_search_2 : decode cX1_search 2 = .ok (.putfield 9, 3) := by decide +kernel
theorem dX1_search_5 : decode cX1_search 5 = .ok (.aload_n 0, 1) := by decide +kernel
theorem dX1_search_6 : decode cX1_search 6 = .ok (.bipush (-8), 2) := by decide +kernel
theorem dX1_search_8 : decode cX1_search 8 = .ok (.putfield 15, 3) := by decide +kernel
theorem dX1_search_11 : decode cX1_search 11 = .ok (.aload_n 0, 1) := by decide +kernel
theorem dX1_search_12 : decode cX1_search 12 = .ok (.getfield 23, 3) := by decide +kernel
theorem dX1_search_15 : decode cX1_search 15 = .ok (.iconst 0, 1) := by decide +kernel
theorem dX1_search_16 : decode cX1_search 16 = .ok (.invokevirtual 27, 3) := by decide +kernel
theorem dX1_search_19 : decode cX1_search 19 = .ok (.aload_n 0, 1) := by decide +kernel
theorem dX1_search_20 : decode cX1_search 20 = .ok (.getfield 23, 3) := by decide +kernel
theorem dX1_search_23 : decode cX1_search 23 = .ok (.iconst 0, 1) := by decide +kernel
theorem dX1_search_24 : decode cX1_search 24 = .ok (.invokevirtual 31, 3) := by decide +kernel
theorem dX1_search_27 : decode cX1_search 27 = .ok (.aload_n 0, 1) := by decide +kernel
theorem dX1_search_28 : decode cX1_search 28 = .ok (.getfield 23, 3) := by decide +kernel
theorem dX1_search_31 : decode cX1_search 31 = .ok (.invokevirtual 35, 3) := by decide +kernel
theorem dX1_search_34 : decode cX1_search 34 = .ok (.istore_n 1, 1) := by decide +kernel
theorem dX1_search_35 : decode cX1_search 35 = .ok (.iconst 0, 1) := by decide +kernel
theorem dX1_search_36 : decode cX1_search 36 = .ok (.istore_n 2, 1) := by decide +kernel
theorem dX1_search_37 : decode cX1_search 37 = .ok (.iload_n 2, 1) := by decide +kernel
theorem dX1_search_38 : decode cX1_search 38 = .ok (.iload_n 1, 1) := by decide +kernel
theorem dX1_search_39 : decode cX1_search 39 = .ok (.if_icmp .ge 57, 3) := by decide +kernel
theorem dX1_search_42 : decode cX1_search 42 = .ok (.aload_n 0, 1) := by decide +kernel
theorem dX1_search_43 : decode cX1_search 43 = .ok (.getfield 23, 3) := by decide +kernel
theorem dX1_search_46 : decode cX1_search 46 = .ok (.iload_n 2, 1) := by decide +kernel
theorem dX1_search_47 : decode cX1_search 47 = .ok (.invokevirtual 39, 3) := by decide +kernel
theorem dX1_search_50 : decode cX1_search 50 = .ok (.istore_n 3, 1) := by decide +kernel
theorem dX1_search_51 : decode cX1_search 51 = .ok (.aload_n 0, 1) := by decide +kernel
theorem dX1_search_52 : decode cX1_search 52 = .ok (.iload_n 3, 1) := by decide +kernel
theorem dX1_search_53 : decode cX1_search 53 = .ok (.iconst 0, 1) := by decide +kernel
theorem dX1_search_54 : decode cX1_search 54 = .ok (.iload_n 1, 1) := by decide +kernel
theorem dX1_search_55 : decode cX1_search 55 = .ok (.iconst 0, 1) := by decide +kernel
theorem dX1_search_56 : decode cX1_search 56 = .ok (.invokevirtual 43, 3) := by decide +kernel
theorem dX1_search_59 : decode cX1_search 59 = .ok (.istore 4, 2) := by decide +kernel
theorem dX1_search_61 : decode cX1_search 61 = .ok (.aload_n 0, 1) := by decide +kernel
theorem dX1_search_62 : decode cX1_search 62 = .ok (.getfield 15, 3) := by decide +kernel
theorem dX1_search_65 : decode cX1_search 65 = .ok (.bipush (-8), 2) := by decide +kernel
theorem dX1_search_67 : decode cX1_search 67 = .ok (.if_icmp .eq 12, 3) := by decide +kernel
theorem dX1_search_70 : decode cX1_search 70 = .ok (.iload 4, 2) := by decide +kernel
theorem dX1_search_72 : decode cX1_search 72 = .ok (.aload_n 0, 1) := by decide +kernel
theorem dX1_search_73 : decode cX1_search 73 = .ok (.getfield 9, 3) := by decide +kernel
theorem dX1_search_76 : decode cX1_search 76 = .ok (.if_icmp .ge 14, 3) := by decide +kernel
theorem dX1_search_79 : decode cX1_search 79 = .ok (.aload_n 0, 1) := by decide +kernel
theorem dX1_search_80 : decode cX1_search 80 = .ok (.iload 4, 2) := by decide +kernel
theorem dX1_search_82 : decode cX1_search 82 = .ok (.putfield 9, 3) := by decide +kernel
theorem dX1_search_85 : decode cX1_search 85 = .ok (.aload_n 0, 1) := by decide +kernel
theorem dX1_search_86 : decode cX1_search 86 = .ok (.iload_n 3, 1) := by decide +kernel
theorem dX1_search_87 : decode cX1_search 87 = .ok (.putfield 15, 3) := by decide +kernel
theorem dX1_search_90 : decode cX1_search 90 = .ok (.iinc 2 1, 3) := by decide +kernel
theorem dX1_search_93 : decode cX1_search 93 = .ok (.goto (-56), 3) := by decide +kernel
theorem dX1_search_96 : decode cX1_search 96 = .ok (.return_, 1) := by decide +kernel
theorem dX1_fewestOf_0 : decode cX1_fewestOf 0 = .ok (.iload_n 1, 1) := by decide +kernel
theorem dX1_fewestOf_1 : decode cX1_fewestOf 1 = .ok (.iload_n 2, 1) := by decide +kernel
theorem dX1_fewestOf_2 : decode cX1_fewestOf 2 = .ok (.if_icmp .ge 8, 3) := by decide +kernel
theorem dX1_fewestOf_5 : decode cX1_fewestOf 5 = .ok (.iload_n 3, 1) := by decide +kernel
theorem dX1_fewestOf_6 : decode cX1_fewestOf 6 = .ok (.iconst 5, 1) := by decide +kernel
theorem dX1_fewestOf_7 : decode cX1_fewestOf 7 = .ok (.if_icmp .lt 5, 3) := by decide +kernel
theorem dX1_fewestOf_10 : decode cX1_fewestOf 10 = .ok (.iconst 0, 1) := by decide +kernel
theorem dX1_fewestOf_11 : decode cX1_fewestOf 11 = .ok (.ireturn, 1) := by decide +kernel
theorem dX1_fewestOf_12 : decode cX1_fewestOf 12 = .ok (.iconst (-1), 1) := by decide +kernel
theorem dX1_fewestOf_13 : decode cX1_fewestOf 13 = .ok (.istore 4, 2) := by decide +kernel
theorem dX1_fewestOf_15 : decode cX1_fewestOf 15 = .ok (.iload_n 1, 1) := by decide +kernel
theorem dX1_fewestOf_16 : decode cX1_fewestOf 16 = .ok (.istore 5, 2) := by decide +kernel
theorem dX1_fewestOf_18 : decode cX1_fewestOf 18 = .ok (.iload 5, 2) := by decide +kernel
theorem dX1_fewestOf_20 : decode cX1_fewestOf 20 = .ok (.iload_n 2, 1) := by decide +kernel
theorem dX1_fewestOf_21 : decode cX1_fewestOf 21 = .ok (.if_icmp .ge 43, 3) := by decide +kernel
theorem dX1_fewestOf_24 : decode cX1_fewestOf 24 = .ok (.aload_n 0, 1) := by decide +kernel
theorem dX1_fewestOf_25 : decode cX1_fewestOf 25 = .ok (.aload_n 0, 1) := by decide +kernel
theorem dX1_fewestOf_26 : decode cX1_fewestOf 26 = .ok (.getfield 23, 3) := by decide +kernel
theorem dX1_fewestOf_29 : decode cX1_fewestOf 29 = .ok (.iload 5, 2) := by decide +kernel
theorem dX1_fewestOf_31 : decode cX1_fewestOf 31 = .ok (.invokevirtual 39, 3) := by decide +kernel
theorem dX1_fewestOf_34 : decode cX1_fewestOf 34 = .ok (.iload_n 1, 1) := by decide +kernel
theorem dX1_fewestOf_35 : decode cX1_fewestOf 35 = .ok (.iload_n 2, 1) := by decide +kernel
theorem dX1_fewestOf_36 : decode cX1_fewestOf 36 = .ok (.iload_n 3, 1) := by decide +kernel
theorem dX1_fewestOf_37 : decode cX1_fewestOf 37 = .ok (.invokevirtual 43, 3) := by decide +kernel
theorem dX1_fewestOf_40 : decode cX1_fewestOf 40 = .ok (.istore 6, 2) := by decide +kernel
theorem dX1_fewestOf_42 : decode cX1_fewestOf 42 = .ok (.iload 4, 2) := by decide +kernel
theorem dX1_fewestOf_44 : decode cX1_fewestOf 44 = .ok (.ifCond .lt 10, 3) := by decide +kernel
theorem dX1_fewestOf_47 : decode cX1_fewestOf 47 = .ok (.iload 6, 2) := by decide +kernel
theorem dX1_fewestOf_49 : decode cX1_fewestOf 49 = .ok (.iload 4, 2) := by decide +kernel
theorem dX1_fewestOf_51 : decode cX1_fewestOf 51 = .ok (.if_icmp .ge 7, 3) := by decide +kernel
theorem dX1_fewestOf_54 : decode cX1_fewestOf 54 = .ok (.iload 6, 2) := by decide +kernel
theorem dX1_fewestOf_56 : decode cX1_fewestOf 56 = .ok (.istore 4, 2) := by decide +kernel
theorem dX1_fewestOf_58 : decode cX1_fewestOf 58 = .ok (.iinc 5 1, 3) := by decide +kernel
theorem dX1_fewestOf_61 : decode cX1_fewestOf 61 = .ok (.goto (-43), 3) := by decide +kernel
theorem dX1_fewestOf_64 : decode cX1_fewestOf 64 = .ok (.iload 4, 2) := by decide +kernel
theorem dX1_fewestOf_66 : decode cX1_fewestOf 66 = .ok (.ireturn, 1) := by decide +kernel
theorem dX1_fewestWith_0 : decode cX1_fewestWith 0 = .ok (.aload_n 0, 1) := by decide +kernel
theorem dX1_fewestWith_1 : decode cX1_fewestWith 1 = .ok (.getfield 23, 3) := by decide +kernel
theorem dX1_fewestWith_4 : decode cX1_fewestWith 4 = .ok (.invokevirtual 35, 3) := by decide +kernel
theorem dX1_fewestWith_7 : decode cX1_fewestWith 7 = .ok (.istore 5, 2) := by decide +kernel
theorem dX1_fewestWith_9 : decode cX1_fewestWith 9 = .ok (.aload_n 0, 1) := by decide +kernel
theorem dX1_fewestWith_10 : decode cX1_fewestWith 10 = .ok (.getfield 23, 3) := by decide +kernel
theorem dX1_fewestWith_13 : decode cX1_fewestWith 13 = .ok (.aload_n 0, 1) := by decide +kernel
theorem dX1_fewestWith_14 : decode cX1_fewestWith 14 = .ok (.getfield 23, 3) := by decide +kernel
theorem dX1_fewestWith_17 : decode cX1_fewestWith 17 = .ok (.iload_n 2, 1) := by decide +kernel
theorem dX1_fewestWith_18 : decode cX1_fewestWith 18 = .ok (.iload_n 3, 1) := by decide +kernel
theorem dX1_fewestWith_19 : decode cX1_fewestWith 19 = .ok (.iload_n 1, 1) := by decide +kernel
theorem dX1_fewestWith_20 : decode cX1_fewestWith 20 = .ok (.iconst 1, 1) := by decide +kernel
theorem dX1_fewestWith_21 : decode cX1_fewestWith 21 = .ok (.invokevirtual 47, 3) := by decide +kernel
theorem dX1_fewestWith_24 : decode cX1_fewestWith 24 = .ok (.aload_n 0, 1) := by decide +kernel
theorem dX1_fewestWith_25 : decode cX1_fewestWith 25 = .ok (.getfield 23, 3) := by decide +kernel
theorem dX1_fewestWith_28 : decode cX1_fewestWith 28 = .ok (.invokevirtual 35, 3) := by decide +kernel
theorem dX1_fewestWith_31 : decode cX1_fewestWith 31 = .ok (.istore 6, 2) := by decide +kernel
theorem dX1_fewestWith_33 : decode cX1_fewestWith 33 = .ok (.aload_n 0, 1) := by decide +kernel
theorem dX1_fewestWith_34 : decode cX1_fewestWith 34 = .ok (.getfield 23, 3) := by decide +kernel
theorem dX1_fewestWith_37 : decode cX1_fewestWith 37 = .ok (.aload_n 0, 1) := by decide +kernel
theorem dX1_fewestWith_38 : decode cX1_fewestWith 38 = .ok (.getfield 23, 3) := by decide +kernel
theorem dX1_fewestWith_41 : decode cX1_fewestWith 41 = .ok (.iload_n 2, 1) := by decide +kernel
theorem dX1_fewestWith_42 : decode cX1_fewestWith 42 = .ok (.iload_n 3, 1) := by decide +kernel
theorem dX1_fewestWith_43 : decode cX1_fewestWith 43 = .ok (.iload_n 1, 1) := by decide +kernel
theorem dX1_fewestWith_44 : decode cX1_fewestWith 44 = .ok (.iconst 2, 1) := by decide +kernel
theorem dX1_fewestWith_45 : decode cX1_fewestWith 45 = .ok (.invokevirtual 47, 3) := by decide +kernel
theorem dX1_fewestWith_48 : decode cX1_fewestWith 48 = .ok (.aload_n 0, 1) := by decide +kernel
theorem dX1_fewestWith_49 : decode cX1_fewestWith 49 = .ok (.getfield 23, 3) := by decide +kernel
theorem dX1_fewestWith_52 : decode cX1_fewestWith 52 = .ok (.invokevirtual 35, 3) := by decide +kernel
theorem dX1_fewestWith_55 : decode cX1_fewestWith 55 = .ok (.istore 7, 2) := by decide +kernel
theorem dX1_fewestWith_57 : decode cX1_fewestWith 57 = .ok (.aload_n 0, 1) := by decide +kernel
theorem dX1_fewestWith_58 : decode cX1_fewestWith 58 = .ok (.iload 5, 2) := by decide +kernel
theorem dX1_fewestWith_60 : decode cX1_fewestWith 60 = .ok (.iload 6, 2) := by decide +kernel
theorem dX1_fewestWith_62 : decode cX1_fewestWith 62 = .ok (.iload 4, 2) := by decide +kernel
theorem dX1_fewestWith_64 : decode cX1_fewestWith 64 = .ok (.iconst 1, 1) := by decide +kernel
theorem dX1_fewestWith_65 : decode cX1_fewestWith 65 = .ok (.iadd, 1) := by decide +kernel
theorem dX1_fewestWith_66 : decode cX1_fewestWith 66 = .ok (.invokevirtual 51, 3) := by decide +kernel
theorem dX1_fewestWith_69 : decode cX1_fewestWith 69 = .ok (.aload_n 0, 1) := by decide +kernel
theorem dX1_fewestWith_70 : decode cX1_fewestWith 70 = .ok (.iload 6, 2) := by decide +kernel
theorem dX1_fewestWith_72 : decode cX1_fewestWith 72 = .ok (.iload 7, 2) := by decide +kernel
theorem dX1_fewestWith_74 : decode cX1_fewestWith 74 = .ok (.iload 4, 2) := by decide +kernel
theorem dX1_fewestWith_76 : decode cX1_fewestWith 76 = .ok (.iconst 1, 1) := by decide +kernel
theorem dX1_fewestWith_77 : decode cX1_fewestWith 77 = .ok (.iadd, 1) := by decide +kernel
theorem dX1_fewestWith_78 : decode cX1_fewestWith 78 = .ok (.invokevirtual 51, 3) := by decide +kernel
theorem dX1_fewestWith_81 : decode cX1_fewestWith 81 = .ok (.iadd, 1) := by decide +kernel
theorem dX1_fewestWith_82 : decode cX1_fewestWith 82 = .ok (.istore 8, 2) := by decide +kernel
theorem dX1_fewestWith_84 : decode cX1_fewestWith 84 = .ok (.aload_n 0, 1) := by decide +kernel
theorem dX1_fewestWith_85 : decode cX1_fewestWith 85 = .ok (.getfield 23, 3) := by decide +kernel
theorem dX1_fewestWith_88 : decode cX1_fewestWith 88 = .ok (.iload 5, 2) := by decide +kernel
theorem dX1_fewestWith_90 : decode cX1_fewestWith 90 = .ok (.invokevirtual 27, 3) := by decide +kernel
theorem dX1_fewestWith_93 : decode cX1_fewestWith 93 = .ok (.iload_n 2, 1) := by decide +kernel
theorem dX1_fewestWith_94 : decode cX1_fewestWith 94 = .ok (.istore 9, 2) := by decide +kernel
theorem dX1_fewestWith_96 : decode cX1_fewestWith 96 = .ok (.iload 9, 2) := by decide +kernel
theorem dX1_fewestWith_98 : decode cX1_fewestWith 98 = .ok (.iload_n 3, 1) := by decide +kernel
theorem dX1_fewestWith_99 : decode cX1_fewestWith 99 = .ok (.if_icmp .ge 25, 3) := by decide +kernel
theorem dX1_fewestWith_102 : decode cX1_fewestWith 102 = .ok (.aload_n 0, 1) := by decide +kernel
theorem dX1_fewestWith_103 : decode cX1_fewestWith 103 = .ok (.getfield 23, 3) := by decide +kernel
theorem dX1_fewestWith_106 : decode cX1_fewestWith 106 = .ok (.iload 9, 2) := by decide +kernel
theorem dX1_fewestWith_108 : decode cX1_fewestWith 108 = .ok (.iload_n 1, 1) := by decide +kernel
theorem dX1_fewestWith_109 : decode cX1_fewestWith 109 = .ok (.invokevirtual 55, 3) := by decide +kernel
theorem dX1_fewestWith_112 : decode cX1_fewestWith 112 = .ok (.ifCond .ne 6, 3) := by decide +kernel
theorem dX1_fewestWith_115 : decode cX1_fewestWith 115 = .ok (.iinc 8 1, 3) := by decide +kernel
theorem dX1_fewestWith_118 : decode cX1_fewestWith 118 = .ok (.iinc 9 1, 3) := by decide +kernel
theorem dX1_fewestWith_121 : decode cX1_fewestWith 121 = .ok (.goto (-25), 3) := by decide +kernel
theorem dX1_fewestWith_124 : decode cX1_fewestWith 124 = .ok (.iload 8, 2) := by decide +kernel
theorem dX1_fewestWith_126 : decode cX1_fewestWith 126 = .ok (.ireturn, 1) := by decide +kernel
theorem dX2_init_0 : decode cX2_init 0 = .ok (.aload_n 0, 1) := by decide +kernel
theorem dX2_init_1 : decode cX2_init 1 = .ok (.invokespecial 1, 3) := by decide +kernel
theorem dX2_init_4 : decode cX2_init 4 = .ok (.aload_n 0, 1) := by decide +kernel
theorem dX2_init_5 : decode cX2_init 5 = .ok (.bipush 8, 2) := by decide +kernel
theorem dX2_init_7 : decode cX2_init 7 = .ok (.anewarray 9, 3) := by decide +kernel
theorem dX2_init_10 : decode cX2_init 10 = .ok (.putfield 11, 3) := by decide +kernel
theorem dX2_init_13 : decode cX2_init 13 = .ok (.iconst 0, 1) := by decide +kernel
theorem dX2_init_14 : decode cX2_init 14 = .ok (.istore_n 1, 1) := by decide +kernel
theorem dX2_init_15 : decode cX2_init 15 = .ok (.iload_n 1, 1) := by decide +kernel
theorem dX2_init_16 : decode cX2_init 16 = .ok (.bipush 8, 2) := by decide +kernel
theorem dX2_init_18 : decode cX2_init 18 = .ok (.if_icmp .ge 22, 3) := by decide +kernel
theorem dX2_init_21 : decode cX2_init 21 = .ok (.aload_n 0, 1) := by decide +kernel
theorem dX2_init_22 : decode cX2_init 22 = .ok (.getfield 11, 3) := by decide +kernel
theorem dX2_init_25 : decode cX2_init 25 = .ok (.iload_n 1, 1) := by decide +kernel
theorem dX2_init_26 : decode cX2_init 26 = .ok (.new 9, 3) := by decide +kernel
theorem dX2_init_29 : decode cX2_init 29 = .ok (.dup, 1) := by decide +kernel
theorem dX2_init_30 : decode cX2_init 30 = .ok (.invokespecial 15, 3) := by decide +kernel
theorem dX2_init_33 : decode cX2_init 33 = .ok (.aastore, 1) := by decide +kernel
theorem dX2_init_34 : decode cX2_init 34 = .ok (.iinc 1 1, 3) := by decide +kernel
theorem dX2_init_37 : decode cX2_init 37 = .ok (.goto (-22), 3) := by decide +kernel
theorem dX2_init_40 : decode cX2_init 40 = .ok (.aload_n 0, 1) := by decide +kernel
theorem dX2_init_41 : decode cX2_init 41 = .ok (.iconst 0, 1) := by decide +kernel
theorem dX2_init_42 : decode cX2_init 42 = .ok (.putfield 16, 3) := by decide +kernel
theorem dX2_init_45 : decode cX2_init 45 = .ok (.aload_n 0, 1) := by decide +kernel
theorem dX2_init_46 : decode cX2_init 46 = .ok (.iconst 0, 1) := by decide +kernel
theorem dX2_init_47 : decode cX2_init 47 = .ok (.putfield 20, 3) := by decide +kernel
theorem dX2_init_50 : decode cX2_init 50 = .ok (.return_, 1) := by decide +kernel
theorem dX2_isEmpty_0 : decode cX2_isEmpty 0 = .ok (.aload_n 0, 1) := by decide +kernel
theorem dX2_isEmpty_1 : decode cX2_isEmpty 1 = .ok (.getfield 20, 3) := by decide +kernel
theorem dX2_isEmpty_4 : decode cX2_isEmpty 4 = .ok (.ifCond .ne 7, 3) := by decide +kernel
theorem dX2_isEmpty_7 : decode cX2_isEmpty 7 = .ok (.iconst 1, 1) := by decide +kernel
theorem dX2_isEmpty_8 : decode cX2_isEmpty 8 = .ok (.goto 4, 3) := by decide +kernel
theorem dX2_isEmpty_11 : decode cX2_isEmpty 11 = .ok (.iconst 0, 1) := by decide +kernel
theorem dX2_isEmpty_12 : decode cX2_isEmpty 12 = .ok (.ireturn, 1) := by decide +kernel
theorem dX2_size_0 : decode cX2_size 0 = .ok (.aload_n 0, 1) := by decide +kernel
theorem dX2_size_1 : decode cX2_size 1 = .ok (.getfield 20, 3) := by decide +kernel
theorem dX2_size_4 : decode cX2_size 4 = .ok (.ireturn, 1) := by decide +kernel
theorem dX2_keep_0 : decode cX2_keep 0 = .ok (.aload_n 0, 1) := by decide +kernel
theorem dX2_keep_1 : decode cX2_keep 1 = .ok (.aload_n 0, 1) := by decide +kernel
theorem dX2_keep_2 : decode cX2_keep 2 = .ok (.getfield 16, 3) := by decide +kernel
theorem dX2_keep_5 : decode cX2_keep 5 = .ok (.invokevirtual 23, 3) := by decide +kernel
theorem dX2_keep_8 : decode cX2_keep 8 = .ok (.astore_n 2, 1) := by decide +kernel
theorem dX2_keep_9 : decode cX2_keep 9 = .ok (.aload_n 2, 1) := by decide +kernel
theorem dX2_keep_10 : decode cX2_keep 10 = .ok (.ifnonnull 4, 3) := by decide +kernel
theorem dX2_keep_13 : decode cX2_keep 13 = .ok (.return_, 1) := by decide +kernel
theorem dX2_keep_14 : decode cX2_keep 14 = .ok (.aload_n 2, 1) := by decide +kernel
theorem dX2_keep_15 : decode cX2_keep 15 = .ok (.aload_n 1, 1) := by decide +kernel
theorem dX2_keep_16 : decode cX2_keep 16 = .ok (.invokevirtual 27, 3) := by decide +kernel
theorem dX2_keep_19 : decode cX2_keep 19 = .ok (.aload_n 0, 1) := by decide +kernel
theorem dX2_keep_20 : decode cX2_keep 20 = .ok (.aload_n 0, 1) := by decide +kernel
theorem dX2_keep_21 : decode cX2_keep 21 = .ok (.getfield 16, 3) := by decide +kernel
theorem dX2_keep_24 : decode cX2_keep 24 = .ok (.iconst 1, 1) := by decide +kernel
theorem dX2_keep_25 : decode cX2_keep 25 = .ok (.iadd, 1) := by decide +kernel
theorem dX2_keep_26 : decode cX2_keep 26 = .ok (.bipush 8, 2) := by decide +kernel
theorem dX2_keep_28 : decode cX2_keep 28 = .ok (.if_icmp .ge 12, 3) := by decide +kernel
theorem dX2_keep_31 : decode cX2_keep 31 = .ok (.aload_n 0, 1) := by decide +kernel
theorem dX2_keep_32 : decode cX2_keep 32 = .ok (.getfield 16, 3) := by decide +kernel
theorem dX2_keep_35 : decode cX2_keep 35 = .ok (.iconst 1, 1) := by decide +kernel
theorem dX2_keep_36 : decode cX2_keep 36 = .ok (.iadd, 1) := by decide +kernel
theorem dX2_keep_37 : decode cX2_keep 37 = .ok (.goto 4, 3) := by decide +kernel
theorem dX2_keep_40 : decode cX2_keep 40 = .ok (.iconst 0, 1) := by decide +kernel
theorem dX2_keep_41 : decode cX2_keep 41 = .ok (.putfield 16, 3) := by decide +kernel
theorem dX2_keep_44 : decode cX2_keep 44 = .ok (.aload_n 0, 1) := by decide +kernel
theorem dX2_keep_45 : decode cX2_keep 45 = .ok (.aload_n 0, 1) := by decide +kernel
theorem dX2_keep_46 : decode cX2_keep 46 = .ok (.getfield 20, 3) := by decide +kernel
theorem dX2_keep_49 : decode cX2_keep 49 = .ok (.bipush 8, 2) := by decide +kernel
theorem dX2_keep_51 : decode cX2_keep 51 = .ok (.if_icmp .ge 12, 3) := by decide +kernel
theorem dX2_keep_54 : decode cX2_keep 54 = .ok (.aload_n 0, 1) := by decide +kernel
theorem dX2_keep_55 : decode cX2_keep 55 = .ok (.getfield 20, 3) := by decide +kernel
theorem dX2_keep_58 : decode cX2_keep 58 = .ok (.iconst 1, 1) := by decide +kernel
theorem dX2_keep_59 : decode cX2_keep 59 = .ok (.iadd, 1) := by decide +kernel
theorem dX2_keep_60 : decode cX2_keep 60 = .ok (.goto 5, 3) := by decide +kernel
theorem dX2_keep_63 : decode cX2_keep 63 = .ok (.bipush 8, 2) := by decide +kernel
theorem dX2_keep_65 : decode cX2_keep 65 = .ok (.putfield 20, 3) := by decide +kernel
theorem dX2_keep_68 : decode cX2_keep 68 = .ok (.return_, 1) := by decide +kernel
theorem dX2_restore_0 : decode cX2_restore 0 = .ok (.aload_n 0, 1) := by decide +kernel
theorem dX2_restore_1 : decode cX2_restore 1 = .ok (.getfield 16, 3) := by decide +kernel
theorem dX2_restore_4 : decode cX2_restore 4 = .ok (.ifCond .le 12, 3) := by decide +kernel
theorem dX2_restore_7 : decode cX2_restore 7 = .ok (.aload_n 0, 1) := by decide +kernel
theorem dX2_restore_8 : decode cX2_restore 8 = .ok (.getfield 16, 3) := by decide +kernel
theorem dX2_restore_11 : decode cX2_restore 11 = .ok (.iconst 1, 1) := by decide +kernel
theorem dX2_restore_12 : decode cX2_restore 12 = .ok (.isub, 1) := by decide +kernel
theorem dX2_restore_13 : decode cX2_restore 13 = .ok (.goto 5, 3) := by decide +kernel
theorem dX2_restore_16 : decode cX2_restore 16 = .ok (.bipush 7, 2) := by decide +kernel
theorem dX2_restore_18 : decode cX2_restore 18 = .ok (.istore_n 2, 1) := by decide +kernel
theorem dX2_restore_19 : decode cX2_restore 19 = .ok (.aload_n 0, 1) := by decide +kernel
theorem dX2_restore_20 : decode cX2_restore 20 = .ok (.iload_n 2, 1) := by decide +kernel
theorem dX2_restore_21 : decode cX2_restore 21 = .ok (.invokevirtual 23, 3) := by decide +kernel
theorem dX2_restore_24 : decode cX2_restore 24 = .ok (.astore_n 3, 1) := by decide +kernel
theorem dX2_restore_25 : decode cX2_restore 25 = .ok (.aload_n 3, 1) := by decide +kernel
theorem dX2_restore_26 : decode cX2_restore 26 = .ok (.ifnull 10, 3) := by decide +kernel
theorem dX2_restore_29 : decode cX2_restore 29 = .ok (.aload_n 0, 1) := by decide +kernel
theorem dX2_restore_30 : decode cX2_restore 30 = .ok (.getfield 20, 3) := by decide +kernel
theorem dX2_restore_33 : decode cX2_restore 33 = .ok (.ifCond .ne 4, 3) := by decide +kernel
theorem dX2_restore_36 : decode cX2_restore 36 = .ok (.return_, 1) := by decide +kernel
theorem dX2_restore_37 : decode cX2_restore 37 = .ok (.aload_n 1, 1) := by decide +kernel
theorem dX2_restore_38 : decode cX2_restore 38 = .ok (.aload_n 3, 1) := by decide +kernel
theorem dX2_restore_39 : decode cX2_restore 39 = .ok (.invokevirtual 27, 3) := by decide +kernel
theorem dX2_restore_42 : decode cX2_restore 42 = .ok (.aload_n 0, 1) := by decide +kernel
theorem dX2_restore_43 : decode cX2_restore 43 = .ok (.iload_n 2, 1) := by decide +kernel
theorem dX2_restore_44 : decode cX2_restore 44 = .ok (.putfield 16, 3) := by decide +kernel
theorem dX2_restore_47 : decode cX2_restore 47 = .ok (.aload_n 0, 1) := by decide +kernel
theorem dX2_restore_48 : decode cX2_restore 48 = .ok (.dup, 1) := by decide +kernel
theorem dX2_restore_49 : decode cX2_restore 49 = .ok (.getfield 20, 3) := by decide +kernel
theorem dX2_restore_52 : decode cX2_restore 52 = .ok (.iconst 1, 1) := by decide +kernel
theorem dX2_restore_53 : decode cX2_restore 53 = .ok (.isub, 1) := by decide +kernel
theorem dX2_restore_54 : decode cX2_restore 54 = .ok (.putfield 20, 3) := by decide +kernel
theorem dX2_restore_57 : decode cX2_restore 57 = .ok (.return_, 1) := by decide +kernel
theorem dX2_placeAt_0 : decode cX2_placeAt 0 = .ok (.iload_n 1, 1) := by decide +kernel
theorem dX2_placeAt_1 : decode cX2_placeAt 1 = .ok (.ifCond .lt 18, 3) := by decide +kernel
theorem dX2_placeAt_4 : decode cX2_placeAt 4 = .ok (.iload_n 1, 1) := by decide +kernel
theorem dX2_placeAt_5 : decode cX2_placeAt 5 = .ok (.bipush 8, 2) := by decide +kernel
theorem dX2_placeAt_7 : decode cX2_placeAt 7 = .ok (.if_icmp .ge 12, 3) := by decide +kernel
theorem dX2_placeAt_10 : decode cX2_placeAt 10 = .ok (.aload_n 0, 1) := by decide +kernel
theorem dX2_placeAt_11 : decode cX2_placeAt 11 = .ok (.getfield 11, 3) := by decide +kernel
theorem dX2_placeAt_14 : decode cX2_placeAt 14 = .ok (.iload_n 1, 1) := by decide +kernel
theorem dX2_placeAt_15 : decode cX2_placeAt 15 = .ok (.aaload, 1) := by decide +kernel
theorem dX2_placeAt_16 : decode cX2_placeAt 16 = .ok (.goto 4, 3) := by decide +kernel
theorem dX2_placeAt_19 : decode cX2_placeAt 19 = .ok (.aconst_null, 1) := by decide +kernel
theorem dX2_placeAt_20 : decode cX2_placeAt 20 = .ok (.areturn, 1) := by decide +kernel
theorem dX3_init_0 : decode cX3_init 0 = .ok (.aload_n 0, 1) := by decide +kernel
theorem dX3_init_1 : decode cX3_init 1 = .ok (.invokespecial 3, 3) := by decide +kernel
theorem dX3_init_4 : decode cX3_init 4 = .ok (.aload_n 0, 1) := by decide +kernel
theorem dX3_init_5 : decode cX3_init 5 = .ok (.bipush (-8), 2) := by decide +kernel
theorem dX3_init_7 : decode cX3_init 7 = .ok (.putfield 9, 3) := by decide +kernel
theorem dX3_init_10 : decode cX3_init 10 = .ok (.aload_n 0, 1) := by decide +kernel
theorem dX3_init_11 : decode cX3_init 11 = .ok (.lconst 0, 1) := by decide +kernel
theorem dX3_init_12 : decode cX3_init 12 = .ok (.putfield 15, 3) := by decide +kernel
theorem dX3_init_15 : decode cX3_init 15 = .ok (.aload_n 0, 1) := by decide +kernel
theorem dX3_init_16 : decode cX3_init 16 = .ok (.lconst 1, 1) := by decide +kernel
theorem dX3_init_17 : decode cX3_init 17 = .ok (.putfield 19, 3) := by decide +kernel
theorem dX3_init_20 : decode cX3_init 20 = .ok (.aload_n 0, 1) := by decide +kernel
theorem dX3_init_21 : decode cX3_init 21 = .ok (.aload_n 1, 1) := by decide +kernel
theorem dX3_init_22 : decode cX3_init 22 = .ok (.putfield 22, 3) := by decide +kernel
theorem dX3_init_25 : decode cX3_init 25 = .ok (.return_, 1) := by decide +kernel
theorem dX3_wall_0 : decode cX3_wall 0 = .ok (.aload_n 0, 1) := by decide +kernel
theorem dX3_wall_1 : decode cX3_wall 1 = .ok (.getfield 9, 3) := by decide +kernel
theorem dX3_wall_4 : decode cX3_wall 4 = .ok (.ireturn, 1) := by decide +kernel
theorem dX3_top_0 : decode cX3_top 0 = .ok (.aload_n 0, 1) := by decide +kernel
theorem dX3_top_1 : decode cX3_top 1 = .ok (.getfield 15, 3) := by decide +kernel
theorem dX3_top_4 : decode cX3_top 4 = .ok (.lreturn, 1) := by decide +kernel
theorem dX3_bottom_0 : decode cX3_bottom 0 = .ok (.aload_n 0, 1) := by decide +kernel
theorem dX3_bottom_1 : decode cX3_bottom 1 = .ok (.getfield 19, 3) := by decide +kernel
theorem dX3_bottom_4 : decode cX3_bottom 4 = .ok (.lreturn, 1) := by decide +kernel
theorem dX3_find_0 : decode cX3_find 0 = .ok (.aload_n 0, 1) := by decide +kernel
theorem dX3_find_1 : decode cX3_find 1 = .ok (.bipush (-8), 2) := by decide +kernel
theorem dX3_find_3 : decode cX3_find 3 = .ok (.putfield 9, 3) := by decide +kernel
theorem dX3_find_6 : decode cX3_find 6 = .ok (.iconst 0, 1) := by decide +kernel
theorem dX3_find_7 : decode cX3_find 7 = .ok (.istore_n 3, 1) := by decide +kernel
theorem dX3_find_8 : decode cX3_find 8 = .ok (.iload_n 3, 1) := by decide +kernel
theorem dX3_find_9 : decode cX3_find 9 = .ok (.bipush 12, 2) := by decide +kernel
theorem dX3_find_11 : decode cX3_find 11 = .ok (.if_icmp .ge 27, 3) := by decide +kernel
theorem dX3_find_14 : decode cX3_find 14 = .ok (.aload_n 0, 1) := by decide +kernel
theorem dX3_find_15 : decode cX3_find 15 = .ok (.getfield 22, 3) := by decide +kernel
theorem dX3_find_18 : decode cX3_find 18 = .ok (.iload_n 3, 1) := by decide +kernel
theorem dX3_find_19 : decode cX3_find 19 = .ok (.invokevirtual 26, 3) := by decide +kernel
theorem dX3_find_22 : decode cX3_find 22 = .ok (.ifCond .eq 10, 3) := by decide +kernel
theorem dX3_find_25 : decode cX3_find 25 = .ok (.aload_n 0, 1) := by decide +kernel
theorem dX3_find_26 : decode cX3_find 26 = .ok (.iload_n 3, 1) := by decide +kernel
theorem dX3_find_27 : decode cX3_find 27 = .ok (.iload_n 1, 1) := by decide +kernel
theorem dX3_find_28 : decode cX3_find 28 = .ok (.iload_n 2, 1) := by decide +kernel
theorem dX3_find_29 : decode cX3_find 29 = .ok (.invokevirtual 32, 3) := by decide +kernel
theorem dX3_find_32 : decode cX3_find 32 = .ok (.iinc 3 1, 3) := by decide +kernel
theorem dX3_find_35 : decode cX3_find 35 = .ok (.goto (-27), 3) := by decide +kernel
theorem dX3_find_38 : decode cX3_find 38 = .ok (.return_, 1) := by decide +kernel
theorem dX3_compare_0 : decode cX3_compare 0 = .ok (.aload_n 0, 1) := by decide +kernel
theorem dX3_compare_1 : decode cX3_compare 1 = .ok (.getfield 22, 3) := by decide +kernel
theorem dX3_compare_4 : decode cX3_compare 4 = .ok (.iload_n 1, 1) := by decide +kernel
theorem dX3_compare_5 : decode cX3_compare 5 = .ok (.invokevirtual 36, 3) := by decide +kernel
theorem dX3_compare_8 : decode cX3_compare 8 = .ok (.i2l, 1) := by decide +kernel
theorem dX3_compare_9 : decode cX3_compare 9 = .ok (.lstore 4, 2) := by decide +kernel
theorem dX3_compare_11 : decode cX3_compare 11 = .ok (.aload_n 0, 1) := by decide +kernel
theorem dX3_compare_12 : decode cX3_compare 12 = .ok (.iload_n 1, 1) := by decide +kernel
theorem dX3_compare_13 : decode cX3_compare 13 = .ok (.iload_n 2, 1) := by decide +kernel
theorem dX3_compare_14 : decode cX3_compare 14 = .ok (.iload_n 3, 1) := by decide +kernel
theorem dX3_compare_15 : decode cX3_compare 15 = .ok (.invokevirtual 40, 3) := by decide +kernel
theorem dX3_compare_18 : decode cX3_compare 18 = .ok (.lstore 6, 2) := by decide +kernel
theorem dX3_compare_20 : decode cX3_compare 20 = .ok (.lload 6, 2) := by decide +kernel
theorem dX3_compare_22 : decode cX3_compare 22 = .ok (.lconst 0, 1) := by decide +kernel
theorem dX3_compare_23 : decode cX3_compare 23 = .ok (.lcmp, 1) := by decide +kernel
theorem dX3_compare_24 : decode cX3_compare 24 = .ok (.ifCond .gt 35, 3) := by decide +kernel
theorem dX3_compare_27 : decode cX3_compare 27 = .ok (.aload_n 0, 1) := by decide +kernel
theorem dX3_compare_28 : decode cX3_compare 28 = .ok (.iload_n 1, 1) := by decide +kernel
theorem dX3_compare_29 : decode cX3_compare 29 = .ok (.iload_n 2, 1) := by decide +kernel
theorem dX3_compare_30 : decode cX3_compare 30 = .ok (.aload_n 0, 1) := by decide +kernel
theorem dX3_compare_31 : decode cX3_compare 31 = .ok (.getfield 22, 3) := by decide +kernel
theorem dX3_compare_34 : decode cX3_compare 34 = .ok (.iload_n 1, 1) := by decide +kernel
theorem dX3_compare_35 : decode cX3_compare 35 = .ok (.invokevirtual 44, 3) := by decide +kernel
theorem dX3_compare_38 : decode cX3_compare 38 = .ok (.isub, 1) := by decide +kernel
theorem dX3_compare_39 : decode cX3_compare 39 = .ok (.iload_n 3, 1) := by decide +kernel
theorem dX3_compare_40 : decode cX3_compare 40 = .ok (.aload_n 0, 1) := by decide +kernel
theorem dX3_compare_41 : decode cX3_compare 41 = .ok (.getfield 22, 3) := by decide +kernel
theorem dX3_compare_44 : decode cX3_compare 44 = .ok (.iload_n 1, 1) := by decide +kernel
theorem dX3_compare_45 : decode cX3_compare 45 = .ok (.invokevirtual 47, 3) := by decide +kernel
theorem dX3_compare_48 : decode cX3_compare 48 = .ok (.isub, 1) := by decide +kernel
theorem dX3_compare_49 : decode cX3_compare 49 = .ok (.invokestatic 50, 3) := by decide +kernel
theorem dX3_compare_52 : decode cX3_compare 52 = .ok (.lconst 1, 1) := by decide +kernel
theorem dX3_compare_53 : decode cX3_compare 53 = .ok (.invokevirtual 54, 3) := by decide +kernel
theorem dX3_compare_56 : decode cX3_compare 56 = .ok (.goto 68, 3) := by decide +kernel
theorem dX3_compare_59 : decode cX3_compare 59 = .ok (.lload 6, 2) := by decide +kernel
theorem dX3_compare_61 : decode cX3_compare 61 = .ok (.lload 4, 2) := by decide +kernel
theorem dX3_compare_63 : decode cX3_compare 63 = .ok (.lcmp, 1) := by decide +kernel
theorem dX3_compare_64 : decode cX3_compare 64 = .ok (.ifCond .lt 35, 3) := by decide +kernel
theorem dX3_compare_67 : decode cX3_compare 67 = .ok (.aload_n 0, 1) := by decide +kernel
theorem dX3_compare_68 : decode cX3_compare 68 = .ok (.iload_n 1, 1) := by decide +kernel
theorem dX3_compare_69 : decode cX3_compare 69 = .ok (.iload_n 2, 1) := by decide +kernel
theorem dX3_compare_70 : decode cX3_compare 70 = .ok (.aload_n 0, 1) := by decide +kernel
theorem dX3_compare_71 : decode cX3_compare 71 = .ok (.getfield 22, 3) := by decide +kernel
theorem dX3_compare_74 : decode cX3_compare 74 = .ok (.iload_n 1, 1) := by decide +kernel
theorem dX3_compare_75 : decode cX3_compare 75 = .ok (.invokevirtual 58, 3) := by decide +kernel
theorem dX3_compare_78 : decode cX3_compare 78 = .ok (.isub, 1) := by decide +kernel
theorem dX3_compare_79 : decode cX3_compare 79 = .ok (.iload_n 3, 1) := by decide +kernel
theorem dX3_compare_80 : decode cX3_compare 80 = .ok (.aload_n 0, 1) := by decide +kernel
theorem dX3_compare_81 : decode cX3_compare 81 = .ok (.getfield 22, 3) := by decide +kernel
theorem dX3_compare_84 : decode cX3_compare 84 = .ok (.iload_n 1, 1) := by decide +kernel
theorem dX3_compare_85 : decode cX3_compare 85 = .ok (.invokevirtual 61, 3) := by decide +kernel
theorem dX3_compare_88 : decode cX3_compare 88 = .ok (.isub, 1) := by decide +kernel
theorem dX3_compare_89 : decode cX3_compare 89 = .ok (.invokestatic 50, 3) := by decide +kernel
theorem dX3_compare_92 : decode cX3_compare 92 = .ok (.lconst 1, 1) := by decide +kernel
theorem dX3_compare_93 : decode cX3_compare 93 = .ok (.invokevirtual 54, 3) := by decide +kernel
theorem dX3_compare_96 : decode cX3_compare 96 = .ok (.goto 28, 3) := by decide +kernel
theorem dX3_compare_99 : decode cX3_compare 99 = .ok (.aload_n 0, 1) := by decide +kernel
theorem dX3_compare_100 : decode cX3_compare 100 = .ok (.getfield 22, 3) := by decide +kernel
theorem dX3_compare_103 : decode cX3_compare 103 = .ok (.iload_n 1, 1) := by decide +kernel
theorem dX3_compare_104 : decode cX3_compare 104 = .ok (.iload_n 2, 1) := by decide +kernel
theorem dX3_compare_105 : decode cX3_compare 105 = .ok (.iload_n 3, 1) := by decide +kernel
theorem dX3_compare_106 : decode cX3_compare 106 = .ok (.invokevirtual 64, 3) := by decide +kernel
theorem dX3_compare_109 : decode cX3_compare 109 = .ok (.i2l, 1) := by decide +kernel
theorem dX3_compare_110 : decode cX3_compare 110 = .ok (.lstore 8, 2) := by decide +kernel
theorem dX3_compare_112 : decode cX3_compare 112 = .ok (.aload_n 0, 1) := by decide +kernel
theorem dX3_compare_113 : decode cX3_compare 113 = .ok (.iload_n 1, 1) := by decide +kernel
theorem dX3_compare_114 : decode cX3_compare 114 = .ok (.lload 8, 2) := by decide +kernel
theorem dX3_compare_116 : decode cX3_compare 116 = .ok (.lload 8, 2) := by decide +kernel
theorem dX3_compare_118 : decode cX3_compare 118 = .ok (.lmul, 1) := by decide +kernel
theorem dX3_compare_119 : decode cX3_compare 119 = .ok (.lload 4, 2) := by decide +kernel
theorem dX3_compare_121 : decode cX3_compare 121 = .ok (.invokevirtual 54, 3) := by decide +kernel
theorem dX3_compare_124 : decode cX3_compare 124 = .ok (.return_, 1) := by decide +kernel
theorem dX3_along_0 : decode cX3_along 0 = .ok (.aload_n 0, 1) := by decide +kernel
theorem dX3_along_1 : decode cX3_along 1 = .ok (.getfield 22, 3) := by decide +kernel
theorem dX3_along_4 : decode cX3_along 4 = .ok (.iload_n 1, 1) := by decide +kernel
theorem dX3_along_5 : decode cX3_along 5 = .ok (.invokevirtual 68, 3) := by decide +kernel
theorem dX3_along_8 : decode cX3_along 8 = .ok (.iload_n 2, 1) := by decide +kernel
theorem dX3_along_9 : decode cX3_along 9 = .ok (.aload_n 0, 1) := by decide +kernel
theorem dX3_along_10 : decode cX3_along 10 = .ok (.getfield 22, 3) := by decide +kernel
theorem dX3_along_13 : decode cX3_along 13 = .ok (.iload_n 1, 1) := by decide +kernel
theorem dX3_along_14 : decode cX3_along 14 = .ok (.invokevirtual 44, 3) := by decide +kernel
theorem dX3_along_17 : decode cX3_along 17 = .ok (.isub, 1) := by decide +kernel
theorem dX3_along_18 : decode cX3_along 18 = .ok (.imul, 1) := by decide +kernel
theorem dX3_along_19 : decode cX3_along 19 = .ok (.aload_n 0, 1) := by decide +kernel
theorem dX3_along_20 : decode cX3_along 20 = .ok (.getfield 22, 3) := by decide +kernel
theorem dX3_along_23 : decode cX3_along 23 = .ok (.iload_n 1, 1) := by decide +kernel
theorem dX3_along_24 : decode cX3_along 24 = .ok (.invokevirtual 71, 3) := by decide +kernel
theorem dX3_along_27 : decode cX3_along 27 = .ok (.iload_n 3, 1) := by decide +kernel
theorem dX3_along_28 : decode cX3_along 28 = .ok (.aload_n 0, 1) := by decide +kernel
theorem dX3_along_29 : decode cX3_along 29 = .ok (.getfield 22, 3) := by decide +kernel
theorem dX3_along_32 : decode cX3_along 32 = .ok (.iload_n 1, 1) := by decide +kernel
theorem dX3_along_33 : decode cX3_along 33 = .ok (.invokevirtual 47, 3) := by decide +kernel
theorem dX3_along_36 : decode cX3_along 36 = .ok (.isub, 1) := by decide +kernel
theorem dX3_along_37 : decode cX3_along 37 = .ok (.imul, 1) := by decide +kernel
theorem dX3_along_38 : decode cX3_along 38 = .ok (.iadd, 1) := by decide +kernel
theorem dX3_along_39 : decode cX3_along 39 = .ok (.i2l, 1) := by decide +kernel
theorem dX3_along_40 : decode cX3_along 40 = .ok (.lreturn, 1) := by decide +kernel
theorem dX3_squaredWay_0 : decode cX3_squaredWay 0 = .ok (.iload_n 0, 1) := by decide +kernel
theorem dX3_squaredWay_1 : decode cX3_squaredWay 1 = .ok (.i2l, 1) := by decide +kernel
theorem dX3_squaredWay_2 : decode cX3_squaredWay 2 = .ok (.iload_n 0, 1) := by decide +kernel
theorem dX3_squaredWay_3 : decode cX3_squaredWay 3 = .ok (.i2l, 1) := by decide +kernel
theorem dX3_squaredWay_4 : decode cX3_squaredWay 4 = .ok (.lmul, 1) := by decide +kernel
theorem dX3_squaredWay_5 : decode cX3_squaredWay 5 = .ok (.iload_n 1, 1) := by decide +kernel
theorem dX3_squaredWay_6 : decode cX3_squaredWay 6 = .ok (.i2l, 1) := by decide +kernel
theorem dX3_squaredWay_7 : decode cX3_squaredWay 7 = .ok (.iload_n 1, 1) := by decide +kernel
theorem dX3_squaredWay_8 : decode cX3_squaredWay 8 = .ok (.i2l, 1) := by decide +kernel
theorem dX3_squaredWay_9 : decode cX3_squaredWay 9 = .ok (.lmul, 1) := by decide +kernel
theorem dX3_squaredWay_10 : decode cX3_squaredWay 10 = .ok (.ladd, 1) := by decide +kernel
theorem dX3_squaredWay_11 : decode cX3_squaredWay 11 = .ok (.lreturn, 1) := by decide +kernel
theorem dX3_offer_0 : decode cX3_offer 0 = .ok (.aload_n 0, 1) := by decide +kernel
theorem dX3_offer_1 : decode cX3_offer 1 = .ok (.getfield 9, 3) := by decide +kernel
theorem dX3_offer_4 : decode cX3_offer 4 = .ok (.bipush (-8), 2) := by decide +kernel
theorem dX3_offer_6 : decode cX3_offer 6 = .ok (.if_icmp .eq 20, 3) := by decide +kernel
theorem dX3_offer_9 : decode cX3_offer 9 = .ok (.lload_n 2, 1) := by decide +kernel
theorem dX3_offer_10 : decode cX3_offer 10 = .ok (.aload_n 0, 1) := by decide +kernel
theorem dX3_offer_11 : decode cX3_offer 11 = .ok (.getfield 19, 3) := by decide +kernel
theorem dX3_offer_14 : decode cX3_offer 14 = .ok (.lmul, 1) := by decide +kernel
theorem dX3_offer_15 : decode cX3_offer 15 = .ok (.aload_n 0, 1) := by decide +kernel
theorem dX3_offer_16 : decode cX3_offer 16 = .ok (.getfield 15, 3) := by decide +kernel
theorem dX3_offer_19 : decode cX3_offer 19 = .ok (.lload 4, 2) := by decide +kernel
theorem dX3_offer_21 : decode cX3_offer 21 = .ok (.lmul, 1) := by decide +kernel
theorem dX3_offer_22 : decode cX3_offer 22 = .ok (.lcmp, 1) := by decide +kernel
theorem dX3_offer_23 : decode cX3_offer 23 = .ok (.ifCond .ge 19, 3) := by decide +kernel
theorem dX3_offer_26 : decode cX3_offer 26 = .ok (.aload_n 0, 1) := by decide +kernel
theorem dX3_offer_27 : decode cX3_offer 27 = .ok (.iload_n 1, 1) := by decide +kernel
theorem dX3_offer_28 : decode cX3_offer 28 = .ok (.putfield 9, 3) := by decide +kernel
theorem dX3_offer_31 : decode cX3_offer 31 = .ok (.aload_n 0, 1) := by decide +kernel
theorem dX3_offer_32 : decode cX3_offer 32 = .ok (.lload_n 2, 1) := by decide +kernel
theorem dX3_offer_33 : decode cX3_offer 33 = .ok (.putfield 15, 3) := by decide +kernel
theorem dX3_offer_36 : decode cX3_offer 36 = .ok (.aload_n 0, 1) := by decide +kernel
theorem dX3_offer_37 : decode cX3_offer 37 = .ok (.lload 4, 2) := by decide +kernel
theorem dX3_offer_39 : decode cX3_offer 39 = .ok (.putfield 19, 3) := by decide +kernel
theorem dX3_offer_42 : decode cX3_offer 42 = .ok (.return_, 1) := by decide +kernel
theorem dX4_init_0 : decode cX4_init 0 = .ok (.aload_n 0, 1) := by decide +kernel
theorem dX4_init_1 : decode cX4_init 1 = .ok (.invokespecial 3, 3) := by decide +kernel
theorem dX4_init_4 : decode cX4_init 4 = .ok (.iload_n 2, 1) := by decide +kernel
theorem dX4_init_5 : decode cX4_init 5 = .ok (.ifCond .le 7, 3) := by decide +kernel
theorem dX4_init_8 : decode cX4_init 8 = .ok (.iload_n 2, 1) := by decide +kernel
theorem dX4_init_9 : decode cX4_init 9 = .ok (.goto 4, 3) := by decide +kernel
theorem dX4_init_12 : decode cX4_init 12 = .ok (.iconst 0, 1) := by decide +kernel
theorem dX4_init_13 : decode cX4_init 13 = .ok (.istore_n 3, 1) := by decide +kernel
theorem dX4_init_14 : decode cX4_init 14 = .ok (.aload_n 0, 1) := by decide +kernel
theorem dX4_init_15 : decode cX4_init 15 = .ok (.aload_n 1, 1) := by decide +kernel
theorem dX4_init_16 : decode cX4_init 16 = .ok (.putfield 9, 3) := by decide +kernel
theorem dX4_init_19 : decode cX4_init 19 = .ok (.aload_n 0, 1) := by decide +kernel
theorem dX4_init_20 : decode cX4_init 20 = .ok (.iload_n 3, 1) := by decide +kernel
theorem dX4_init_21 : decode cX4_init 21 = .ok (.putfield 15, 3) := by decide +kernel
theorem dX4_init_24 : decode cX4_init 24 = .ok (.aload_n 0, 1) := by decide +kernel
theorem dX4_init_25 : decode cX4_init 25 = .ok (.iload_n 3, 1) := by decide +kernel
theorem dX4_init_26 : decode cX4_init 26 = .ok (.newarray .int, 2) := by decide +kernel
theorem dX4_init_28 : decode cX4_init 28 = .ok (.putfield 19, 3) := by decide +kernel
theorem dX4_init_31 : decode cX4_init 31 = .ok (.aload_n 0, 1) := by decide +kernel
theorem dX4_init_32 : decode cX4_init 32 = .ok (.iload_n 3, 1) := by decide +kernel
theorem dX4_init_33 : decode cX4_init 33 = .ok (.newarray .int, 2) := by decide +kernel
theorem dX4_init_35 : decode cX4_init 35 = .ok (.putfield 23, 3) := by decide +kernel
theorem dX4_init_38 : decode cX4_init 38 = .ok (.aload_n 0, 1) := by decide +kernel
theorem dX4_init_39 : decode cX4_init 39 = .ok (.iload_n 3, 1) := by decide +kernel
theorem dX4_init_40 : decode cX4_init 40 = .ok (.newarray .int, 2) := by decide +kernel
theorem dX4_init_42 : decode cX4_init 42 = .ok (.putfield 26, 3) := by decide +kernel
theorem dX4_init_45 : decode cX4_init 45 = .ok (.aload_n 0, 1) := by decide +kernel
theorem dX4_init_46 : decode cX4_init 46 = .ok (.iload_n 3, 1) := by decide +kernel
theorem dX4_init_47 : decode cX4_init 47 = .ok (.newarray .int, 2) := by decide +kernel
theorem dX4_init_49 : decode cX4_init 49 = .ok (.putfield 29, 3) := by decide +kernel
theorem dX4_init_52 : decode cX4_init 52 = .ok (.aload_n 0, 1) := by decide +kernel
theorem dX4_init_53 : decode cX4_init 53 = .ok (.iload_n 3, 1) := by decide +kernel
theorem dX4_init_54 : decode cX4_init 54 = .ok (.newarray .int, 2) := by decide +kernel
theorem dX4_init_56 : decode cX4_init 56 = .ok (.putfield 32, 3) := by decide +kernel
theorem dX4_init_59 : decode cX4_init 59 = .ok (.aload_n 0, 1) := by decide +kernel
theorem dX4_init_60 : decode cX4_init 60 = .ok (.iconst 0, 1) := by decide +kernel
theorem dX4_init_61 : decode cX4_init 61 = .ok (.putfield 35, 3) := by decide +kernel
theorem dX4_init_64 : decode cX4_init 64 = .ok (.return_, 1) := by decide +kernel
theorem dX4_size_0 : decode cX4_size 0 = .ok (.aload_n 0, 1) := by decide +kernel
theorem dX4_size_1 : decode cX4_size 1 = .ok (.getfield 35, 3) := by decide +kernel
theorem dX4_size_4 : decode cX4_size 4 = .ok (.ireturn, 1) := by decide +kernel
theorem dX4_has_0 : decode cX4_has 0 = .ok (.iload_n 1, 1) := by decide +kernel
theorem dX4_has_1 : decode cX4_has 1 = .ok (.ifCond .lt 23, 3) := by decide +kernel
theorem dX4_has_4 : decode cX4_has 4 = .ok (.iload_n 1, 1) := by decide +kernel
theorem dX4_has_5 : decode cX4_has 5 = .ok (.aload_n 0, 1) := by decide +kernel
theorem dX4_has_6 : decode cX4_has 6 = .ok (.getfield 35, 3) := by decide +kernel
theorem dX4_has_9 : decode cX4_has 9 = .ok (.if_icmp .ge 15, 3) := by decide +kernel
theorem dX4_has_12 : decode cX4_has 12 = .ok (.iload_n 1, 1) := by decide +kernel
theorem dX4_has_13 : decode cX4_has 13 = .ok (.aload_n 0, 1) := by decide +kernel
theorem dX4_has_14 : decode cX4_has 14 = .ok (.getfield 15, 3) := by decide +kernel
theorem dX4_has_17 : decode cX4_has 17 = .ok (.if_icmp .ge 7, 3) := by decide +kernel
theorem dX4_has_20 : decode cX4_has 20 = .ok (.iconst 1, 1) := by decide +kernel
theorem dX4_has_21 : decode cX4_has 21 = .ok (.goto 4, 3) := by decide +kernel
theorem dX4_has_24 : decode cX4_has 24 = .ok (.iconst 0, 1) := by decide +kernel
theorem dX4_has_25 : decode cX4_has 25 = .ok (.ireturn, 1) := by decide +kernel
theorem dX4_wallOf_0 : decode cX4_wallOf 0 = .ok (.aload_n 0, 1) := by decide +kernel
theorem dX4_wallOf_1 : decode cX4_wallOf 1 = .ok (.iload_n 1, 1) := by decide +kernel
theorem dX4_wallOf_2 : decode cX4_wallOf 2 = .ok (.invokevirtual 38, 3) := by decide +kernel
theorem dX4_wallOf_5 : decode cX4_wallOf 5 = .ok (.ifCond .eq 12, 3) := by decide +kernel
theorem dX4_wallOf_8 : decode cX4_wallOf 8 = .ok (.aload_n 0, 1) := by decide +kernel
theorem dX4_wallOf_9 : decode cX4_wallOf 9 = .ok (.getfield 19, 3) := by decide +kernel
theorem dX4_wallOf_12 : decode cX4_wallOf 12 = .ok (.iload_n 1, 1) := by decide +kernel
theorem dX4_wallOf_13 : decode cX4_wallOf 13 = .ok (.iaload, 1) := by decide +kernel
theorem dX4_wallOf_14 : decode cX4_wallOf 14 = .ok (.goto 5, 3) := by decide +kernel
theorem dX4_wallOf_17 : decode cX4_wallOf 17 = .ok (.bipush (-8), 2) := by decide +kernel
theorem dX4_wallOf_19 : decode cX4_wallOf 19 = .ok (.ireturn, 1) := by decide +kernel
theorem dX4_bound_0 : decode cX4_bound 0 = .ok (.aload_n 0, 1) := by decide +kernel
theorem dX4_bound_1 : decode cX4_bound 1 = .ok (.iload_n 1, 1) := by decide +kernel
theorem dX4_bound_2 : decode cX4_bound 2 = .ok (.invokevirtual 38, 3) := by decide +kernel
theorem dX4_bound_5 : decode cX4_bound 5 = .ok (.ifCond .ne 5, 3) := by decide +kernel
theorem dX4_bound_8 : decode cX4_bound 8 = .ok (.iconst 0, 1) := by decide +kernel
theorem dX4_bound_9 : decode cX4_bound 9 = .ok (.ireturn, 1) := by decide +kernel
theorem dX4_bound_10 : decode cX4_bound 10 = .ok (.iload_n 2, 1) := by decide +kernel
theorem dX4_bound_11 : decode cX4_bound 11 = .ok (.tableswitch 46 0 2 #[25, 32, 39], 25) := by decide +kernel
theorem dX4_bound_36 : decode cX4_bound 36 = .ok (.aload_n 0, 1) := by decide +kernel
theorem dX4_bound_37 : decode cX4_bound 37 = .ok (.getfield 23, 3) := by decide +kernel
theorem dX4_bound_40 : decode cX4_bound 40 = .ok (.iload_n 1, 1) := by decide +kernel
theorem dX4_bound_41 : decode cX4_bound 41 = .ok (.iaload, 1) := by decide +kernel
theorem dX4_bound_42 : decode cX4_bound 42 = .ok (.ireturn, 1) := by decide +kernel
theorem dX4_bound_43 : decode cX4_bound 43 = .ok (.aload_n 0, 1) := by decide +kernel
theorem dX4_bound_44 : decode cX4_bound 44 = .ok (.getfield 26, 3) := by decide +kernel
theorem dX4_bound_47 : decode cX4_bound 47 = .ok (.iload_n 1, 1) := by decide +kernel
theorem dX4_bound_48 : decode cX4_bound 48 = .ok (.iaload, 1) := by decide +kernel
theorem dX4_bound_49 : decode cX4_bound 49 = .ok (.ireturn, 1) := by decide +kernel
theorem dX4_bound_50 : decode cX4_bound 50 = .ok (.aload_n 0, 1) := by decide +kernel
theorem dX4_bound_51 : decode cX4_bound 51 = .ok (.getfield 29, 3) := by decide +kernel
theorem dX4_bound_54 : decode cX4_bound 54 = .ok (.iload_n 1, 1) := by decide +kernel
theorem dX4_bound_55 : decode cX4_bound 55 = .ok (.iaload, 1) := by decide +kernel
theorem dX4_bound_56 : decode cX4_bound 56 = .ok (.ireturn, 1) := by decide +kernel
theorem dX4_bound_57 : decode cX4_bound 57 = .ok (.aload_n 0, 1) := by decide +kernel
theorem dX4_bound_58 : decode cX4_bound 58 = .ok (.getfield 32, 3) := by decide +kernel
theorem dX4_bound_61 : decode cX4_bound 61 = .ok (.iload_n 1, 1) := by decide +kernel
theorem dX4_bound_62 : decode cX4_bound 62 = .ok (.iaload, 1) := by decide +kernel
theorem dX4_bound_63 : decode cX4_bound 63 = .ok (.ireturn, 1) := by decide +kernel
theorem dX4_shorten_0 : decode cX4_shorten 0 = .ok (.iload_n 1, 1) := by decide +kernel
theorem dX4_shorten_1 : decode cX4_shorten 1 = .ok (.ifCond .lt 16, 3) := by decide +kernel
theorem dX4_shorten_4 : decode cX4_shorten 4 = .ok (.iload_n 1, 1) := by decide +kernel
theorem dX4_shorten_5 : decode cX4_shorten 5 = .ok (.aload_n 0, 1) := by decide +kernel
theorem dX4_shorten_6 : decode cX4_shorten 6 = .ok (.getfield 35, 3) := by decide +kernel
theorem dX4_shorten_9 : decode cX4_shorten 9 = .ok (.if_icmp .ge 8, 3) := by decide +kernel
theorem dX4_shorten_12 : decode cX4_shorten 12 = .ok (.aload_n 0, 1) := by decide +kernel
theorem dX4_shorten_13 : decode cX4_shorten 13 = .ok (.iload_n 1, 1) := by decide +kernel
theorem dX4_shorten_14 : decode cX4_shorten 14 = .ok (.putfield 35, 3) := by decide +kernel
theorem dX4_shorten_17 : decode cX4_shorten 17 = .ok (.return_, 1) := by decide +kernel
theorem dX4_addWhole_0 : decode cX4_addWhole 0 = .ok (.aload_n 0, 1) := by decide +kernel
theorem dX4_addWhole_1 : decode cX4_addWhole 1 = .ok (.iload_n 1, 1) := by decide +kernel
theorem dX4_addWhole_2 : decode cX4_addWhole 2 = .ok (.iconst 0, 1) := by decide +kernel
theorem dX4_addWhole_3 : decode cX4_addWhole 3 = .ok (.iconst 1, 1) := by decide +kernel
theorem dX4_addWhole_4 : decode cX4_addWhole 4 = .ok (.iconst 1, 1) := by decide +kernel
theorem dX4_addWhole_5 : decode cX4_addWhole 5 = .ok (.iconst 1, 1) := by decide +kernel
theorem dX4_addWhole_6 : decode cX4_addWhole 6 = .ok (.invokevirtual 42, 3) := by decide +kernel
theorem dX4_addWhole_9 : decode cX4_addWhole 9 = .ok (.return_, 1) := by decide +kernel
theorem dX4_addWalls_0 : decode cX4_addWalls 0 = .ok (.iconst 0, 1) := by decide +kernel
theorem dX4_addWalls_1 : decode cX4_addWalls 1 = .ok (.istore_n 2, 1) := by decide +kernel
theorem dX4_addWalls_2 : decode cX4_addWalls 2 = .ok (.iload_n 2, 1) := by decide +kernel
theorem dX4_addWalls_3 : decode cX4_addWalls 3 = .ok (.bipush 12, 2) := by decide +kernel
theorem dX4_addWalls_5 : decode cX4_addWalls 5 = .ok (.if_icmp .ge 43, 3) := by decide +kernel
theorem dX4_addWalls_8 : decode cX4_addWalls 8 = .ok (.iload_n 1, 1) := by decide +kernel
theorem dX4_addWalls_9 : decode cX4_addWalls 9 = .ok (.ifCond .eq 17, 3) := by decide +kernel
theorem dX4_addWalls_12 : decode cX4_addWalls 12 = .ok (.aload_n 0, 1) := by decide +kernel
theorem dX4_addWalls_13 : decode cX4_addWalls 13 = .ok (.getfield 9, 3) := by decide +kernel
theorem dX4_addWalls_16 : decode cX4_addWalls 16 = .ok (.iload_n 2, 1) := by decide +kernel
theorem dX4_addWalls_17 : decode cX4_addWalls 17 = .ok (.invokevirtual 46, 3) := by decide +kernel
theorem dX4_addWalls_20 : decode cX4_addWalls 20 = .ok (.ifCond .eq 22, 3) := by decide +kernel
theorem dX4_addWalls_23 : decode cX4_addWalls 23 = .ok (.goto 14, 3) := by decide +kernel
theorem dX4_addWalls_26 : decode cX4_addWalls 26 = .ok (.aload_n 0, 1) := by decide +kernel
theorem dX4_addWalls_27 : decode cX4_addWalls 27 = .ok (.getfield 9, 3) := by decide +kernel
theorem dX4_addWalls_30 : decode cX4_addWalls 30 = .ok (.iload_n 2, 1) := by decide +kernel
theorem dX4_addWalls_31 : decode cX4_addWalls 31 = .ok (.invokevirtual 51, 3) := by decide +kernel
theorem dX4_addWalls_34 : decode cX4_addWalls 34 = .ok (.ifCond .eq 8, 3) := by decide +kernel
theorem dX4_addWalls_37 : decode cX4_addWalls 37 = .ok (.aload_n 0, 1) := by decide +kernel
theorem dX4_addWalls_38 : decode cX4_addWalls 38 = .ok (.iload_n 2, 1) := by decide +kernel
theorem dX4_addWalls_39 : decode cX4_addWalls 39 = .ok (.invokevirtual 54, 3) := by decide +kernel
theorem dX4_addWalls_42 : decode cX4_addWalls 42 = .ok (.iinc 2 1, 3) := by decide +kernel
theorem dX4_addWalls_45 : decode cX4_addWalls 45 = .ok (.goto (-43), 3) := by decide +kernel
theorem dX4_addWalls_48 : decode cX4_addWalls 48 = .ok (.return_, 1) := by decide +kernel
theorem dX4_addSide_0 : decode cX4_addSide 0 = .ok (.iload_n 2, 1) := by decide +kernel
theorem dX4_addSide_1 : decode cX4_addSide 1 = .ok (.istore 6, 2) := by decide +kernel
theorem dX4_addSide_3 : decode cX4_addSide 3 = .ok (.iload 6, 2) := by decide +kernel
theorem dX4_addSide_5 : decode cX4_addSide 5 = .ok (.iload_n 3, 1) := by decide +kernel
theorem dX4_addSide_6 : decode cX4_addSide 6 = .ok (.if_icmp .ge 58, 3) := by decide +kernel
theorem dX4_addSide_9 : decode cX4_addSide 9 = .ok (.aload_n 1, 1) := by decide +kernel
theorem dX4_addSide_10 : decode cX4_addSide 10 = .ok (.iload 6, 2) := by decide +kernel
theorem dX4_addSide_12 : decode cX4_addSide 12 = .ok (.iload 4, 2) := by decide +kernel
theorem dX4_addSide_14 : decode cX4_addSide 14 = .ok (.invokevirtual 58, 3) := by decide +kernel
theorem dX4_addSide_17 : decode cX4_addSide 17 = .ok (.istore 7, 2) := by decide +kernel
theorem dX4_addSide_19 : decode cX4_addSide 19 = .ok (.iload 7, 2) := by decide +kernel
theorem dX4_addSide_21 : decode cX4_addSide 21 = .ok (.iload 5, 2) := by decide +kernel
theorem dX4_addSide_23 : decode cX4_addSide 23 = .ok (.if_icmp .ne 13, 3) := by decide +kernel
theorem dX4_addSide_26 : decode cX4_addSide 26 = .ok (.aload_n 0, 1) := by decide +kernel
theorem dX4_addSide_27 : decode cX4_addSide 27 = .ok (.aload_n 1, 1) := by decide +kernel
theorem dX4_addSide_28 : decode cX4_addSide 28 = .ok (.iload 6, 2) := by decide +kernel
theorem dX4_addSide_30 : decode cX4_addSide 30 = .ok (.invokevirtual 62, 3) := by decide +kernel
theorem dX4_addSide_33 : decode cX4_addSide 33 = .ok (.goto 25, 3) := by decide +kernel
theorem dX4_addSide_36 : decode cX4_addSide 36 = .ok (.iload 7, 2) := by decide +kernel
theorem dX4_addSide_38 : decode cX4_addSide 38 = .ok (.iconst 3, 1) := by decide +kernel
theorem dX4_addSide_39 : decode cX4_addSide 39 = .ok (.if_icmp .ne 19, 3) := by decide +kernel
theorem dX4_addSide_42 : decode cX4_addSide 42 = .ok (.iload 5, 2) := by decide +kernel
theorem dX4_addSide_44 : decode cX4_addSide 44 = .ok (.ifCond .eq 14, 3) := by decide +kernel
theorem dX4_addSide_47 : decode cX4_addSide 47 = .ok (.aload_n 0, 1) := by decide +kernel
theorem dX4_addSide_48 : decode cX4_addSide 48 = .ok (.aload_n 1, 1) := by decide +kernel
theorem dX4_addSide_49 : decode cX4_addSide 49 = .ok (.iload 6, 2) := by decide +kernel
theorem dX4_addSide_51 : decode cX4_addSide 51 = .ok (.iload 4, 2) := by decide +kernel
theorem dX4_addSide_53 : decode cX4_addSide 53 = .ok (.iload 5, 2) := by decide +kernel
theorem dX4_addSide_55 : decode cX4_addSide 55 = .ok (.invokevirtual 66, 3) := by decide +kernel
theorem dX4_addSide_58 : decode cX4_addSide 58 = .ok (.iinc 6 1, 3) := by decide +kernel
theorem dX4_addSide_61 : decode cX4_addSide 61 = .ok (.goto (-58), 3) := by decide +kernel
theorem dX4_addSide_64 : decode cX4_addSide 64 = .ok (.return_, 1) := by decide +kernel
theorem dX4_placeOf_0 : decode cX4_placeOf 0 = .ok (.aload_n 0, 1) := by decide +kernel
theorem dX4_placeOf_1 : decode cX4_placeOf 1 = .ok (.iload_n 1, 1) := by decide +kernel
theorem dX4_placeOf_2 : decode cX4_placeOf 2 = .ok (.invokevirtual 38, 3) := by decide +kernel
theorem dX4_placeOf_5 : decode cX4_placeOf 5 = .ok (.ifCond .ne 5, 3) := by decide +kernel
theorem dX4_placeOf_8 : decode cX4_placeOf 8 = .ok (.iconst 0, 1) := by decide +kernel
theorem dX4_placeOf_9 : decode cX4_placeOf 9 = .ok (.ireturn, 1) := by decide +kernel
theorem dX4_placeOf_10 : decode cX4_placeOf 10 = .ok (.aload_n 0, 1) := by decide +kernel
theorem dX4_placeOf_11 : decode cX4_placeOf 11 = .ok (.getfield 19, 3) := by decide +kernel
theorem dX4_placeOf_14 : decode cX4_placeOf 14 = .ok (.iload_n 1, 1) := by decide +kernel
theorem dX4_placeOf_15 : decode cX4_placeOf 15 = .ok (.iaload, 1) := by decide +kernel
theorem dX4_placeOf_16 : decode cX4_placeOf 16 = .ok (.istore_n 3, 1) := by decide +kernel
theorem dX4_placeOf_17 : decode cX4_placeOf 17 = .ok (.aload_n 0, 1) := by decide +kernel
theorem dX4_placeOf_18 : decode cX4_placeOf 18 = .ok (.getfield 9, 3) := by decide +kernel
theorem dX4_placeOf_21 : decode cX4_placeOf 21 = .ok (.iload_n 2, 1) := by decide +kernel
theorem dX4_placeOf_22 : decode cX4_placeOf 22 = .ok (.aload_n 0, 1) := by decide +kernel
theorem dX4_placeOf_23 : decode cX4_placeOf 23 = .ok (.getfield 9, 3) := by decide +kernel
theorem dX4_placeOf_26 : decode cX4_placeOf 26 = .ok (.iload_n 3, 1) := by decide +kernel
theorem dX4_placeOf_27 : decode cX4_placeOf 27 = .ok (.invokevirtual 70, 3) := by decide +kernel
theorem dX4_placeOf_30 : decode cX4_placeOf 30 = .ok (.aload_n 0, 1) := by decide +kernel
theorem dX4_placeOf_31 : decode cX4_placeOf 31 = .ok (.getfield 9, 3) := by decide +kernel
theorem dX4_placeOf_34 : decode cX4_placeOf 34 = .ok (.iload_n 3, 1) := by decide +kernel
theorem dX4_placeOf_35 : decode cX4_placeOf 35 = .ok (.invokevirtual 74, 3) := by decide +kernel
theorem dX4_placeOf_38 : decode cX4_placeOf 38 = .ok (.invokevirtual 77, 3) := by decide +kernel
theorem dX4_placeOf_41 : decode cX4_placeOf 41 = .ok (.istore 4, 2) := by decide +kernel
theorem dX4_placeOf_43 : decode cX4_placeOf 43 = .ok (.aload_n 0, 1) := by decide +kernel
theorem dX4_placeOf_44 : decode cX4_placeOf 44 = .ok (.getfield 9, 3) := by decide +kernel
theorem dX4_placeOf_47 : decode cX4_placeOf 47 = .ok (.iload_n 2, 1) := by decide +kernel
theorem dX4_placeOf_48 : decode cX4_placeOf 48 = .ok (.aload_n 0, 1) := by decide +kernel
theorem dX4_placeOf_49 : decode cX4_placeOf 49 = .ok (.getfield 9, 3) := by decide +kernel
theorem dX4_placeOf_52 : decode cX4_placeOf 52 = .ok (.iload_n 3, 1) := by decide +kernel
theorem dX4_placeOf_53 : decode cX4_placeOf 53 = .ok (.invokevirtual 81, 3) := by decide +kernel
theorem dX4_placeOf_56 : decode cX4_placeOf 56 = .ok (.aload_n 0, 1) := by decide +kernel
theorem dX4_placeOf_57 : decode cX4_placeOf 57 = .ok (.getfield 9, 3) := by decide +kernel
theorem dX4_placeOf_60 : decode cX4_placeOf 60 = .ok (.iload_n 3, 1) := by decide +kernel
theorem dX4_placeOf_61 : decode cX4_placeOf 61 = .ok (.invokevirtual 84, 3) := by decide +kernel
theorem dX4_placeOf_64 : decode cX4_placeOf 64 = .ok (.invokevirtual 77, 3) := by decide +kernel
theorem dX4_placeOf_67 : decode cX4_placeOf 67 = .ok (.istore 5, 2) := by decide +kernel
theorem dX4_placeOf_69 : decode cX4_placeOf 69 = .ok (.iload 4, 2) := by decide +kernel
theorem dX4_placeOf_71 : decode cX4_placeOf 71 = .ok (.aload_n 0, 1) := by decide +kernel
theorem dX4_placeOf_72 : decode cX4_placeOf 72 = .ok (.getfield 26, 3) := by decide +kernel
theorem dX4_placeOf_75 : decode cX4_placeOf 75 = .ok (.iload_n 1, 1) := by decide +kernel
theorem dX4_placeOf_76 : decode cX4_placeOf 76 = .ok (.iaload, 1) := by decide +kernel
theorem dX4_placeOf_77 : decode cX4_placeOf 77 = .ok (.imul, 1) := by decide +kernel
theorem dX4_placeOf_78 : decode cX4_placeOf 78 = .ok (.iload 5, 2) := by decide +kernel
theorem dX4_placeOf_80 : decode cX4_placeOf 80 = .ok (.iload 4, 2) := by decide +kernel
theorem dX4_placeOf_82 : decode cX4_placeOf 82 = .ok (.isub, 1) := by decide +kernel
theorem dX4_placeOf_83 : decode cX4_placeOf 83 = .ok (.aload_n 0, 1) := by decide +kernel
theorem dX4_placeOf_84 : decode cX4_placeOf 84 = .ok (.getfield 23, 3) := by decide +kernel
theorem dX4_placeOf_87 : decode cX4_placeOf 87 = .ok (.iload_n 1, 1) := by decide +kernel
theorem dX4_placeOf_88 : decode cX4_placeOf 88 = .ok (.iaload, 1) := by decide +kernel
theorem dX4_placeOf_89 : decode cX4_placeOf 89 = .ok (.imul, 1) := by decide +kernel
theorem dX4_placeOf_90 : decode cX4_placeOf 90 = .ok (.iadd, 1) := by decide +kernel
theorem dX4_placeOf_91 : decode cX4_placeOf 91 = .ok (.istore 6, 2) := by decide +kernel
theorem dX4_placeOf_93 : decode cX4_placeOf 93 = .ok (.iload 4, 2) := by decide +kernel
theorem dX4_placeOf_95 : decode cX4_placeOf 95 = .ok (.aload_n 0, 1) := by decide +kernel
theorem dX4_placeOf_96 : decode cX4_placeOf 96 = .ok (.getfield 32, 3) := by decide +kernel
theorem dX4_placeOf_99 : decode cX4_placeOf 99 = .ok (.iload_n 1, 1) := by decide +kernel
theorem dX4_placeOf_100 : decode cX4_placeOf 100 = .ok (.iaload, 1) := by decide +kernel
theorem dX4_placeOf_101 : decode cX4_placeOf 101 = .ok (.imul, 1) := by decide +kernel
theorem dX4_placeOf_102 : decode cX4_placeOf 102 = .ok (.iload 5, 2) := by decide +kernel
theorem dX4_placeOf_104 : decode cX4_placeOf 104 = .ok (.iload 4, 2) := by decide +kernel
theorem dX4_placeOf_106 : decode cX4_placeOf 106 = .ok (.isub, 1) := by decide +kernel
theorem dX4_placeOf_107 : decode cX4_placeOf 107 = .ok (.aload_n 0, 1) := by decide +kernel
theorem dX4_placeOf_108 : decode cX4_placeOf 108 = .ok (.getfield 29, 3) := by decide +kernel
theorem dX4_placeOf_111 : decode cX4_placeOf 111 = .ok (.iload_n 1, 1) := by decide +kernel
theorem dX4_placeOf_112 : decode cX4_placeOf 112 = .ok (.iaload, 1) := by decide +kernel
theorem dX4_placeOf_113 : decode cX4_placeOf 113 = .ok (.imul, 1) := by decide +kernel
theorem dX4_placeOf_114 : decode cX4_placeOf 114 = .ok (.iadd, 1) := by decide +kernel
theorem dX4_placeOf_115 : decode cX4_placeOf 115 = .ok (.istore 7, 2) := by decide +kernel
theorem dX4_placeOf_117 : decode cX4_placeOf 117 = .ok (.iload 6, 2) := by decide +kernel
theorem dX4_placeOf_119 : decode cX4_placeOf 119 = .ok (.ifCond .ne 10, 3) := by decide +kernel
theorem dX4_placeOf_122 : decode cX4_placeOf 122 = .ok (.iload 7, 2) := by decide +kernel
theorem dX4_placeOf_124 : decode cX4_placeOf 124 = .ok (.ifCond .ne 5, 3) := by decide +kernel
theorem dX4_placeOf_127 : decode cX4_placeOf 127 = .ok (.iconst 0, 1) := by decide +kernel
theorem dX4_placeOf_128 : decode cX4_placeOf 128 = .ok (.ireturn, 1) := by decide +kernel
theorem dX4_placeOf_129 : decode cX4_placeOf 129 = .ok (.iload 6, 2) := by decide +kernel
theorem dX4_placeOf_131 : decode cX4_placeOf 131 = .ok (.ifCond .lt 10, 3) := by decide +kernel
theorem dX4_placeOf_134 : decode cX4_placeOf 134 = .ok (.iload 7, 2) := by decide +kernel
theorem dX4_placeOf_136 : decode cX4_placeOf 136 = .ok (.ifCond .lt 5, 3) := by decide +kernel
theorem dX4_placeOf_139 : decode cX4_placeOf 139 = .ok (.iconst 1, 1) := by decide +kernel
theorem dX4_placeOf_140 : decode cX4_placeOf 140 = .ok (.ireturn, 1) := by decide +kernel
theorem dX4_placeOf_141 : decode cX4_placeOf 141 = .ok (.iload 6, 2) := by decide +kernel
theorem dX4_placeOf_143 : decode cX4_placeOf 143 = .ok (.ifCond .gt 12, 3) := by decide +kernel
theorem dX4_placeOf_146 : decode cX4_placeOf 146 = .ok (.iload 7, 2) := by decide +kernel
theorem dX4_placeOf_148 : decode cX4_placeOf 148 = .ok (.ifCond .gt 7, 3) := by decide +kernel
theorem dX4_placeOf_151 : decode cX4_placeOf 151 = .ok (.iconst 2, 1) := by decide +kernel
theorem dX4_placeOf_152 : decode cX4_placeOf 152 = .ok (.goto 4, 3) := by decide +kernel
theorem dX4_placeOf_155 : decode cX4_placeOf 155 = .ok (.iconst 3, 1) := by decide +kernel
theorem dX4_placeOf_156 : decode cX4_placeOf 156 = .ok (.ireturn, 1) := by decide +kernel
theorem dX4_addCopy_0 : decode cX4_addCopy 0 = .ok (.aload_n 1, 1) := by decide +kernel
theorem dX4_addCopy_1 : decode cX4_addCopy 1 = .ok (.iload_n 2, 1) := by decide +kernel
theorem dX4_addCopy_2 : decode cX4_addCopy 2 = .ok (.invokevirtual 38, 3) := by decide +kernel
theorem dX4_addCopy_5 : decode cX4_addCopy 5 = .ok (.ifCond .eq 37, 3) := by decide +kernel
theorem dX4_addCopy_8 : decode cX4_addCopy 8 = .ok (.aload_n 0, 1) := by decide +kernel
theorem dX4_addCopy_9 : decode cX4_addCopy 9 = .ok (.aload_n 1, 1) := by decide +kernel
theorem dX4_addCopy_10 : decode cX4_addCopy 10 = .ok (.getfield 19, 3) := by decide +kernel
theorem dX4_addCopy_13 : decode cX4_addCopy 13 = .ok (.iload_n 2, 1) := by decide +kernel
theorem dX4_addCopy_14 : decode cX4_addCopy 14 = .ok (.iaload, 1) := by decide +kernel
theorem dX4_addCopy_15 : decode cX4_addCopy 15 = .ok (.aload_n 1, 1) := by decide +kernel
theorem dX4_addCopy_16 : decode cX4_addCopy 16 = .ok (.getfield 23, 3) := by decide +kernel
theorem dX4_addCopy_19 : decode cX4_addCopy 19 = .ok (.iload_n 2, 1) := by decide +kernel
theorem dX4_addCopy_20 : decode cX4_addCopy 20 = .ok (.iaload, 1) := by decide +kernel
theorem dX4_addCopy_21 : decode cX4_addCopy 21 = .ok (.aload_n 1, 1) := by decide +kernel
theorem dX4_addCopy_22 : decode cX4_addCopy 22 = .ok (.getfield 26, 3) := by decide +kernel
theorem dX4_addCopy_25 : decode cX4_addCopy 25 = .ok (.iload_n 2, 1) := by decide +kernel
theorem dX4_addCopy_26 : decode cX4_addCopy 26 = .ok (.iaload, 1) := by decide +kernel
theorem dX4_addCopy_27 : decode cX4_addCopy 27 = .ok (.aload_n 1, 1) := by decide +kernel
theorem dX4_addCopy_28 : decode cX4_addCopy 28 = .ok (.getfield 29, 3) := by decide +kernel
theorem dX4_addCopy_31 : decode cX4_addCopy 31 = .ok (.iload_n 2, 1) := by decide +kernel
theorem dX4_addCopy_32 : decode cX4_addCopy 32 = .ok (.iaload, 1) := by decide +kernel
theorem dX4_addCopy_33 : decode cX4_addCopy 33 = .ok (.aload_n 1, 1) := by decide +kernel
theorem dX4_addCopy_34 : decode cX4_addCopy 34 = .ok (.getfield 32, 3) := by decide +kernel
theorem dX4_addCopy_37 : decode cX4_addCopy 37 = .ok (.iload_n 2, 1) := by decide +kernel
theorem dX4_addCopy_38 : decode cX4_addCopy 38 = .ok (.iaload, 1) := by decide +kernel
theorem dX4_addCopy_39 : decode cX4_addCopy 39 = .ok (.invokevirtual 42, 3) := by decide +kernel
theorem dX4_addCopy_42 : decode cX4_addCopy 42 = .ok (.return_, 1) := by decide +kernel
theorem dX4_addPart_0 : decode cX4_addPart 0 = .ok (.aload_n 1, 1) := by decide +kernel
theorem dX4_addPart_1 : decode cX4_addPart 1 = .ok (.iload_n 2, 1) := by decide +kernel
theorem dX4_addPart_2 : decode cX4_addPart 2 = .ok (.invokevirtual 38, 3) := by decide +kernel
theorem dX4_addPart_5 : decode cX4_addPart 5 = .ok (.ifCond .ne 4, 3) := by decide +kernel
theorem dX4_addPart_8 : decode cX4_addPart 8 = .ok (.return_, 1) := by decide +kernel
theorem dX4_addPart_9 : decode cX4_addPart 9 = .ok (.aload_n 1, 1) := by decide +kernel
theorem dX4_addPart_10 : decode cX4_addPart 10 = .ok (.getfield 19, 3) := by decide +kernel
theorem dX4_addPart_13 : decode cX4_addPart 13 = .ok (.iload_n 2, 1) := by decide +kernel
theorem dX4_addPart_14 : decode cX4_addPart 14 = .ok (.iaload, 1) := by decide +kernel
theorem dX4_addPart_15 : decode cX4_addPart 15 = .ok (.istore 5, 2) := by decide +kernel
theorem dX4_addPart_17 : decode cX4_addPart 17 = .ok (.aload_n 0, 1) := by decide +kernel
theorem dX4_addPart_18 : decode cX4_addPart 18 = .ok (.getfield 9, 3) := by decide +kernel
theorem dX4_addPart_21 : decode cX4_addPart 21 = .ok (.iload_n 3, 1) := by decide +kernel
theorem dX4_addPart_22 : decode cX4_addPart 22 = .ok (.aload_n 0, 1) := by decide +kernel
theorem dX4_addPart_23 : decode cX4_addPart 23 = .ok (.getfield 9, 3) := by decide +kernel
theorem dX4_addPart_26 : decode cX4_addPart 26 = .ok (.iload 5, 2) := by decide +kernel
theorem dX4_addPart_28 : decode cX4_addPart 28 = .ok (.invokevirtual 70, 3) := by decide +kernel
theorem dX4_addPart_31 : decode cX4_addPart 31 = .ok (.aload_n 0, 1) := by decide +kernel
theorem dX4_addPart_32 : decode cX4_addPart 32 = .ok (.getfield 9, 3) := by decide +kernel
theorem dX4_addPart_35 : decode cX4_addPart 35 = .ok (.iload 5, 2) := by decide +kernel
theorem dX4_addPart_37 : decode cX4_addPart 37 = .ok (.invokevirtual 74, 3) := by decide +kernel
theorem dX4_addPart_40 : decode cX4_addPart 40 = .ok (.invokevirtual 77, 3) := by decide +kernel
theorem dX4_addPart_43 : decode cX4_addPart 43 = .ok (.istore 6, 2) := by decide +kernel
theorem dX4_addPart_45 : decode cX4_addPart 45 = .ok (.aload_n 0, 1) := by decide +kernel
theorem dX4_addPart_46 : decode cX4_addPart 46 = .ok (.getfield 9, 3) := by decide +kernel
theorem dX4_addPart_49 : decode cX4_addPart 49 = .ok (.iload_n 3, 1) := by decide +kernel
theorem dX4_addPart_50 : decode cX4_addPart 50 = .ok (.aload_n 0, 1) := by decide +kernel
theorem dX4_addPart_51 : decode cX4_addPart 51 = .ok (.getfield 9, 3) := by decide +kernel
theorem dX4_addPart_54 : decode cX4_addPart 54 = .ok (.iload 5, 2) := by decide +kernel
theorem dX4_addPart_56 : decode cX4_addPart 56 = .ok (.invokevirtual 81, 3) := by decide +kernel
theorem dX4_addPart_59 : decode cX4_addPart 59 = .ok (.aload_n 0, 1) := by decide +kernel
theorem dX4_addPart_60 : decode cX4_addPart 60 = .ok (.getfield 9, 3) := by decide +kernel
theorem dX4_addPart_63 : decode cX4_addPart 63 = .ok (.iload 5, 2) := by decide +kernel
theorem dX4_addPart_65 : decode cX4_addPart 65 = .ok (.invokevirtual 84, 3) := by decide +kernel
theorem dX4_addPart_68 : decode cX4_addPart 68 = .ok (.invokevirtual 77, 3) := by decide +kernel
theorem dX4_addPart_71 : decode cX4_addPart 71 = .ok (.istore 7, 2) := by decide +kernel
theorem dX4_addPart_73 : decode cX4_addPart 73 = .ok (.iload 6, 2) := by decide +kernel
theorem dX4_addPart_75 : decode cX4_addPart 75 = .ok (.i2l, 1) := by decide +kernel
theorem dX4_addPart_76 : decode cX4_addPart 76 = .ok (.iload 6, 2) := by decide +kernel
theorem dX4_addPart_78 : decode cX4_addPart 78 = .ok (.iload 7, 2) := by decide +kernel
theorem dX4_addPart_80 : decode cX4_addPart 80 = .ok (.isub, 1) := by decide +kernel
theorem dX4_addPart_81 : decode cX4_addPart 81 = .ok (.i2l, 1) := by decide +kernel
theorem dX4_addPart_82 : decode cX4_addPart 82 = .ok (.invokestatic 87, 3) := by decide +kernel
theorem dX4_addPart_85 : decode cX4_addPart 85 = .ok (.l2i, 1) := by decide +kernel
theorem dX4_addPart_86 : decode cX4_addPart 86 = .ok (.istore 8, 2) := by decide +kernel
theorem dX4_addPart_88 : decode cX4_addPart 88 = .ok (.iload 8, 2) := by decide +kernel
theorem dX4_addPart_90 : decode cX4_addPart 90 = .ok (.ifCond .ne 4, 3) := by decide +kernel
theorem dX4_addPart_93 : decode cX4_addPart 93 = .ok (.return_, 1) := by decide +kernel
theorem dX4_addPart_94 : decode cX4_addPart 94 = .ok (.iload 6, 2) := by decide +kernel
theorem dX4_addPart_96 : decode cX4_addPart 96 = .ok (.invokestatic 91, 3) := by decide +kernel
theorem dX4_addPart_99 : decode cX4_addPart 99 = .ok (.iload 8, 2) := by decide +kernel
theorem dX4_addPart_101 : decode cX4_addPart 101 = .ok (.idiv, 1) := by decide +kernel
theorem dX4_addPart_102 : decode cX4_addPart 102 = .ok (.istore 9, 2) := by decide +kernel
theorem dX4_addPart_104 : decode cX4_addPart 104 = .ok (.iload 6, 2) := by decide +kernel
theorem dX4_addPart_106 : decode cX4_addPart 106 = .ok (.iload 7, 2) := by decide +kernel
theorem dX4_addPart_108 : decode cX4_addPart 108 = .ok (.isub, 1) := by decide +kernel
theorem dX4_addPart_109 : decode cX4_addPart 109 = .ok (.invokestatic 91, 3) := by decide +kernel
theorem dX4_addPart_112 : decode cX4_addPart 112 = .ok (.iload 8, 2) := by decide +kernel
theorem dX4_addPart_114 : decode cX4_addPart 114 = .ok (.idiv, 1) := by decide +kernel
theorem dX4_addPart_115 : decode cX4_addPart 115 = .ok (.istore 10, 2) := by decide +kernel
theorem dX4_addPart_117 : decode cX4_addPart 117 = .ok (.iload 6, 2) := by decide +kernel
theorem dX4_addPart_119 : decode cX4_addPart 119 = .ok (.ifCond .le 7, 3) := by decide +kernel
theorem dX4_addPart_122 : decode cX4_addPart 122 = .ok (.iconst 1, 1) := by decide +kernel
theorem dX4_addPart_123 : decode cX4_addPart 123 = .ok (.goto 4, 3) := by decide +kernel
theorem dX4_addPart_126 : decode cX4_addPart 126 = .ok (.iconst 0, 1) := by decide +kernel
theorem dX4_addPart_127 : decode cX4_addPart 127 = .ok (.istore 11, 2) := by decide +kernel
theorem dX4_addPart_129 : decode cX4_addPart 129 = .ok (.iload 11, 2) := by decide +kernel
theorem dX4_addPart_131 : decode cX4_addPart 131 = .ok (.iload 4, 2) := by decide +kernel
theorem dX4_addPart_133 : decode cX4_addPart 133 = .ok (.iconst 1, 1) := by decide +kernel
theorem dX4_addPart_134 : decode cX4_addPart 134 = .ok (.if_icmp .ne 7, 3) := by decide +kernel
theorem dX4_addPart_137 : decode cX4_addPart 137 = .ok (.iconst 1, 1) := by decide +kernel
theorem dX4_addPart_138 : decode cX4_addPart 138 = .ok (.goto 4, 3) := by decide +kernel
theorem dX4_addPart_141 : decode cX4_addPart 141 = .ok (.iconst 0, 1) := by decide +kernel
theorem dX4_addPart_142 : decode cX4_addPart 142 = .ok (.if_icmp .ne 28, 3) := by decide +kernel
theorem dX4_addPart_145 : decode cX4_addPart 145 = .ok (.aload_n 0, 1) := by decide +kernel
theorem dX4_addPart_146 : decode cX4_addPart 146 = .ok (.iload 5, 2) := by decide +kernel
theorem dX4_addPart_148 : decode cX4_addPart 148 = .ok (.aload_n 1, 1) := by decide +kernel
theorem dX4_addPart_149 : decode cX4_addPart 149 = .ok (.getfield 23, 3) := by decide +kernel
theorem dX4_addPart_152 : decode cX4_addPart 152 = .ok (.iload_n 2, 1) := by decide +kernel
theorem dX4_addPart_153 : decode cX4_addPart 153 = .ok (.iaload, 1) := by decide +kernel
theorem dX4_addPart_154 : decode cX4_addPart 154 = .ok (.aload_n 1, 1) := by decide +kernel
theorem dX4_addPart_155 : decode cX4_addPart 155 = .ok (.getfield 26, 3) := by decide +kernel
theorem dX4_addPart_158 : decode cX4_addPart 158 = .ok (.iload_n 2, 1) := by decide +kernel
theorem dX4_addPart_159 : decode cX4_addPart 159 = .ok (.iaload, 1) := by decide +kernel
theorem dX4_addPart_160 : decode cX4_addPart 160 = .ok (.iload 9, 2) := by decide +kernel
theorem dX4_addPart_162 : decode cX4_addPart 162 = .ok (.iload 10, 2) := by decide +kernel
theorem dX4_addPart_164 : decode cX4_addPart 164 = .ok (.invokevirtual 42, 3) := by decide +kernel
theorem dX4_addPart_167 : decode cX4_addPart 167 = .ok (.goto 25, 3) := by decide +kernel
theorem dX4_addPart_170 : decode cX4_addPart 170 = .ok (.aload_n 0, 1) := by decide +kernel
theorem dX4_addPart_171 : decode cX4_addPart 171 = .ok (.iload 5, 2) := by decide +kernel
theorem dX4_addPart_173 : decode cX4_addPart 173 = .ok (.iload 9, 2) := by decide +kernel
theorem dX4_addPart_175 : decode cX4_addPart 175 = .ok (.iload 10, 2) := by decide +kernel
theorem dX4_addPart_177 : decode cX4_addPart 177 = .ok (.aload_n 1, 1) := by decide +kernel
theorem dX4_addPart_178 : decode cX4_addPart 178 = .ok (.getfield 29, 3) := by decide +kernel
theorem dX4_addPart_181 : decode cX4_addPart 181 = .ok (.iload_n 2, 1) := by decide +kernel
theorem dX4_addPart_182 : decode cX4_addPart 182 = .ok (.iaload, 1) := by decide +kernel
theorem dX4_addPart_183 : decode cX4_addPart 183 = .ok (.aload_n 1, 1) := by decide +kernel
theorem dX4_addPart_184 : decode cX4_addPart 184 = .ok (.getfield 32, 3) := by decide +kernel
theorem dX4_addPart_187 : decode cX4_addPart 187 = .ok (.iload_n 2, 1) := by decide +kernel
theorem dX4_addPart_188 : decode cX4_addPart 188 = .ok (.iaload, 1) := by decide +kernel
theorem dX4_addPart_189 : decode cX4_addPart 189 = .ok (.invokevirtual 42, 3) := by decide +kernel
theorem dX4_addPart_192 : decode cX4_addPart 192 = .ok (.return_, 1) := by decide +kernel
theorem dX4_add_0 : decode cX4_add 0 = .ok (.aload_n 0, 1) := by decide +kernel
theorem dX4_add_1 : decode cX4_add 1 = .ok (.getfield 35, 3) := by decide +kernel
theorem dX4_add_4 : decode cX4_add 4 = .ok (.ifCond .lt 14, 3) := by decide +kernel
theorem dX4_add_7 : decode cX4_add 7 = .ok (.aload_n 0, 1) := by decide +kernel
theorem dX4_add_8 : decode cX4_add 8 = .ok (.getfield 35, 3) := by decide +kernel
theorem dX4_add_11 : decode cX4_add 11 = .ok (.aload_n 0, 1) := by decide +kernel
theorem dX4_add_12 : decode cX4_add 12 = .ok (.getfield 15, 3) := by decide +kernel
theorem dX4_add_15 : decode cX4_add 15 = .ok (.if_icmp .lt 4, 3) := by decide +kernel
theorem dX4_add_18 : decode cX4_add 18 = .ok (.return_, 1) := by decide +kernel
theorem dX4_add_19 : decode cX4_add 19 = .ok (.aload_n 0, 1) := by decide +kernel
theorem dX4_add_20 : decode cX4_add 20 = .ok (.getfield 19, 3) := by decide +kernel
theorem dX4_add_23 : decode cX4_add 23 = .ok (.aload_n 0, 1) := by decide +kernel
theorem dX4_add_24 : decode cX4_add 24 = .ok (.getfield 35, 3) := by decide +kernel
theorem dX4_add_27 : decode cX4_add 27 = .ok (.iload_n 1, 1) := by decide +kernel
theorem dX4_add_28 : decode cX4_add 28 = .ok (.iastore, 1) := by decide +kernel
theorem dX4_add_29 : decode cX4_add 29 = .ok (.aload_n 0, 1) := by decide +kernel
theorem dX4_add_30 : decode cX4_add 30 = .ok (.getfield 23, 3) := by decide +kernel
theorem dX4_add_33 : decode cX4_add 33 = .ok (.aload_n 0, 1) := by decide +kernel
theorem dX4_add_34 : decode cX4_add 34 = .ok (.getfield 35, 3) := by decide +kernel
theorem dX4_add_37 : decode cX4_add 37 = .ok (.iload_n 2, 1) := by decide +kernel
theorem dX4_add_38 : decode cX4_add 38 = .ok (.iastore, 1) := by decide +kernel
theorem dX4_add_39 : decode cX4_add 39 = .ok (.aload_n 0, 1) := by decide +kernel
theorem dX4_add_40 : decode cX4_add 40 = .ok (.getfield 26, 3) := by decide +kernel
theorem dX4_add_43 : decode cX4_add 43 = .ok (.aload_n 0, 1) := by decide +kernel
theorem dX4_add_44 : decode cX4_add 44 = .ok (.getfield 35, 3) := by decide +kernel
theorem dX4_add_47 : decode cX4_add 47 = .ok (.iload_n 3, 1) := by decide +kernel
theorem dX4_add_48 : decode cX4_add 48 = .ok (.iastore, 1) := by decide +kernel
theorem dX4_add_49 : decode cX4_add 49 = .ok (.aload_n 0, 1) := by decide +kernel
theorem dX4_add_50 : decode cX4_add 50 = .ok (.getfield 29, 3) := by decide +kernel
theorem dX4_add_53 : decode cX4_add 53 = .ok (.aload_n 0, 1) := by decide +kernel
theorem dX4_add_54 : decode cX4_add 54 = .ok (.getfield 35, 3) := by decide +kernel
theorem dX4_add_57 : decode cX4_add 57 = .ok (.iload 4, 2) := by decide +kernel
theorem dX4_add_59 : decode cX4_add 59 = .ok (.iastore, 1) := by decide +kernel
theorem dX4_add_60 : decode cX4_add 60 = .ok (.aload_n 0, 1) := by decide +kernel
theorem dX4_add_61 : decode cX4_add 61 = .ok (.getfield 32, 3) := by decide +kernel
theorem dX4_add_64 : decode cX4_add 64 = .ok (.aload_n 0, 1) := by decide +kernel
theorem dX4_add_65 : decode cX4_add 65 = .ok (.getfield 35, 3) := by decide +kernel
theorem dX4_add_68 : decode cX4_add 68 = .ok (.iload 5, 2) := by decide +kernel
theorem dX4_add_70 : decode cX4_add 70 = .ok (.iastore, 1) := by decide +kernel
theorem dX4_add_71 : decode cX4_add 71 = .ok (.aload_n 0, 1) := by decide +kernel
theorem dX4_add_72 : decode cX4_add 72 = .ok (.dup, 1) := by decide +kernel
theorem dX4_add_73 : decode cX4_add 73 = .ok (.getfield 35, 3) := by decide +kernel
theorem dX4_add_76 : decode cX4_add 76 = .ok (.iconst 1, 1) := by decide +kernel
theorem dX4_add_77 : decode cX4_add 77 = .ok (.iadd, 1) := by decide +kernel
theorem dX4_add_78 : decode cX4_add 78 = .ok (.putfield 35, 3) := by decide +kernel
theorem dX4_add_81 : decode cX4_add 81 = .ok (.return_, 1) := by decide +kernel
theorem dX5_init_0 : decode cX5_init 0 = .ok (.aload_n 0, 1) := by decide +kernel
theorem dX5_init_1 : decode cX5_init 1 = .ok (.invokespecial 3, 3) := by decide +kernel
theorem dX5_init_4 : decode cX5_init 4 = .ok (.aload_n 0, 1) := by decide +kernel
theorem dX5_init_5 : decode cX5_init 5 = .ok (.bipush 12, 2) := by decide +kernel
theorem dX5_init_7 : decode cX5_init 7 = .ok (.newarray .boolean, 2) := by decide +kernel
theorem dX5_init_9 : decode cX5_init 9 = .ok (.putfield 9, 3) := by decide +kernel
theorem dX5_init_12 : decode cX5_init 12 = .ok (.aload_n 0, 1) := by decide +kernel
theorem dX5_init_13 : decode cX5_init 13 = .ok (.iconst 0, 1) := by decide +kernel
theorem dX5_init_14 : decode cX5_init 14 = .ok (.putfield 15, 3) := by decide +kernel
theorem dX5_init_17 : decode cX5_init 17 = .ok (.aload_n 0, 1) := by decide +kernel
theorem dX5_init_18 : decode cX5_init 18 = .ok (.iconst 0, 1) := by decide +kernel
theorem dX5_init_19 : decode cX5_init 19 = .ok (.putfield 19, 3) := by decide +kernel
theorem dX5_init_22 : decode cX5_init 22 = .ok (.aload_n 0, 1) := by decide +kernel
theorem dX5_init_23 : decode cX5_init 23 = .ok (.iconst 1, 1) := by decide +kernel
theorem dX5_init_24 : decode cX5_init 24 = .ok (.putfield 22, 3) := by decide +kernel
theorem dX5_init_27 : decode cX5_init 27 = .ok (.aload_n 0, 1) := by decide +kernel
theorem dX5_init_28 : decode cX5_init 28 = .ok (.iconst 0, 1) := by decide +kernel
theorem dX5_init_29 : decode cX5_init 29 = .ok (.putfield 25, 3) := by decide +kernel
theorem dX5_init_32 : decode cX5_init 32 = .ok (.aload_n 0, 1) := by decide +kernel
theorem dX5_init_33 : decode cX5_init 33 = .ok (.iconst 0, 1) := by decide +kernel
theorem dX5_init_34 : decode cX5_init 34 = .ok (.putfield 28, 3) := by decide +kernel
theorem dX5_init_37 : decode cX5_init 37 = .ok (.aload_n 0, 1) := by decide +kernel
theorem dX5_init_38 : decode cX5_init 38 = .ok (.iconst 0, 1) := by decide +kernel
theorem dX5_init_39 : decode cX5_init 39 = .ok (.putfield 31, 3) := by decide +kernel
theorem dX5_init_42 : decode cX5_init 42 = .ok (.aload_n 0, 1) := by decide +kernel
theorem dX5_init_43 : decode cX5_init 43 = .ok (.iconst 1, 1) := by decide +kernel
theorem dX5_init_44 : decode cX5_init 44 = .ok (.putfield 34, 3) := by decide +kernel
theorem dX5_init_47 : decode cX5_init 47 = .ok (.aload_n 0, 1) := by decide +kernel
theorem dX5_init_48 : decode cX5_init 48 = .ok (.bipush (-8), 2) := by decide +kernel
theorem dX5_init_50 : decode cX5_init 50 = .ok (.putfield 37, 3) := by decide +kernel
theorem dX5_init_53 : decode cX5_init 53 = .ok (.aload_n 0, 1) := by decide +kernel
theorem dX5_init_54 : decode cX5_init 54 = .ok (.iconst 0, 1) := by decide +kernel
theorem dX5_init_55 : decode cX5_init 55 = .ok (.putfield 40, 3) := by decide +kernel
theorem dX5_init_58 : decode cX5_init 58 = .ok (.aload_n 0, 1) := by decide +kernel
theorem dX5_init_59 : decode cX5_init 59 = .ok (.iconst 1, 1) := by decide +kernel
theorem dX5_init_60 : decode cX5_init 60 = .ok (.putfield 43, 3) := by decide +kernel
theorem dX5_init_63 : decode cX5_init 63 = .ok (.aload_n 0, 1) := by decide +kernel
theorem dX5_init_64 : decode cX5_init 64 = .ok (.aload_n 1, 1) := by decide +kernel
theorem dX5_init_65 : decode cX5_init 65 = .ok (.putfield 46, 3) := by decide +kernel
theorem dX5_init_68 : decode cX5_init 68 = .ok (.return_, 1) := by decide +kernel
theorem dX5_standAt_0 : decode cX5_standAt 0 = .ok (.aload_n 0, 1) := by decide +kernel
theorem dX5_standAt_1 : decode cX5_standAt 1 = .ok (.iload_n 1, 1) := by decide +kernel
theorem dX5_standAt_2 : decode cX5_standAt 2 = .ok (.putfield 15, 3) := by decide +kernel
theorem dX5_standAt_5 : decode cX5_standAt 5 = .ok (.aload_n 0, 1) := by decide +kernel
theorem dX5_standAt_6 : decode cX5_standAt 6 = .ok (.iload_n 2, 1) := by decide +kernel
theorem dX5_standAt_7 : decode cX5_standAt 7 = .ok (.putfield 19, 3) := by decide +kernel
theorem dX5_standAt_10 : decode cX5_standAt 10 = .ok (.iconst 0, 1) := by decide +kernel
theorem dX5_standAt_11 : decode cX5_standAt 11 = .ok (.istore_n 3, 1) := by decide +kernel
theorem dX5_standAt_12 : decode cX5_standAt 12 = .ok (.iload_n 3, 1) := by decide +kernel
theorem dX5_standAt_13 : decode cX5_standAt 13 = .ok (.bipush 12, 2) := by decide +kernel
theorem dX5_standAt_15 : decode cX5_standAt 15 = .ok (.if_icmp .ge 25, 3) := by decide +kernel
theorem dX5_standAt_18 : decode cX5_standAt 18 = .ok (.aload_n 0, 1) := by decide +kernel
theorem dX5_standAt_19 : decode cX5_standAt 19 = .ok (.getfield 9, 3) := by decide +kernel
theorem dX5_standAt_22 : decode cX5_standAt 22 = .ok (.iload_n 3, 1) := by decide +kernel
theorem dX5_standAt_23 : decode cX5_standAt 23 = .ok (.aload_n 0, 1) := by decide +kernel
theorem dX5_standAt_24 : decode cX5_standAt 24 = .ok (.getfield 46, 3) := by decide +kernel
theorem dX5_standAt_27 : decode cX5_standAt 27 = .ok (.iload_n 3, 1) := by decide +kernel
theorem dX5_standAt_28 : decode cX5_standAt 28 = .ok (.iload_n 1, 1) := by decide +kernel
theorem dX5_standAt_29 : decode cX5_standAt 29 = .ok (.iload_n 2, 1) := by decide +kernel
theorem dX5_standAt_30 : decode cX5_standAt 30 = .ok (.invokevirtual 50, 3) := by decide +kernel
theorem dX5_standAt_33 : decode cX5_standAt 33 = .ok (.bastore, 1) := by decide +kernel
theorem dX5_standAt_34 : decode cX5_standAt 34 = .ok (.iinc 3 1, 3) := by decide +kernel
theorem dX5_standAt_37 : decode cX5_standAt 37 = .ok (.goto (-25), 3) := by decide +kernel
theorem dX5_standAt_40 : decode cX5_standAt 40 = .ok (.return_, 1) := by decide +kernel
theorem dX5_aim_0 : decode cX5_aim 0 = .ok (.aload_n 0, 1) := by decide +kernel
theorem dX5_aim_1 : decode cX5_aim 1 = .ok (.iload_n 1, 1) := by decide +kernel
theorem dX5_aim_2 : decode cX5_aim 2 = .ok (.putfield 22, 3) := by decide +kernel
theorem dX5_aim_5 : decode cX5_aim 5 = .ok (.aload_n 0, 1) := by decide +kernel
theorem dX5_aim_6 : decode cX5_aim 6 = .ok (.iload_n 2, 1) := by decide +kernel
theorem dX5_aim_7 : decode cX5_aim 7 = .ok (.putfield 25, 3) := by decide +kernel
theorem dX5_aim_10 : decode cX5_aim 10 = .ok (.return_, 1) := by decide +kernel
theorem dX5_aimAtColumn_0 : decode cX5_aimAtColumn 0 = .ok (.bipush 31, 2) := by decide +kernel
theorem dX5_aimAtColumn_2 : decode cX5_aimAtColumn 2 = .ok (.iconst 2, 1) := by decide +kernel
theorem dX5_aimAtColumn_3 : decode cX5_aimAtColumn 3 = .ok (.iload_n 3, 1) := by decide +kernel
theorem dX5_aimAtColumn_4 : decode cX5_aimAtColumn 4 = .ok (.imul, 1) := by decide +kernel
theorem dX5_aimAtColumn_5 : decode cX5_aimAtColumn 5 = .ok (.isub, 1) := by decide +kernel
theorem dX5_aimAtColumn_6 : decode cX5_aimAtColumn 6 = .ok (.istore 4, 2) := by decide +kernel
theorem dX5_aimAtColumn_8 : decode cX5_aimAtColumn 8 = .ok (.aload_n 0, 1) := by decide +kernel
theorem dX5_aimAtColumn_9 : decode cX5_aimAtColumn 9 = .ok (.bipush 32, 2) := by decide +kernel
theorem dX5_aimAtColumn_11 : decode cX5_aimAtColumn 11 = .ok (.iload_n 1, 1) := by decide +kernel
theorem dX5_aimAtColumn_12 : decode cX5_aimAtColumn 12 = .ok (.imul, 1) := by decide +kernel
theorem dX5_aimAtColumn_13 : decode cX5_aimAtColumn 13 = .ok (.iload 4, 2) := by decide +kernel
theorem dX5_aimAtColumn_15 : decode cX5_aimAtColumn 15 = .ok (.iload_n 2, 1) := by decide +kernel
theorem dX5_aimAtColumn_16 : decode cX5_aimAtColumn 16 = .ok (.imul, 1) := by decide +kernel
theorem dX5_aimAtColumn_17 : decode cX5_aimAtColumn 17 = .ok (.isub, 1) := by decide +kernel
theorem dX5_aimAtColumn_18 : decode cX5_aimAtColumn 18 = .ok (.bipush 32, 2) := by decide +kernel
theorem dX5_aimAtColumn_20 : decode cX5_aimAtColumn 20 = .ok (.iload_n 2, 1) := by decide +kernel
theorem dX5_aimAtColumn_21 : decode cX5_aimAtColumn 21 = .ok (.imul, 1) := by decide +kernel
theorem dX5_aimAtColumn_22 : decode cX5_aimAtColumn 22 = .ok (.iload 4, 2) := by decide +kernel
theorem dX5_aimAtColumn_24 : decode cX5_aimAtColumn 24 = .ok (.iload_n 1, 1) := by decide +kernel
theorem dX5_aimAtColumn_25 : decode cX5_aimAtColumn 25 = .ok (.imul, 1) := by decide +kernel
theorem dX5_aimAtColumn_26 : decode cX5_aimAtColumn 26 = .ok (.iadd, 1) := by decide +kernel
theorem dX5_aimAtColumn_27 : decode cX5_aimAtColumn 27 = .ok (.invokevirtual 56, 3) := by decide +kernel
theorem dX5_aimAtColumn_30 : decode cX5_aimAtColumn 30 = .ok (.return_, 1) := by decide +kernel
theorem dX5_hits_0 : decode cX5_hits 0 = .ok (.aload_n 0, 1) := by decide +kernel
theorem dX5_hits_1 : decode cX5_hits 1 = .ok (.getfield 46, 3) := by decide +kernel
theorem dX5_hits_4 : decode cX5_hits 4 = .ok (.iload_n 1, 1) := by decide +kernel
theorem dX5_hits_5 : decode cX5_hits 5 = .ok (.invokevirtual 60, 3) := by decide +kernel
theorem dX5_hits_8 : decode cX5_hits 8 = .ok (.ifCond .ne 5, 3) := by decide +kernel
theorem dX5_hits_11 : decode cX5_hits 11 = .ok (.iconst 0, 1) := by decide +kernel
theorem dX5_hits_12 : decode cX5_hits 12 = .ok (.ireturn, 1) := by decide +kernel
theorem dX5_hits_13 : decode cX5_hits 13 = .ok (.aload_n 0, 1) := by decide +kernel
theorem dX5_hits_14 : decode cX5_hits 14 = .ok (.getfield 46, 3) := by decide +kernel
theorem dX5_hits_17 : decode cX5_hits 17 = .ok (.iload_n 1, 1) := by decide +kernel
theorem dX5_hits_18 : decode cX5_hits 18 = .ok (.invokevirtual 64, 3) := by decide +kernel
theorem dX5_hits_21 : decode cX5_hits 21 = .ok (.istore_n 2, 1) := by decide +kernel
theorem dX5_hits_22 : decode cX5_hits 22 = .ok (.aload_n 0, 1) := by decide +kernel
theorem dX5_hits_23 : decode cX5_hits 23 = .ok (.getfield 46, 3) := by decide +kernel
theorem dX5_hits_26 : decode cX5_hits 26 = .ok (.iload_n 1, 1) := by decide +kernel
theorem dX5_hits_27 : decode cX5_hits 27 = .ok (.invokevirtual 67, 3) := by decide +kernel
theorem dX5_hits_30 : decode cX5_hits 30 = .ok (.istore_n 3, 1) := by decide +kernel
theorem dX5_hits_31 : decode cX5_hits 31 = .ok (.aload_n 0, 1) := by decide +kernel
theorem dX5_hits_32 : decode cX5_hits 32 = .ok (.getfield 22, 3) := by decide +kernel
theorem dX5_hits_35 : decode cX5_hits 35 = .ok (.iload_n 3, 1) := by decide +kernel
theorem dX5_hits_36 : decode cX5_hits 36 = .ok (.imul, 1) := by decide +kernel
theorem dX5_hits_37 : decode cX5_hits 37 = .ok (.aload_n 0, 1) := by decide +kernel
theorem dX5_hits_38 : decode cX5_hits 38 = .ok (.getfield 25, 3) := by decide +kernel
theorem dX5_hits_41 : decode cX5_hits 41 = .ok (.iload_n 2, 1) := by decide +kernel
theorem dX5_hits_42 : decode cX5_hits 42 = .ok (.imul, 1) := by decide +kernel
theorem dX5_hits_43 : decode cX5_hits 43 = .ok (.isub, 1) := by decide +kernel
theorem dX5_hits_44 : decode cX5_hits 44 = .ok (.istore 4, 2) := by decide +kernel
theorem dX5_hits_46 : decode cX5_hits 46 = .ok (.iload 4, 2) := by decide +kernel
theorem dX5_hits_48 : decode cX5_hits 48 = .ok (.ifCond .ne 5, 3) := by decide +kernel
theorem dX5_hits_51 : decode cX5_hits 51 = .ok (.iconst 0, 1) := by decide +kernel
theorem dX5_hits_52 : decode cX5_hits 52 = .ok (.ireturn, 1) := by decide +kernel
theorem dX5_hits_53 : decode cX5_hits 53 = .ok (.aload_n 0, 1) := by decide +kernel
theorem dX5_hits_54 : decode cX5_hits 54 = .ok (.getfield 46, 3) := by decide +kernel
theorem dX5_hits_57 : decode cX5_hits 57 = .ok (.iload_n 1, 1) := by decide +kernel
theorem dX5_hits_58 : decode cX5_hits 58 = .ok (.invokevirtual 69, 3) := by decide +kernel
theorem dX5_hits_61 : decode cX5_hits 61 = .ok (.aload_n 0, 1) := by decide +kernel
theorem dX5_hits_62 : decode cX5_hits 62 = .ok (.getfield 15, 3) := by decide +kernel
theorem dX5_hits_65 : decode cX5_hits 65 = .ok (.isub, 1) := by decide +kernel
theorem dX5_hits_66 : decode cX5_hits 66 = .ok (.istore 5, 2) := by decide +kernel
theorem dX5_hits_68 : decode cX5_hits 68 = .ok (.aload_n 0, 1) := by decide +kernel
theorem dX5_hits_69 : decode cX5_hits 69 = .ok (.getfield 46, 3) := by decide +kernel
theorem dX5_hits_72 : decode cX5_hits 72 = .ok (.iload_n 1, 1) := by decide +kernel
theorem dX5_hits_73 : decode cX5_hits 73 = .ok (.invokevirtual 72, 3) := by decide +kernel
theorem dX5_hits_76 : decode cX5_hits 76 = .ok (.aload_n 0, 1) := by decide +kernel
theorem dX5_hits_77 : decode cX5_hits 77 = .ok (.getfield 19, 3) := by decide +kernel
theorem dX5_hits_80 : decode cX5_hits 80 = .ok (.isub, 1) := by decide +kernel
theorem dX5_hits_81 : decode cX5_hits 81 = .ok (.istore 6, 2) := by decide +kernel
theorem dX5_hits_83 : decode cX5_hits 83 = .ok (.iload 4, 2) := by decide +kernel
theorem dX5_hits_85 : decode cX5_hits 85 = .ok (.ifCond .le 7, 3) := by decide +kernel
theorem dX5_hits_88 : decode cX5_hits 88 = .ok (.iconst 1, 1) := by decide +kernel
theorem dX5_hits_89 : decode cX5_hits 89 = .ok (.goto 4, 3) := by decide +kernel
theorem dX5_hits_92 : decode cX5_hits 92 = .ok (.iconst (-1), 1) := by decide +kernel
theorem dX5_hits_93 : decode cX5_hits 93 = .ok (.istore 7, 2) := by decide +kernel
theorem dX5_hits_95 : decode cX5_hits 95 = .ok (.aload_n 0, 1) := by decide +kernel
theorem dX5_hits_96 : decode cX5_hits 96 = .ok (.iload 7, 2) := by decide +kernel
theorem dX5_hits_98 : decode cX5_hits 98 = .ok (.iload 4, 2) := by decide +kernel
theorem dX5_hits_100 : decode cX5_hits 100 = .ok (.imul, 1) := by decide +kernel
theorem dX5_hits_101 : decode cX5_hits 101 = .ok (.putfield 34, 3) := by decide +kernel
theorem dX5_hits_104 : decode cX5_hits 104 = .ok (.aload_n 0, 1) := by decide +kernel
theorem dX5_hits_105 : decode cX5_hits 105 = .ok (.iload 7, 2) := by decide +kernel
theorem dX5_hits_107 : decode cX5_hits 107 = .ok (.iload 5, 2) := by decide +kernel
theorem dX5_hits_109 : decode cX5_hits 109 = .ok (.iload_n 3, 1) := by decide +kernel
theorem dX5_hits_110 : decode cX5_hits 110 = .ok (.imul, 1) := by decide +kernel
theorem dX5_hits_111 : decode cX5_hits 111 = .ok (.iload 6, 2) := by decide +kernel
theorem dX5_hits_113 : decode cX5_hits 113 = .ok (.iload_n 2, 1) := by decide +kernel
theorem dX5_hits_114 : decode cX5_hits 114 = .ok (.imul, 1) := by decide +kernel
theorem dX5_hits_115 : decode cX5_hits 115 = .ok (.isub, 1) := by decide +kernel
theorem dX5_hits_116 : decode cX5_hits 116 = .ok (.imul, 1) := by decide +kernel
theorem dX5_hits_117 : decode cX5_hits 117 = .ok (.putfield 28, 3) := by decide +kernel
theorem dX5_hits_120 : decode cX5_hits 120 = .ok (.aload_n 0, 1) := by decide +kernel
theorem dX5_hits_121 : decode cX5_hits 121 = .ok (.iload 7, 2) := by decide +kernel
theorem dX5_hits_123 : decode cX5_hits 123 = .ok (.iload 5, 2) := by decide +kernel
theorem dX5_hits_125 : decode cX5_hits 125 = .ok (.aload_n 0, 1) := by decide +kernel
theorem dX5_hits_126 : decode cX5_hits 126 = .ok (.getfield 25, 3) := by decide +kernel
theorem dX5_hits_129 : decode cX5_hits 129 = .ok (.imul, 1) := by decide +kernel
theorem dX5_hits_130 : decode cX5_hits 130 = .ok (.iload 6, 2) := by decide +kernel
theorem dX5_hits_132 : decode cX5_hits 132 = .ok (.aload_n 0, 1) := by decide +kernel
theorem dX5_hits_133 : decode cX5_hits 133 = .ok (.getfield 22, 3) := by decide +kernel
theorem dX5_hits_136 : decode cX5_hits 136 = .ok (.imul, 1) := by decide +kernel
theorem dX5_hits_137 : decode cX5_hits 137 = .ok (.isub, 1) := by decide +kernel
theorem dX5_hits_138 : decode cX5_hits 138 = .ok (.imul, 1) := by decide +kernel
theorem dX5_hits_139 : decode cX5_hits 139 = .ok (.putfield 31, 3) := by decide +kernel
theorem dX5_hits_142 : decode cX5_hits 142 = .ok (.aload_n 0, 1) := by decide +kernel
theorem dX5_hits_143 : decode cX5_hits 143 = .ok (.getfield 28, 3) := by decide +kernel
theorem dX5_hits_146 : decode cX5_hits 146 = .ok (.ifCond .le 25, 3) := by decide +kernel
theorem dX5_hits_149 : decode cX5_hits 149 = .ok (.aload_n 0, 1) := by decide +kernel
theorem dX5_hits_150 : decode cX5_hits 150 = .ok (.getfield 31, 3) := by decide +kernel
theorem dX5_hits_153 : decode cX5_hits 153 = .ok (.ifCond .lt 18, 3) := by decide +kernel
theorem dX5_hits_156 : decode cX5_hits 156 = .ok (.aload_n 0, 1) := by decide +kernel
theorem dX5_hits_157 : decode cX5_hits 157 = .ok (.getfield 31, 3) := by decide +kernel
theorem dX5_hits_160 : decode cX5_hits 160 = .ok (.aload_n 0, 1) := by decide +kernel
theorem dX5_hits_161 : decode cX5_hits 161 = .ok (.getfield 34, 3) := by decide +kernel
theorem dX5_hits_164 : decode cX5_hits 164 = .ok (.if_icmp .gt 7, 3) := by decide +kernel
theorem dX5_hits_167 : decode cX5_hits 167 = .ok (.iconst 1, 1) := by decide +kernel
theorem dX5_hits_168 : decode cX5_hits 168 = .ok (.goto 4, 3) := by decide +kernel
theorem dX5_hits_171 : decode cX5_hits 171 = .ok (.iconst 0, 1) := by decide +kernel
theorem dX5_hits_172 : decode cX5_hits 172 = .ok (.ireturn, 1) := by decide +kernel
theorem dX5_hitIsAtOrAfter_0 : decode cX5_hitIsAtOrAfter 0 = .ok (.aload_n 0, 1) := by decide +kernel
theorem dX5_hitIsAtOrAfter_1 : decode cX5_hitIsAtOrAfter 1 = .ok (.getfield 31, 3) := by decide +kernel
theorem dX5_hitIsAtOrAfter_4 : decode cX5_hitIsAtOrAfter 4 = .ok (.i2l, 1) := by decide +kernel
theorem dX5_hitIsAtOrAfter_5 : decode cX5_hitIsAtOrAfter 5 = .ok (.iload_n 2, 1) := by decide +kernel
theorem dX5_hitIsAtOrAfter_6 : decode cX5_hitIsAtOrAfter 6 = .ok (.i2l, 1) := by decide +kernel
theorem dX5_hitIsAtOrAfter_7 : decode cX5_hitIsAtOrAfter 7 = .ok (.lmul, 1) := by decide +kernel
theorem dX5_hitIsAtOrAfter_8 : decode cX5_hitIsAtOrAfter 8 = .ok (.iload_n 1, 1) := by decide +kernel
theorem dX5_hitIsAtOrAfter_9 : decode cX5_hitIsAtOrAfter 9 = .ok (.i2l, 1) := by decide +kernel
theorem dX5_hitIsAtOrAfter_10 : decode cX5_hitIsAtOrAfter 10 = .ok (.aload_n 0, 1) := by decide +kernel
theorem dX5_hitIsAtOrAfter_11 : decode cX5_hitIsAtOrAfter 11 = .ok (.getfield 34, 3) := by decide +kernel
theorem dX5_hitIsAtOrAfter_14 : decode cX5_hitIsAtOrAfter 14 = .ok (.i2l, 1) := by decide +kernel
theorem dX5_hitIsAtOrAfter_15 : decode cX5_hitIsAtOrAfter 15 = .ok (.lmul, 1) := by decide +kernel
theorem dX5_hitIsAtOrAfter_16 : decode cX5_hitIsAtOrAfter 16 = .ok (.lcmp, 1) := by decide +kernel
theorem dX5_hitIsAtOrAfter_17 : decode cX5_hitIsAtOrAfter 17 = .ok (.ifCond .lt 7, 3) := by decide +kernel
theorem dX5_hitIsAtOrAfter_20 : decode cX5_hitIsAtOrAfter 20 = .ok (.iconst 1, 1) := by decide +kernel
theorem dX5_hitIsAtOrAfter_21 : decode cX5_hitIsAtOrAfter 21 = .ok (.goto 4, 3) := by decide +kernel
theorem dX5_hitIsAtOrAfter_24 : decode cX5_hitIsAtOrAfter 24 = .ok (.iconst 0, 1) := by decide +kernel
theorem dX5_hitIsAtOrAfter_25 : decode cX5_hitIsAtOrAfter 25 = .ok (.ireturn, 1) := by decide +kernel
theorem dX5_hitIsAtOrBefore_0 : decode cX5_hitIsAtOrBefore 0 = .ok (.aload_n 0, 1) := by decide +kernel
theorem dX5_hitIsAtOrBefore_1 : decode cX5_hitIsAtOrBefore 1 = .ok (.getfield 31, 3) := by decide +kernel
theorem dX5_hitIsAtOrBefore_4 : decode cX5_hitIsAtOrBefore 4 = .ok (.i2l, 1) := by decide +kernel
theorem dX5_hitIsAtOrBefore_5 : decode cX5_hitIsAtOrBefore 5 = .ok (.iload_n 2, 1) := by decide +kernel
theorem dX5_hitIsAtOrBefore_6 : decode cX5_hitIsAtOrBefore 6 = .ok (.i2l, 1) := by decide +kernel
theorem dX5_hitIsAtOrBefore_7 : decode cX5_hitIsAtOrBefore 7 = .ok (.lmul, 1) := by decide +kernel
theorem dX5_hitIsAtOrBefore_8 : decode cX5_hitIsAtOrBefore 8 = .ok (.iload_n 1, 1) := by decide +kernel
theorem dX5_hitIsAtOrBefore_9 : decode cX5_hitIsAtOrBefore 9 = .ok (.i2l, 1) := by decide +kernel
theorem dX5_hitIsAtOrBefore_10 : decode cX5_hitIsAtOrBefore 10 = .ok (.aload_n 0, 1) := by decide +kernel
theorem dX5_hitIsAtOrBefore_11 : decode cX5_hitIsAtOrBefore 11 = .ok (.getfield 34, 3) := by decide +kernel
theorem dX5_hitIsAtOrBefore_14 : decode cX5_hitIsAtOrBefore 14 = .ok (.i2l, 1) := by decide +kernel
theorem dX5_hitIsAtOrBefore_15 : decode cX5_hitIsAtOrBefore 15 = .ok (.lmul, 1) := by decide +kernel
theorem dX5_hitIsAtOrBefore_16 : decode cX5_hitIsAtOrBefore 16 = .ok (.lcmp, 1) := by decide +kernel
theorem dX5_hitIsAtOrBefore_17 : decode cX5_hitIsAtOrBefore 17 = .ok (.ifCond .gt 7, 3) := by decide +kernel
theorem dX5_hitIsAtOrBefore_20 : decode cX5_hitIsAtOrBefore 20 = .ok (.iconst 1, 1) := by decide +kernel
theorem dX5_hitIsAtOrBefore_21 : decode cX5_hitIsAtOrBefore 21 = .ok (.goto 4, 3) := by decide +kernel
theorem dX5_hitIsAtOrBefore_24 : decode cX5_hitIsAtOrBefore 24 = .ok (.iconst 0, 1) := by decide +kernel
theorem dX5_hitIsAtOrBefore_25 : decode cX5_hitIsAtOrBefore 25 = .ok (.ireturn, 1) := by decide +kernel
theorem dX5_findFirstHit_0 : decode cX5_findFirstHit 0 = .ok (.aload_n 0, 1) := by decide +kernel
theorem dX5_findFirstHit_1 : decode cX5_findFirstHit 1 = .ok (.bipush (-8), 2) := by decide +kernel
theorem dX5_findFirstHit_3 : decode cX5_findFirstHit 3 = .ok (.putfield 37, 3) := by decide +kernel
theorem dX5_findFirstHit_6 : decode cX5_findFirstHit 6 = .ok (.iconst 0, 1) := by decide +kernel
theorem dX5_findFirstHit_7 : decode cX5_findFirstHit 7 = .ok (.istore_n 1, 1) := by decide +kernel
theorem dX5_findFirstHit_8 : decode cX5_findFirstHit 8 = .ok (.iload_n 1, 1) := by decide +kernel
theorem dX5_findFirstHit_9 : decode cX5_findFirstHit 9 = .ok (.bipush 12, 2) := by decide +kernel
theorem dX5_findFirstHit_11 : decode cX5_findFirstHit 11 = .ok (.if_icmp .ge 54, 3) := by decide +kernel
theorem dX5_findFirstHit_14 : decode cX5_findFirstHit 14 = .ok (.aload_n 0, 1) := by decide +kernel
theorem dX5_findFirstHit_15 : decode cX5_findFirstHit 15 = .ok (.getfield 9, 3) := by decide +kernel
theorem dX5_findFirstHit_18 : decode cX5_findFirstHit 18 = .ok (.iload_n 1, 1) := by decide +kernel
theorem dX5_findFirstHit_19 : decode cX5_findFirstHit 19 = .ok (.baload, 1) := by decide +kernel
theorem dX5_findFirstHit_20 : decode cX5_findFirstHit 20 = .ok (.ifCond .eq 39, 3) := by decide +kernel
theorem dX5_findFirstHit_23 : decode cX5_findFirstHit 23 = .ok (.aload_n 0, 1) := by decide +kernel
theorem dX5_findFirstHit_24 : decode cX5_findFirstHit 24 = .ok (.iload_n 1, 1) := by decide +kernel
theorem dX5_findFirstHit_25 : decode cX5_findFirstHit 25 = .ok (.invokevirtual 75, 3) := by decide +kernel
theorem dX5_findFirstHit_28 : decode cX5_findFirstHit 28 = .ok (.ifCond .eq 31, 3) := by decide +kernel
theorem dX5_findFirstHit_31 : decode cX5_findFirstHit 31 = .ok (.aload_n 0, 1) := by decide +kernel
theorem dX5_findFirstHit_32 : decode cX5_findFirstHit 32 = .ok (.invokevirtual 78, 3) := by decide +kernel
theorem dX5_findFirstHit_35 : decode cX5_findFirstHit 35 = .ok (.ifCond .eq 24, 3) := by decide +kernel
theorem dX5_findFirstHit_38 : decode cX5_findFirstHit 38 = .ok (.aload_n 0, 1) := by decide +kernel
theorem dX5_findFirstHit_39 : decode cX5_findFirstHit 39 = .ok (.iload_n 1, 1) := by decide +kernel
theorem dX5_findFirstHit_40 : decode cX5_findFirstHit 40 = .ok (.putfield 37, 3) := by decide +kernel
theorem dX5_findFirstHit_43 : decode cX5_findFirstHit 43 = .ok (.aload_n 0, 1) := by decide +kernel
theorem dX5_findFirstHit_44 : decode cX5_findFirstHit 44 = .ok (.aload_n 0, 1) := by decide +kernel
theorem dX5_findFirstHit_45 : decode cX5_findFirstHit 45 = .ok (.getfield 28, 3) := by decide +kernel
theorem dX5_findFirstHit_48 : decode cX5_findFirstHit 48 = .ok (.putfield 40, 3) := by decide +kernel
theorem dX5_findFirstHit_51 : decode cX5_findFirstHit 51 = .ok (.aload_n 0, 1) := by decide +kernel
theorem dX5_findFirstHit_52 : decode cX5_findFirstHit 52 = .ok (.aload_n 0, 1) := by decide +kernel
theorem dX5_findFirstHit_53 : decode cX5_findFirstHit 53 = .ok (.getfield 34, 3) := by decide +kernel
theorem dX5_findFirstHit_56 : decode cX5_findFirstHit 56 = .ok (.putfield 43, 3) := by decide +kernel
theorem dX5_findFirstHit_59 : decode cX5_findFirstHit 59 = .ok (.iinc 1 1, 3) := by decide +kernel
theorem dX5_findFirstHit_62 : decode cX5_findFirstHit 62 = .ok (.goto (-54), 3) := by decide +kernel
theorem dX5_findFirstHit_65 : decode cX5_findFirstHit 65 = .ok (.return_, 1) := by decide +kernel
theorem dX5_hitIsBeforeFirst_0 : decode cX5_hitIsBeforeFirst 0 = .ok (.aload_n 0, 1) := by decide +kernel
theorem dX5_hitIsBeforeFirst_1 : decode cX5_hitIsBeforeFirst 1 = .ok (.getfield 37, 3) := by decide +kernel
theorem dX5_hitIsBeforeFirst_4 : decode cX5_hitIsBeforeFirst 4 = .ok (.bipush (-8), 2) := by decide +kernel
theorem dX5_hitIsBeforeFirst_6 : decode cX5_hitIsBeforeFirst 6 = .ok (.if_icmp .eq 29, 3) := by decide +kernel
theorem dX5_hitIsBeforeFirst_9 : decode cX5_hitIsBeforeFirst 9 = .ok (.aload_n 0, 1) := by decide +kernel
theorem dX5_hitIsBeforeFirst_10 : decode cX5_hitIsBeforeFirst 10 = .ok (.getfield 28, 3) := by decide +kernel
theorem dX5_hitIsBeforeFirst_13 : decode cX5_hitIsBeforeFirst 13 = .ok (.i2l, 1) := by decide +kernel
theorem dX5_hitIsBeforeFirst_14 : decode cX5_hitIsBeforeFirst 14 = .ok (.aload_n 0, 1) := by decide +kernel
theorem dX5_hitIsBeforeFirst_15 : decode cX5_hitIsBeforeFirst 15 = .ok (.getfield 43, 3) := by decide +kernel
theorem dX5_hitIsBeforeFirst_18 : decode cX5_hitIsBeforeFirst 18 = .ok (.i2l, 1) := by decide +kernel
theorem dX5_hitIsBeforeFirst_19 : decode cX5_hitIsBeforeFirst 19 = .ok (.lmul, 1) := by decide +kernel
theorem dX5_hitIsBeforeFirst_20 : decode cX5_hitIsBeforeFirst 20 = .ok (.aload_n 0, 1) := by decide +kernel
theorem dX5_hitIsBeforeFirst_21 : decode cX5_hitIsBeforeFirst 21 = .ok (.getfield 40, 3) := by decide +kernel
theorem dX5_hitIsBeforeFirst_24 : decode cX5_hitIsBeforeFirst 24 = .ok (.i2l, 1) := by decide +kernel
theorem dX5_hitIsBeforeFirst_25 : decode cX5_hitIsBeforeFirst 25 = .ok (.aload_n 0, 1) := by decide +kernel
theorem dX5_hitIsBeforeFirst_26 : decode cX5_hitIsBeforeFirst 26 = .ok (.getfield 34, 3) := by decide +kernel
theorem dX5_hitIsBeforeFirst_29 : decode cX5_hitIsBeforeFirst 29 = .ok (.i2l, 1) := by decide +kernel
theorem dX5_hitIsBeforeFirst_30 : decode cX5_hitIsBeforeFirst 30 = .ok (.lmul, 1) := by decide +kernel
theorem dX5_hitIsBeforeFirst_31 : decode cX5_hitIsBeforeFirst 31 = .ok (.lcmp, 1) := by decide +kernel
theorem dX5_hitIsBeforeFirst_32 : decode cX5_hitIsBeforeFirst 32 = .ok (.ifCond .ge 7, 3) := by decide +kernel
theorem dX5_hitIsBeforeFirst_35 : decode cX5_hitIsBeforeFirst 35 = .ok (.iconst 1, 1) := by decide +kernel
theorem dX5_hitIsBeforeFirst_36 : decode cX5_hitIsBeforeFirst 36 = .ok (.goto 4, 3) := by decide +kernel
theorem dX5_hitIsBeforeFirst_39 : decode cX5_hitIsBeforeFirst 39 = .ok (.iconst 0, 1) := by decide +kernel
theorem dX5_hitIsBeforeFirst_40 : decode cX5_hitIsBeforeFirst 40 = .ok (.ireturn, 1) := by decide +kernel
theorem dX5_firstHitWall_0 : decode cX5_firstHitWall 0 = .ok (.aload_n 0, 1) := by decide +kernel
theorem dX5_firstHitWall_1 : decode cX5_firstHitWall 1 = .ok (.getfield 37, 3) := by decide +kernel
theorem dX5_firstHitWall_4 : decode cX5_firstHitWall 4 = .ok (.ireturn, 1) := by decide +kernel
theorem dX5_firstHitTop_0 : decode cX5_firstHitTop 0 = .ok (.aload_n 0, 1) := by decide +kernel
theorem dX5_firstHitTop_1 : decode cX5_firstHitTop 1 = .ok (.getfield 40, 3) := by decide +kernel
theorem dX5_firstHitTop_4 : decode cX5_firstHitTop 4 = .ok (.ireturn, 1) := by decide +kernel
theorem dX5_firstHitBottom_0 : decode cX5_firstHitBottom 0 = .ok (.aload_n 0, 1) := by decide +kernel
theorem dX5_firstHitBottom_1 : decode cX5_firstHitBottom 1 = .ok (.getfield 43, 3) := by decide +kernel
theorem dX5_firstHitBottom_4 : decode cX5_firstHitBottom 4 = .ok (.ireturn, 1) := by decide +kernel
theorem dX5_firstHitIsWithinOne_0 : decode cX5_firstHitIsWithinOne 0 = .ok (.aload_n 0, 1) := by decide +kernel
theorem dX5_firstHitIsWithinOne_1 : decode cX5_firstHitIsWithinOne 1 = .ok (.getfield 37, 3) := by decide +kernel
theorem dX5_firstHitIsWithinOne_4 : decode cX5_firstHitIsWithinOne 4 = .ok (.bipush (-8), 2) := by decide +kernel
theorem dX5_firstHitIsWithinOne_6 : decode cX5_firstHitIsWithinOne 6 = .ok (.if_icmp .eq 18, 3) := by decide +kernel
theorem dX5_firstHitIsWithinOne_9 : decode cX5_firstHitIsWithinOne 9 = .ok (.aload_n 0, 1) := by decide +kernel
theorem dX5_firstHitIsWithinOne_10 : decode cX5_firstHitIsWithinOne 10 = .ok (.getfield 40, 3) := by decide +kernel
theorem dX5_firstHitIsWithinOne_13 : decode cX5_firstHitIsWithinOne 13 = .ok (.aload_n 0, 1) := by decide +kernel
theorem dX5_firstHitIsWithinOne_14 : decode cX5_firstHitIsWithinOne 14 = .ok (.getfield 43, 3) := by decide +kernel
theorem dX5_firstHitIsWithinOne_17 : decode cX5_firstHitIsWithinOne 17 = .ok (.if_icmp .gt 7, 3) := by decide +kernel
theorem dX5_firstHitIsWithinOne_20 : decode cX5_firstHitIsWithinOne 20 = .ok (.iconst 1, 1) := by decide +kernel
theorem dX5_firstHitIsWithinOne_21 : decode cX5_firstHitIsWithinOne 21 = .ok (.goto 4, 3) := by decide +kernel
theorem dX5_firstHitIsWithinOne_24 : decode cX5_firstHitIsWithinOne 24 = .ok (.iconst 0, 1) := by decide +kernel
theorem dX5_firstHitIsWithinOne_25 : decode cX5_firstHitIsWithinOne 25 = .ok (.ireturn, 1) := by decide +kernel
theorem dX5_isBlocked_0 : decode cX5_isBlocked 0 = .ok (.iconst 0, 1) := by decide +kernel
theorem dX5_isBlocked_1 : decode cX5_isBlocked 1 = .ok (.istore_n 1, 1) := by decide +kernel
theorem dX5_isBlocked_2 : decode cX5_isBlocked 2 = .ok (.iload_n 1, 1) := by decide +kernel
theorem dX5_isBlocked_3 : decode cX5_isBlocked 3 = .ok (.bipush 12, 2) := by decide +kernel
theorem dX5_isBlocked_5 : decode cX5_isBlocked 5 = .ok (.if_icmp .ge 39, 3) := by decide +kernel
theorem dX5_isBlocked_8 : decode cX5_isBlocked 8 = .ok (.aload_n 0, 1) := by decide +kernel
theorem dX5_isBlocked_9 : decode cX5_isBlocked 9 = .ok (.getfield 9, 3) := by decide +kernel
theorem dX5_isBlocked_12 : decode cX5_isBlocked 12 = .ok (.iload_n 1, 1) := by decide +kernel
theorem dX5_isBlocked_13 : decode cX5_isBlocked 13 = .ok (.baload, 1) := by decide +kernel
theorem dX5_isBlocked_14 : decode cX5_isBlocked 14 = .ok (.ifCond .eq 24, 3) := by decide +kernel
theorem dX5_isBlocked_17 : decode cX5_isBlocked 17 = .ok (.aload_n 0, 1) := by decide +kernel
theorem dX5_isBlocked_18 : decode cX5_isBlocked 18 = .ok (.iload_n 1, 1) := by decide +kernel
theorem dX5_isBlocked_19 : decode cX5_isBlocked 19 = .ok (.invokevirtual 75, 3) := by decide +kernel
theorem dX5_isBlocked_22 : decode cX5_isBlocked 22 = .ok (.ifCond .eq 16, 3) := by decide +kernel
theorem dX5_isBlocked_25 : decode cX5_isBlocked 25 = .ok (.aload_n 0, 1) := by decide +kernel
theorem dX5_isBlocked_26 : decode cX5_isBlocked 26 = .ok (.getfield 28, 3) := by decide +kernel
theorem dX5_isBlocked_29 : decode cX5_isBlocked 29 = .ok (.aload_n 0, 1) := by decide +kernel
theorem dX5_isBlocked_30 : decode cX5_isBlocked 30 = .ok (.getfield 34, 3) := by decide +kernel
theorem dX5_isBlocked_33 : decode cX5_isBlocked 33 = .ok (.if_icmp .gt 5, 3) := by decide +kernel
theorem dX5_isBlocked_36 : decode cX5_isBlocked 36 = .ok (.iconst 1, 1) := by decide +kernel
theorem dX5_isBlocked_37 : decode cX5_isBlocked 37 = .ok (.ireturn, 1) := by decide +kernel
theorem dX5_isBlocked_38 : decode cX5_isBlocked 38 = .ok (.iinc 1 1, 3) := by decide +kernel
theorem dX5_isBlocked_41 : decode cX5_isBlocked 41 = .ok (.goto (-39), 3) := by decide +kernel
theorem dX5_isBlocked_44 : decode cX5_isBlocked 44 = .ok (.iconst 0, 1) := by decide +kernel
theorem dX5_isBlocked_45 : decode cX5_isBlocked 45 = .ok (.ireturn, 1) := by decide +kernel
theorem dX5_countPanes_0 : decode cX5_countPanes 0 = .ok (.iconst 0, 1) := by decide +kernel
theorem dX5_countPanes_1 : decode cX5_countPanes 1 = .ok (.istore_n 1, 1) := by decide +kernel
theorem dX5_countPanes_2 : decode cX5_countPanes 2 = .ok (.iconst 0, 1) := by decide +kernel
theorem dX5_countPanes_3 : decode cX5_countPanes 3 = .ok (.istore_n 2, 1) := by decide +kernel
theorem dX5_countPanes_4 : decode cX5_countPanes 4 = .ok (.iload_n 2, 1) := by decide +kernel
theorem dX5_countPanes_5 : decode cX5_countPanes 5 = .ok (.bipush 12, 2) := by decide +kernel
theorem dX5_countPanes_7 : decode cX5_countPanes 7 = .ok (.if_icmp .ge 39, 3) := by decide +kernel
theorem dX5_countPanes_10 : decode cX5_countPanes 10 = .ok (.aload_n 0, 1) := by decide +kernel
theorem dX5_countPanes_11 : decode cX5_countPanes 11 = .ok (.getfield 46, 3) := by decide +kernel
theorem dX5_countPanes_14 : decode cX5_countPanes 14 = .ok (.iload_n 2, 1) := by decide +kernel
theorem dX5_countPanes_15 : decode cX5_countPanes 15 = .ok (.invokevirtual 82, 3) := by decide +kernel
theorem dX5_countPanes_18 : decode cX5_countPanes 18 = .ok (.iconst 1, 1) := by decide +kernel
theorem dX5_countPanes_19 : decode cX5_countPanes 19 = .ok (.if_icmp .ne 21, 3) := by decide +kernel
theorem dX5_countPanes_22 : decode cX5_countPanes 22 = .ok (.aload_n 0, 1) := by decide +kernel
theorem dX5_countPanes_23 : decode cX5_countPanes 23 = .ok (.iload_n 2, 1) := by decide +kernel
theorem dX5_countPanes_24 : decode cX5_countPanes 24 = .ok (.invokevirtual 75, 3) := by decide +kernel
theorem dX5_countPanes_27 : decode cX5_countPanes 27 = .ok (.ifCond .eq 13, 3) := by decide +kernel
theorem dX5_countPanes_30 : decode cX5_countPanes 30 = .ok (.aload_n 0, 1) := by decide +kernel
theorem dX5_countPanes_31 : decode cX5_countPanes 31 = .ok (.invokevirtual 78, 3) := by decide +kernel
theorem dX5_countPanes_34 : decode cX5_countPanes 34 = .ok (.ifCond .eq 6, 3) := by decide +kernel
theorem dX5_countPanes_37 : decode cX5_countPanes 37 = .ok (.iinc 1 1, 3) := by decide +kernel
theorem dX5_countPanes_40 : decode cX5_countPanes 40 = .ok (.iinc 2 1, 3) := by decide +kernel
theorem dX5_countPanes_43 : decode cX5_countPanes 43 = .ok (.goto (-39), 3) := by decide +kernel
theorem dX5_countPanes_46 : decode cX5_countPanes 46 = .ok (.iload_n 1, 1) := by decide +kernel
theorem dX5_countPanes_47 : decode cX5_countPanes 47 = .ok (.ireturn, 1) := by decide +kernel
theorem dX6_init_0 : decode cX6_init 0 = .ok (.aload_n 0, 1) := by decide +kernel
theorem dX6_init_1 : decode cX6_init 1 = .ok (.invokespecial 3, 3) := by decide +kernel
theorem dX6_init_4 : decode cX6_init 4 = .ok (.aload_n 0, 1) := by decide +kernel
theorem dX6_init_5 : decode cX6_init 5 = .ok (.sipush 144, 3) := by decide +kernel
theorem dX6_init_8 : decode cX6_init 8 = .ok (.newarray .int, 2) := by decide +kernel
theorem dX6_init_10 : decode cX6_init 10 = .ok (.putfield 9, 3) := by decide +kernel
theorem dX6_init_13 : decode cX6_init 13 = .ok (.aload_n 0, 1) := by decide +kernel
theorem dX6_init_14 : decode cX6_init 14 = .ok (.sipush 144, 3) := by decide +kernel
theorem dX6_init_17 : decode cX6_init 17 = .ok (.newarray .int, 2) := by decide +kernel
theorem dX6_init_19 : decode cX6_init 19 = .ok (.putfield 15, 3) := by decide +kernel
theorem dX6_init_22 : decode cX6_init 22 = .ok (.aload_n 0, 1) := by decide +kernel
theorem dX6_init_23 : decode cX6_init 23 = .ok (.sipush 144, 3) := by decide +kernel
theorem dX6_init_26 : decode cX6_init 26 = .ok (.newarray .int, 2) := by decide +kernel
theorem dX6_init_28 : decode cX6_init 28 = .ok (.putfield 18, 3) := by decide +kernel
theorem dX6_init_31 : decode cX6_init 31 = .ok (.aload_n 0, 1) := by decide +kernel
theorem dX6_init_32 : decode cX6_init 32 = .ok (.sipush 144, 3) := by decide +kernel
theorem dX6_init_35 : decode cX6_init 35 = .ok (.newarray .int, 2) := by decide +kernel
theorem dX6_init_37 : decode cX6_init 37 = .ok (.putfield 21, 3) := by decide +kernel
theorem dX6_init_40 : decode cX6_init 40 = .ok (.aload_n 0, 1) := by decide +kernel
theorem dX6_init_41 : decode cX6_init 41 = .ok (.sipush 144, 3) := by decide +kernel
theorem dX6_init_44 : decode cX6_init 44 = .ok (.newarray .int, 2) := by decide +kernel
theorem dX6_init_46 : decode cX6_init 46 = .ok (.putfield 24, 3) := by decide +kernel
theorem dX6_init_49 : decode cX6_init 49 = .ok (.aload_n 0, 1) := by decide +kernel
theorem dX6_init_50 : decode cX6_init 50 = .ok (.sipush 144, 3) := by decide +kernel
theorem dX6_init_53 : decode cX6_init 53 = .ok (.newarray .int, 2) := by decide +kernel
theorem dX6_init_55 : decode cX6_init 55 = .ok (.putfield 27, 3) := by decide +kernel
theorem dX6_init_58 : decode cX6_init 58 = .ok (.aload_n 0, 1) := by decide +kernel
theorem dX6_init_59 : decode cX6_init 59 = .ok (.sipush 144, 3) := by decide +kernel
theorem dX6_init_62 : decode cX6_init 62 = .ok (.newarray .int, 2) := by decide +kernel
theorem dX6_init_64 : decode cX6_init 64 = .ok (.putfield 30, 3) := by decide +kernel
theorem dX6_init_67 : decode cX6_init 67 = .ok (.aload_n 0, 1) := by decide +kernel
theorem dX6_init_68 : decode cX6_init 68 = .ok (.iconst (-1), 1) := by decide +kernel
theorem dX6_init_69 : decode cX6_init 69 = .ok (.putfield 33, 3) := by decide +kernel
theorem dX6_init_72 : decode cX6_init 72 = .ok (.aload_n 0, 1) := by decide +kernel
theorem dX6_init_73 : decode cX6_init 73 = .ok (.iconst 0, 1) := by decide +kernel
theorem dX6_init_74 : decode cX6_init 74 = .ok (.putfield 37, 3) := by decide +kernel
theorem dX6_init_77 : decode cX6_init 77 = .ok (.aload_n 0, 1) := by decide +kernel
theorem dX6_init_78 : decode cX6_init 78 = .ok (.iconst 1, 1) := by decide +kernel
theorem dX6_init_79 : decode cX6_init 79 = .ok (.putfield 40, 3) := by decide +kernel
theorem dX6_init_82 : decode cX6_init 82 = .ok (.aload_n 0, 1) := by decide +kernel
theorem dX6_init_83 : decode cX6_init 83 = .ok (.iconst 0, 1) := by decide +kernel
theorem dX6_init_84 : decode cX6_init 84 = .ok (.putfield 43, 3) := by decide +kernel
theorem dX6_init_87 : decode cX6_init 87 = .ok (.aload_n 0, 1) := by decide +kernel
theorem dX6_init_88 : decode cX6_init 88 = .ok (.iconst 0, 1) := by decide +kernel
theorem dX6_init_89 : decode cX6_init 89 = .ok (.putfield 46, 3) := by decide +kernel
theorem dX6_init_92 : decode cX6_init 92 = .ok (.aload_n 0, 1) := by decide +kernel
theorem dX6_init_93 : decode cX6_init 93 = .ok (.iconst 0, 1) := by decide +kernel
theorem dX6_init_94 : decode cX6_init 94 = .ok (.putfield 49, 3) := by decide +kernel
theorem dX6_init_97 : decode cX6_init 97 = .ok (.aload_n 0, 1) := by decide +kernel
theorem dX6_init_98 : decode cX6_init 98 = .ok (.iconst 0, 1) := by decide +kernel
theorem dX6_init_99 : decode cX6_init 99 = .ok (.putfield 52, 3) := by decide +kernel
theorem dX6_init_102 : decode cX6_init 102 = .ok (.aload_n 0, 1) := by decide +kernel
theorem dX6_init_103 : decode cX6_init 103 = .ok (.aload_n 1, 1) := by decide +kernel
theorem dX6_init_104 : decode cX6_init 104 = .ok (.putfield 55, 3) := by decide +kernel
theorem dX6_init_107 : decode cX6_init 107 = .ok (.aload_n 0, 1) := by decide +kernel
theorem dX6_init_108 : decode cX6_init 108 = .ok (.new 59, 3) := by decide +kernel
theorem dX6_init_111 : decode cX6_init 111 = .ok (.dup, 1) := by decide +kernel
theorem dX6_init_112 : decode cX6_init 112 = .ok (.aload_n 1, 1) := by decide +kernel
theorem dX6_init_113 : decode cX6_init 113 = .ok (.sipush 300, 3) := by decide +kernel
theorem dX6_init_116 : decode cX6_init 116 = .ok (.invokespecial 61, 3) := by decide +kernel
theorem dX6_init_119 : decode cX6_init 119 = .ok (.putfield 64, 3) := by decide +kernel
theorem dX6_init_122 : decode cX6_init 122 = .ok (.aload_n 0, 1) := by decide +kernel
theorem dX6_init_123 : decode cX6_init 123 = .ok (.new 59, 3) := by decide +kernel
theorem dX6_init_126 : decode cX6_init 126 = .ok (.dup, 1) := by decide +kernel
theorem dX6_init_127 : decode cX6_init 127 = .ok (.aload_n 1, 1) := by decide +kernel
theorem dX6_init_128 : decode cX6_init 128 = .ok (.sipush 144, 3) := by decide +kernel
theorem dX6_init_131 : decode cX6_init 131 = .ok (.invokespecial 61, 3) := by decide +kernel
theorem dX6_init_134 : decode cX6_init 134 = .ok (.putfield 68, 3) := by decide +kernel
theorem dX6_init_137 : decode cX6_init 137 = .ok (.return_, 1) := by decide +kernel
theorem dX6_make_0 : decode cX6_make 0 = .ok (.aload_n 0, 1) := by decide +kernel
theorem dX6_make_1 : decode cX6_make 1 = .ok (.iload_n 1, 1) := by decide +kernel
theorem dX6_make_2 : decode cX6_make 2 = .ok (.putfield 49, 3) := by decide +kernel
theorem dX6_make_5 : decode cX6_make 5 = .ok (.aload_n 0, 1) := by decide +kernel
theorem dX6_make_6 : decode cX6_make 6 = .ok (.iload_n 2, 1) := by decide +kernel
theorem dX6_make_7 : decode cX6_make 7 = .ok (.putfield 52, 3) := by decide +kernel
theorem dX6_make_10 : decode cX6_make 10 = .ok (.aload_n 0, 1) := by decide +kernel
theorem dX6_make_11 : decode cX6_make 11 = .ok (.iconst 0, 1) := by decide +kernel
theorem dX6_make_12 : decode cX6_make 12 = .ok (.putfield 37, 3) := by decide +kernel
theorem dX6_make_15 : decode cX6_make 15 = .ok (.aload_n 0, 1) := by decide +kernel
theorem dX6_make_16 : decode cX6_make 16 = .ok (.iconst 0, 1) := by decide +kernel
theorem dX6_make_17 : decode cX6_make 17 = .ok (.putfield 40, 3) := by decide +kernel
theorem dX6_make_20 : decode cX6_make 20 = .ok (.aload_n 0, 1) := by decide +kernel
theorem dX6_make_21 : decode cX6_make 21 = .ok (.iconst 0, 1) := by decide +kernel
theorem dX6_make_22 : decode cX6_make 22 = .ok (.putfield 43, 3) := by decide +kernel
theorem dX6_make_25 : decode cX6_make 25 = .ok (.aload_n 0, 1) := by decide +kernel
theorem dX6_make_26 : decode cX6_make 26 = .ok (.iconst 0, 1) := by decide +kernel
theorem dX6_make_27 : decode cX6_make 27 = .ok (.putfield 46, 3) := by decide +kernel
theorem dX6_make_30 : decode cX6_make 30 = .ok (.aload_n 0, 1) := by decide +kernel
theorem dX6_make_31 : decode cX6_make 31 = .ok (.getfield 68, 3) := by decide +kernel
theorem dX6_make_34 : decode cX6_make 34 = .ok (.iconst 0, 1) := by decide +kernel
theorem dX6_make_35 : decode cX6_make 35 = .ok (.invokevirtual 71, 3) := by decide +kernel
theorem dX6_make_38 : decode cX6_make 38 = .ok (.aload_n 0, 1) := by decide +kernel
theorem dX6_make_39 : decode cX6_make 39 = .ok (.getfield 64, 3) := by decide +kernel
theorem dX6_make_42 : decode cX6_make 42 = .ok (.iconst 0, 1) := by decide +kernel
theorem dX6_make_43 : decode cX6_make 43 = .ok (.invokevirtual 71, 3) := by decide +kernel
theorem dX6_make_46 : decode cX6_make 46 = .ok (.aload_n 0, 1) := by decide +kernel
theorem dX6_make_47 : decode cX6_make 47 = .ok (.getfield 64, 3) := by decide +kernel
theorem dX6_make_50 : decode cX6_make 50 = .ok (.iconst 0, 1) := by decide +kernel
theorem dX6_make_51 : decode cX6_make 51 = .ok (.invokevirtual 75, 3) := by decide +kernel
theorem dX6_make_54 : decode cX6_make 54 = .ok (.iload_n 3, 1) := by decide +kernel
theorem dX6_make_55 : decode cX6_make 55 = .ok (.ifCond .eq 11, 3) := by decide +kernel
theorem dX6_make_58 : decode cX6_make 58 = .ok (.aload_n 0, 1) := by decide +kernel
theorem dX6_make_59 : decode cX6_make 59 = .ok (.getfield 64, 3) := by decide +kernel
theorem dX6_make_62 : decode cX6_make 62 = .ok (.iconst 1, 1) := by decide +kernel
theorem dX6_make_63 : decode cX6_make 63 = .ok (.invokevirtual 75, 3) := by decide +kernel
theorem dX6_make_66 : decode cX6_make 66 = .ok (.aload_n 0, 1) := by decide +kernel
theorem dX6_make_67 : decode cX6_make 67 = .ok (.aload_n 0, 1) := by decide +kernel
theorem dX6_make_68 : decode cX6_make 68 = .ok (.iconst 0, 1) := by decide +kernel
theorem dX6_make_69 : decode cX6_make 69 = .ok (.aload_n 0, 1) := by decide +kernel
theorem dX6_make_70 : decode cX6_make 70 = .ok (.getfield 64, 3) := by decide +kernel
theorem dX6_make_73 : decode cX6_make 73 = .ok (.invokevirtual 79, 3) := by decide +kernel
theorem dX6_make_76 : decode cX6_make 76 = .ok (.iconst 0, 1) := by decide +kernel
theorem dX6_make_77 : decode cX6_make 77 = .ok (.invokevirtual 83, 3) := by decide +kernel
theorem dX6_make_80 : decode cX6_make 80 = .ok (.putfield 33, 3) := by decide +kernel
theorem dX6_make_83 : decode cX6_make 83 = .ok (.return_, 1) := by decide +kernel
theorem dX6_makeSubtree_0 : decode cX6_makeSubtree 0 = .ok (.iload_n 1, 1) := by decide +kernel
theorem dX6_makeSubtree_1 : decode cX6_makeSubtree 1 = .ok (.iload_n 2, 1) := by decide +kernel
theorem dX6_makeSubtree_2 : decode cX6_makeSubtree 2 = .ok (.if_icmp .ge 19, 3) := by decide +kernel
theorem dX6_makeSubtree_5 : decode cX6_makeSubtree 5 = .ok (.iload_n 3, 1) := by decide +kernel
theorem dX6_makeSubtree_6 : decode cX6_makeSubtree 6 = .ok (.bipush 12, 2) := by decide +kernel
theorem dX6_makeSubtree_8 : decode cX6_makeSubtree 8 = .ok (.if_icmp .ge 13, 3) := by decide +kernel
theorem dX6_makeSubtree_11 : decode cX6_makeSubtree 11 = .ok (.aload_n 0, 1) := by decide +kernel
theorem dX6_makeSubtree_12 : decode cX6_makeSubtree 12 = .ok (.getfield 37, 3) := by decide +kernel
theorem dX6_makeSubtree_15 : decode cX6_makeSubtree 15 = .ok (.sipush 144, 3) := by decide +kernel
theorem dX6_makeSubtree_18 : decode cX6_makeSubtree 18 = .ok (.if_icmp .lt 9, 3) := by decide +kernel
theorem dX6_makeSubtree_21 : decode cX6_makeSubtree 21 = .ok (.aload_n 0, 1) := by decide +kernel
theorem dX6_makeSubtree_22 : decode cX6_makeSubtree 22 = .ok (.iload_n 3, 1) := by decide +kernel
theorem dX6_makeSubtree_23 : decode cX6_makeSubtree 23 = .ok (.invokevirtual 87, 3) := by decide +kernel
theorem dX6_makeSubtree_26 : decode cX6_makeSubtree 26 = .ok (.ireturn, 1) := by decide +kernel
theorem dX6_makeSubtree_27 : decode cX6_makeSubtree 27 = .ok (.aload_n 0, 1) := by decide +kernel
theorem dX6_makeSubtree_28 : decode cX6_makeSubtree 28 = .ok (.iload_n 1, 1) := by decide +kernel
theorem dX6_makeSubtree_29 : decode cX6_makeSubtree 29 = .ok (.iload_n 2, 1) := by decide +kernel
theorem dX6_makeSubtree_30 : decode cX6_makeSubtree 30 = .ok (.invokevirtual 91, 3) := by decide +kernel
theorem dX6_makeSubtree_33 : decode cX6_makeSubtree 33 = .ok (.istore 4, 2) := by decide +kernel
theorem dX6_makeSubtree_35 : decode cX6_makeSubtree 35 = .ok (.aload_n 0, 1) := by decide +kernel
theorem dX6_makeSubtree_36 : decode cX6_makeSubtree 36 = .ok (.iload 4, 2) := by decide +kernel
theorem dX6_makeSubtree_38 : decode cX6_makeSubtree 38 = .ok (.iload_n 1, 1) := by decide +kernel
theorem dX6_makeSubtree_39 : decode cX6_makeSubtree 39 = .ok (.iload_n 2, 1) := by decide +kernel
theorem dX6_makeSubtree_40 : decode cX6_makeSubtree 40 = .ok (.iload_n 3, 1) := by decide +kernel
theorem dX6_makeSubtree_41 : decode cX6_makeSubtree 41 = .ok (.invokevirtual 95, 3) := by decide +kernel
theorem dX6_makeSubtree_44 : decode cX6_makeSubtree 44 = .ok (.istore 5, 2) := by decide +kernel
theorem dX6_makeSubtree_46 : decode cX6_makeSubtree 46 = .ok (.aload_n 0, 1) := by decide +kernel
theorem dX6_makeSubtree_47 : decode cX6_makeSubtree 47 = .ok (.iload 5, 2) := by decide +kernel
theorem dX6_makeSubtree_49 : decode cX6_makeSubtree 49 = .ok (.iload_n 1, 1) := by decide +kernel
theorem dX6_makeSubtree_50 : decode cX6_makeSubtree 50 = .ok (.iload_n 2, 1) := by decide +kernel
theorem dX6_makeSubtree_51 : decode cX6_makeSubtree 51 = .ok (.iload_n 3, 1) := by decide +kernel
theorem dX6_makeSubtree_52 : decode cX6_makeSubtree 52 = .ok (.invokevirtual 99, 3) := by decide +kernel
theorem dX6_makeSubtree_55 : decode cX6_makeSubtree 55 = .ok (.iload 5, 2) := by decide +kernel
theorem dX6_makeSubtree_57 : decode cX6_makeSubtree 57 = .ok (.ireturn, 1) := by decide +kernel
theorem dX6_makeBranches_0 : decode cX6_makeBranches 0 = .ok (.aload_n 0, 1) := by decide +kernel
theorem dX6_makeBranches_1 : decode cX6_makeBranches 1 = .ok (.iload_n 1, 1) := by decide +kernel
theorem dX6_makeBranches_2 : decode cX6_makeBranches 2 = .ok (.invokevirtual 103, 3) := by decide +kernel
theorem dX6_makeBranches_5 : decode cX6_makeBranches 5 = .ok (.ifCond .ne 4, 3) := by decide +kernel
theorem dX6_makeBranches_8 : decode cX6_makeBranches 8 = .ok (.return_, 1) := by decide +kernel
theorem dX6_makeBranches_9 : decode cX6_makeBranches 9 = .ok (.aload_n 0, 1) := by decide +kernel
theorem dX6_makeBranches_10 : decode cX6_makeBranches 10 = .ok (.getfield 15, 3) := by decide +kernel
theorem dX6_makeBranches_13 : decode cX6_makeBranches 13 = .ok (.iload_n 1, 1) := by decide +kernel
theorem dX6_makeBranches_14 : decode cX6_makeBranches 14 = .ok (.iaload, 1) := by decide +kernel
theorem dX6_makeBranches_15 : decode cX6_makeBranches 15 = .ok (.istore 5, 2) := by decide +kernel
theorem dX6_makeBranches_17 : decode cX6_makeBranches 17 = .ok (.aload_n 0, 1) := by decide +kernel
theorem dX6_makeBranches_18 : decode cX6_makeBranches 18 = .ok (.getfield 64, 3) := by decide +kernel
theorem dX6_makeBranches_21 : decode cX6_makeBranches 21 = .ok (.invokevirtual 79, 3) := by decide +kernel
theorem dX6_makeBranches_24 : decode cX6_makeBranches 24 = .ok (.istore 6, 2) := by decide +kernel
theorem dX6_makeBranches_26 : decode cX6_makeBranches 26 = .ok (.aload_n 0, 1) := by decide +kernel
theorem dX6_makeBranches_27 : decode cX6_makeBranches 27 = .ok (.getfield 64, 3) := by decide +kernel
theorem dX6_makeBranches_30 : decode cX6_makeBranches 30 = .ok (.aload_n 0, 1) := by decide +kernel
theorem dX6_makeBranches_31 : decode cX6_makeBranches 31 = .ok (.getfield 64, 3) := by decide +kernel
theorem dX6_makeBranches_34 : decode cX6_makeBranches 34 = .ok (.iload_n 2, 1) := by decide +kernel
theorem dX6_makeBranches_35 : decode cX6_makeBranches 35 = .ok (.iload_n 3, 1) := by decide +kernel
theorem dX6_makeBranches_36 : decode cX6_makeBranches 36 = .ok (.iload 5, 2) := by decide +kernel
theorem dX6_makeBranches_38 : decode cX6_makeBranches 38 = .ok (.iconst 1, 1) := by decide +kernel
theorem dX6_makeBranches_39 : decode cX6_makeBranches 39 = .ok (.invokevirtual 107, 3) := by decide +kernel
theorem dX6_makeBranches_42 : decode cX6_makeBranches 42 = .ok (.aload_n 0, 1) := by decide +kernel
theorem dX6_makeBranches_43 : decode cX6_makeBranches 43 = .ok (.getfield 64, 3) := by decide +kernel
theorem dX6_makeBranches_46 : decode cX6_makeBranches 46 = .ok (.invokevirtual 79, 3) := by decide +kernel
theorem dX6_makeBranches_49 : decode cX6_makeBranches 49 = .ok (.istore 7, 2) := by decide +kernel
theorem dX6_makeBranches_51 : decode cX6_makeBranches 51 = .ok (.aload_n 0, 1) := by decide +kernel
theorem dX6_makeBranches_52 : decode cX6_makeBranches 52 = .ok (.getfield 64, 3) := by decide +kernel
theorem dX6_makeBranches_55 : decode cX6_makeBranches 55 = .ok (.aload_n 0, 1) := by decide +kernel
theorem dX6_makeBranches_56 : decode cX6_makeBranches 56 = .ok (.getfield 64, 3) := by decide +kernel
theorem dX6_makeBranches_59 : decode cX6_makeBranches 59 = .ok (.iload_n 2, 1) := by decide +kernel
theorem dX6_makeBranches_60 : decode cX6_makeBranches 60 = .ok (.iload_n 3, 1) := by decide +kernel
theorem dX6_makeBranches_61 : decode cX6_makeBranches 61 = .ok (.iload 5, 2) := by decide +kernel
theorem dX6_makeBranches_63 : decode cX6_makeBranches 63 = .ok (.iconst 2, 1) := by decide +kernel
theorem dX6_makeBranches_64 : decode cX6_makeBranches 64 = .ok (.invokevirtual 107, 3) := by decide +kernel
theorem dX6_makeBranches_67 : decode cX6_makeBranches 67 = .ok (.aload_n 0, 1) := by decide +kernel
theorem dX6_makeBranches_68 : decode cX6_makeBranches 68 = .ok (.getfield 64, 3) := by decide +kernel
theorem dX6_makeBranches_71 : decode cX6_makeBranches 71 = .ok (.invokevirtual 79, 3) := by decide +kernel
theorem dX6_makeBranches_74 : decode cX6_makeBranches 74 = .ok (.istore 8, 2) := by decide +kernel
theorem dX6_makeBranches_76 : decode cX6_makeBranches 76 = .ok (.aload_n 0, 1) := by decide +kernel
theorem dX6_makeBranches_77 : decode cX6_makeBranches 77 = .ok (.getfield 18, 3) := by decide +kernel
theorem dX6_makeBranches_80 : decode cX6_makeBranches 80 = .ok (.iload_n 1, 1) := by decide +kernel
theorem dX6_makeBranches_81 : decode cX6_makeBranches 81 = .ok (.aload_n 0, 1) := by decide +kernel
theorem dX6_makeBranches_82 : decode cX6_makeBranches 82 = .ok (.iload 6, 2) := by decide +kernel
theorem dX6_makeBranches_84 : decode cX6_makeBranches 84 = .ok (.iload 7, 2) := by decide +kernel
theorem dX6_makeBranches_86 : decode cX6_makeBranches 86 = .ok (.iload 4, 2) := by decide +kernel
theorem dX6_makeBranches_88 : decode cX6_makeBranches 88 = .ok (.iconst 1, 1) := by decide +kernel
theorem dX6_makeBranches_89 : decode cX6_makeBranches 89 = .ok (.iadd, 1) := by decide +kernel
theorem dX6_makeBranches_90 : decode cX6_makeBranches 90 = .ok (.invokevirtual 83, 3) := by decide +kernel
theorem dX6_makeBranches_93 : decode cX6_makeBranches 93 = .ok (.iastore, 1) := by decide +kernel
theorem dX6_makeBranches_94 : decode cX6_makeBranches 94 = .ok (.aload_n 0, 1) := by decide +kernel
theorem dX6_makeBranches_95 : decode cX6_makeBranches 95 = .ok (.getfield 21, 3) := by decide +kernel
theorem dX6_makeBranches_98 : decode cX6_makeBranches 98 = .ok (.iload_n 1, 1) := by decide +kernel
theorem dX6_makeBranches_99 : decode cX6_makeBranches 99 = .ok (.aload_n 0, 1) := by decide +kernel
theorem dX6_makeBranches_100 : decode cX6_makeBranches 100 = .ok (.iload 7, 2) := by decide +kernel
theorem dX6_makeBranches_102 : decode cX6_makeBranches 102 = .ok (.iload 8, 2) := by decide +kernel
theorem dX6_makeBranches_104 : decode cX6_makeBranches 104 = .ok (.iload 4, 2) := by decide +kernel
theorem dX6_makeBranches_106 : decode cX6_makeBranches 106 = .ok (.iconst 1, 1) := by decide +kernel
theorem dX6_makeBranches_107 : decode cX6_makeBranches 107 = .ok (.iadd, 1) := by decide +kernel
theorem dX6_makeBranches_108 : decode cX6_makeBranches 108 = .ok (.invokevirtual 83, 3) := by decide +kernel
theorem dX6_makeBranches_111 : decode cX6_makeBranches 111 = .ok (.iastore, 1) := by decide +kernel
theorem dX6_makeBranches_112 : decode cX6_makeBranches 112 = .ok (.aload_n 0, 1) := by decide +kernel
theorem dX6_makeBranches_113 : decode cX6_makeBranches 113 = .ok (.getfield 64, 3) := by decide +kernel
theorem dX6_makeBranches_116 : decode cX6_makeBranches 116 = .ok (.iload 6, 2) := by decide +kernel
theorem dX6_makeBranches_118 : decode cX6_makeBranches 118 = .ok (.invokevirtual 71, 3) := by decide +kernel
theorem dX6_makeBranches_121 : decode cX6_makeBranches 121 = .ok (.return_, 1) := by decide +kernel
theorem dX6_makeLeaf_0 : decode cX6_makeLeaf 0 = .ok (.aload_n 0, 1) := by decide +kernel
theorem dX6_makeLeaf_1 : decode cX6_makeLeaf 1 = .ok (.dup, 1) := by decide +kernel
theorem dX6_makeLeaf_2 : decode cX6_makeLeaf 2 = .ok (.getfield 43, 3) := by decide +kernel
theorem dX6_makeLeaf_5 : decode cX6_makeLeaf 5 = .ok (.iload_n 1, 1) := by decide +kernel
theorem dX6_makeLeaf_6 : decode cX6_makeLeaf 6 = .ok (.iadd, 1) := by decide +kernel
theorem dX6_makeLeaf_7 : decode cX6_makeLeaf 7 = .ok (.putfield 43, 3) := by decide +kernel
theorem dX6_makeLeaf_10 : decode cX6_makeLeaf 10 = .ok (.aload_n 0, 1) := by decide +kernel
theorem dX6_makeLeaf_11 : decode cX6_makeLeaf 11 = .ok (.aload_n 0, 1) := by decide +kernel
theorem dX6_makeLeaf_12 : decode cX6_makeLeaf 12 = .ok (.getfield 46, 3) := by decide +kernel
theorem dX6_makeLeaf_15 : decode cX6_makeLeaf 15 = .ok (.iload_n 1, 1) := by decide +kernel
theorem dX6_makeLeaf_16 : decode cX6_makeLeaf 16 = .ok (.invokestatic 111, 3) := by decide +kernel
theorem dX6_makeLeaf_19 : decode cX6_makeLeaf 19 = .ok (.putfield 46, 3) := by decide +kernel
theorem dX6_makeLeaf_22 : decode cX6_makeLeaf 22 = .ok (.aload_n 0, 1) := by decide +kernel
theorem dX6_makeLeaf_23 : decode cX6_makeLeaf 23 = .ok (.dup, 1) := by decide +kernel
theorem dX6_makeLeaf_24 : decode cX6_makeLeaf 24 = .ok (.getfield 40, 3) := by decide +kernel
theorem dX6_makeLeaf_27 : decode cX6_makeLeaf 27 = .ok (.iconst 1, 1) := by decide +kernel
theorem dX6_makeLeaf_28 : decode cX6_makeLeaf 28 = .ok (.iadd, 1) := by decide +kernel
theorem dX6_makeLeaf_29 : decode cX6_makeLeaf 29 = .ok (.putfield 40, 3) := by decide +kernel
theorem dX6_makeLeaf_32 : decode cX6_makeLeaf 32 = .ok (.aload_n 0, 1) := by decide +kernel
theorem dX6_makeLeaf_33 : decode cX6_makeLeaf 33 = .ok (.getfield 40, 3) := by decide +kernel
theorem dX6_makeLeaf_36 : decode cX6_makeLeaf 36 = .ok (.ineg, 1) := by decide +kernel
theorem dX6_makeLeaf_37 : decode cX6_makeLeaf 37 = .ok (.ireturn, 1) := by decide +kernel
theorem dX6_makeNode_0 : decode cX6_makeNode 0 = .ok (.aload_n 0, 1) := by decide +kernel
theorem dX6_makeNode_1 : decode cX6_makeNode 1 = .ok (.getfield 37, 3) := by decide +kernel
theorem dX6_makeNode_4 : decode cX6_makeNode 4 = .ok (.istore 5, 2) := by decide +kernel
theorem dX6_makeNode_6 : decode cX6_makeNode 6 = .ok (.iload 5, 2) := by decide +kernel
theorem dX6_makeNode_8 : decode cX6_makeNode 8 = .ok (.ifCond .lt 11, 3) := by decide +kernel
theorem dX6_makeNode_11 : decode cX6_makeNode 11 = .ok (.iload 5, 2) := by decide +kernel
theorem dX6_makeNode_13 : decode cX6_makeNode 13 = .ok (.sipush 144, 3) := by decide +kernel
theorem dX6_makeNode_16 : decode cX6_makeNode 16 = .ok (.if_icmp .lt 5, 3) := by decide +kernel
theorem dX6_makeNode_19 : decode cX6_makeNode 19 = .ok (.iconst (-1), 1) := by decide +kernel
theorem dX6_makeNode_20 : decode cX6_makeNode 20 = .ok (.ireturn, 1) := by decide +kernel
theorem dX6_makeNode_21 : decode cX6_makeNode 21 = .ok (.aload_n 0, 1) := by decide +kernel
theorem dX6_makeNode_22 : decode cX6_makeNode 22 = .ok (.dup, 1) := by decide +kernel
theorem dX6_makeNode_23 : decode cX6_makeNode 23 = .ok (.getfield 37, 3) := by decide +kernel
theorem dX6_makeNode_26 : decode cX6_makeNode 26 = .ok (.iconst 1, 1) := by decide +kernel
theorem dX6_makeNode_27 : decode cX6_makeNode 27 = .ok (.iadd, 1) := by decide +kernel
theorem dX6_makeNode_28 : decode cX6_makeNode 28 = .ok (.putfield 37, 3) := by decide +kernel
theorem dX6_makeNode_31 : decode cX6_makeNode 31 = .ok (.aload_n 0, 1) := by decide +kernel
theorem dX6_makeNode_32 : decode cX6_makeNode 32 = .ok (.getfield 68, 3) := by decide +kernel
theorem dX6_makeNode_35 : decode cX6_makeNode 35 = .ok (.invokevirtual 79, 3) := by decide +kernel
theorem dX6_makeNode_38 : decode cX6_makeNode 38 = .ok (.istore 6, 2) := by decide +kernel
theorem dX6_makeNode_40 : decode cX6_makeNode 40 = .ok (.aload_n 0, 1) := by decide +kernel
theorem dX6_makeNode_41 : decode cX6_makeNode 41 = .ok (.getfield 68, 3) := by decide +kernel
theorem dX6_makeNode_44 : decode cX6_makeNode 44 = .ok (.aload_n 0, 1) := by decide +kernel
theorem dX6_makeNode_45 : decode cX6_makeNode 45 = .ok (.getfield 64, 3) := by decide +kernel
theorem dX6_makeNode_48 : decode cX6_makeNode 48 = .ok (.iload_n 2, 1) := by decide +kernel
theorem dX6_makeNode_49 : decode cX6_makeNode 49 = .ok (.iload_n 3, 1) := by decide +kernel
theorem dX6_makeNode_50 : decode cX6_makeNode 50 = .ok (.iload_n 1, 1) := by decide +kernel
theorem dX6_makeNode_51 : decode cX6_makeNode 51 = .ok (.iconst 0, 1) := by decide +kernel
theorem dX6_makeNode_52 : decode cX6_makeNode 52 = .ok (.invokevirtual 107, 3) := by decide +kernel
theorem dX6_makeNode_55 : decode cX6_makeNode 55 = .ok (.iload 6, 2) := by decide +kernel
theorem dX6_makeNode_57 : decode cX6_makeNode 57 = .ok (.istore 7, 2) := by decide +kernel
theorem dX6_makeNode_59 : decode cX6_makeNode 59 = .ok (.iload 7, 2) := by decide +kernel
theorem dX6_makeNode_61 : decode cX6_makeNode 61 = .ok (.aload_n 0, 1) := by decide +kernel
theorem dX6_makeNode_62 : decode cX6_makeNode 62 = .ok (.getfield 68, 3) := by decide +kernel
theorem dX6_makeNode_65 : decode cX6_makeNode 65 = .ok (.invokevirtual 79, 3) := by decide +kernel
theorem dX6_makeNode_68 : decode cX6_makeNode 68 = .ok (.if_icmp .ge 26, 3) := by decide +kernel
theorem dX6_makeNode_71 : decode cX6_makeNode 71 = .ok (.iload 7, 2) := by decide +kernel
theorem dX6_makeNode_73 : decode cX6_makeNode 73 = .ok (.sipush 144, 3) := by decide +kernel
theorem dX6_makeNode_76 : decode cX6_makeNode 76 = .ok (.if_icmp .ge 18, 3) := by decide +kernel
theorem dX6_makeNode_79 : decode cX6_makeNode 79 = .ok (.aload_n 0, 1) := by decide +kernel
theorem dX6_makeNode_80 : decode cX6_makeNode 80 = .ok (.getfield 9, 3) := by decide +kernel
theorem dX6_makeNode_83 : decode cX6_makeNode 83 = .ok (.iload 7, 2) := by decide +kernel
theorem dX6_makeNode_85 : decode cX6_makeNode 85 = .ok (.iload 5, 2) := by decide +kernel
theorem dX6_makeNode_87 : decode cX6_makeNode 87 = .ok (.iastore, 1) := by decide +kernel
theorem dX6_makeNode_88 : decode cX6_makeNode 88 = .ok (.iinc 7 1, 3) := by decide +kernel
theorem dX6_makeNode_91 : decode cX6_makeNode 91 = .ok (.goto (-32), 3) := by decide +kernel
theorem dX6_makeNode_94 : decode cX6_makeNode 94 = .ok (.aload_n 0, 1) := by decide +kernel
theorem dX6_makeNode_95 : decode cX6_makeNode 95 = .ok (.getfield 15, 3) := by decide +kernel
theorem dX6_makeNode_98 : decode cX6_makeNode 98 = .ok (.iload 5, 2) := by decide +kernel
theorem dX6_makeNode_100 : decode cX6_makeNode 100 = .ok (.iload_n 1, 1) := by decide +kernel
theorem dX6_makeNode_101 : decode cX6_makeNode 101 = .ok (.iastore, 1) := by decide +kernel
theorem dX6_makeNode_102 : decode cX6_makeNode 102 = .ok (.aload_n 0, 1) := by decide +kernel
theorem dX6_makeNode_103 : decode cX6_makeNode 103 = .ok (.getfield 24, 3) := by decide +kernel
theorem dX6_makeNode_106 : decode cX6_makeNode 106 = .ok (.iload 5, 2) := by decide +kernel
theorem dX6_makeNode_108 : decode cX6_makeNode 108 = .ok (.iload 4, 2) := by decide +kernel
theorem dX6_makeNode_110 : decode cX6_makeNode 110 = .ok (.iastore, 1) := by decide +kernel
theorem dX6_makeNode_111 : decode cX6_makeNode 111 = .ok (.aload_n 0, 1) := by decide +kernel
theorem dX6_makeNode_112 : decode cX6_makeNode 112 = .ok (.getfield 27, 3) := by decide +kernel
theorem dX6_makeNode_115 : decode cX6_makeNode 115 = .ok (.iload 5, 2) := by decide +kernel
theorem dX6_makeNode_117 : decode cX6_makeNode 117 = .ok (.iload 6, 2) := by decide +kernel
theorem dX6_makeNode_119 : decode cX6_makeNode 119 = .ok (.iastore, 1) := by decide +kernel
theorem dX6_makeNode_120 : decode cX6_makeNode 120 = .ok (.aload_n 0, 1) := by decide +kernel
theorem dX6_makeNode_121 : decode cX6_makeNode 121 = .ok (.getfield 30, 3) := by decide +kernel
theorem dX6_makeNode_124 : decode cX6_makeNode 124 = .ok (.iload 5, 2) := by decide +kernel
theorem dX6_makeNode_126 : decode cX6_makeNode 126 = .ok (.aload_n 0, 1) := by decide +kernel
theorem dX6_makeNode_127 : decode cX6_makeNode 127 = .ok (.getfield 68, 3) := by decide +kernel
theorem dX6_makeNode_130 : decode cX6_makeNode 130 = .ok (.invokevirtual 79, 3) := by decide +kernel
theorem dX6_makeNode_133 : decode cX6_makeNode 133 = .ok (.iload 6, 2) := by decide +kernel
theorem dX6_makeNode_135 : decode cX6_makeNode 135 = .ok (.isub, 1) := by decide +kernel
theorem dX6_makeNode_136 : decode cX6_makeNode 136 = .ok (.iastore, 1) := by decide +kernel
theorem dX6_makeNode_137 : decode cX6_makeNode 137 = .ok (.iload 5, 2) := by decide +kernel
theorem dX6_makeNode_139 : decode cX6_makeNode 139 = .ok (.ireturn, 1) := by decide +kernel
theorem dX6_splittingWall_0 : decode cX6_splittingWall 0 = .ok (.aload_n 0, 1) := by decide +kernel
theorem dX6_splittingWall_1 : decode cX6_splittingWall 1 = .ok (.getfield 64, 3) := by decide +kernel
theorem dX6_splittingWall_4 : decode cX6_splittingWall 4 = .ok (.iload_n 1, 1) := by decide +kernel
theorem dX6_splittingWall_5 : decode cX6_splittingWall 5 = .ok (.invokevirtual 116, 3) := by decide +kernel
theorem dX6_splittingWall_8 : decode cX6_splittingWall 8 = .ok (.istore_n 3, 1) := by decide +kernel
theorem dX6_splittingWall_9 : decode cX6_splittingWall 9 = .ok (.iconst (-1), 1) := by decide +kernel
theorem dX6_splittingWall_10 : decode cX6_splittingWall 10 = .ok (.istore 4, 2) := by decide +kernel
theorem dX6_splittingWall_12 : decode cX6_splittingWall 12 = .ok (.aload_n 0, 1) := by decide +kernel
theorem dX6_splittingWall_13 : decode cX6_splittingWall 13 = .ok (.iload_n 1, 1) := by decide +kernel
theorem dX6_splittingWall_14 : decode cX6_splittingWall 14 = .ok (.iload_n 2, 1) := by decide +kernel
theorem dX6_splittingWall_15 : decode cX6_splittingWall 15 = .ok (.invokevirtual 119, 3) := by decide +kernel
theorem dX6_splittingWall_18 : decode cX6_splittingWall 18 = .ok (.istore 5, 2) := by decide +kernel
theorem dX6_splittingWall_20 : decode cX6_splittingWall 20 = .ok (.iload_n 1, 1) := by decide +kernel
theorem dX6_splittingWall_21 : decode cX6_splittingWall 21 = .ok (.istore 6, 2) := by decide +kernel
theorem dX6_splittingWall_23 : decode cX6_splittingWall 23 = .ok (.iload 6, 2) := by decide +kernel
theorem dX6_splittingWall_25 : decode cX6_splittingWall 25 = .ok (.iload 5, 2) := by decide +kernel
theorem dX6_splittingWall_27 : decode cX6_splittingWall 27 = .ok (.if_icmp .ge 50, 3) := by decide +kernel
theorem dX6_splittingWall_30 : decode cX6_splittingWall 30 = .ok (.aload_n 0, 1) := by decide +kernel
theorem dX6_splittingWall_31 : decode cX6_splittingWall 31 = .ok (.getfield 64, 3) := by decide +kernel
theorem dX6_splittingWall_34 : decode cX6_splittingWall 34 = .ok (.iload 6, 2) := by decide +kernel
theorem dX6_splittingWall_36 : decode cX6_splittingWall 36 = .ok (.invokevirtual 116, 3) := by decide +kernel
theorem dX6_splittingWall_39 : decode cX6_splittingWall 39 = .ok (.istore 7, 2) := by decide +kernel
theorem dX6_splittingWall_41 : decode cX6_splittingWall 41 = .ok (.aload_n 0, 1) := by decide +kernel
theorem dX6_splittingWall_42 : decode cX6_splittingWall 42 = .ok (.iload 7, 2) := by decide +kernel
theorem dX6_splittingWall_44 : decode cX6_splittingWall 44 = .ok (.iload_n 1, 1) := by decide +kernel
theorem dX6_splittingWall_45 : decode cX6_splittingWall 45 = .ok (.iload 5, 2) := by decide +kernel
theorem dX6_splittingWall_47 : decode cX6_splittingWall 47 = .ok (.invokevirtual 122, 3) := by decide +kernel
theorem dX6_splittingWall_50 : decode cX6_splittingWall 50 = .ok (.istore 8, 2) := by decide +kernel
theorem dX6_splittingWall_52 : decode cX6_splittingWall 52 = .ok (.iload 4, 2) := by decide +kernel
theorem dX6_splittingWall_54 : decode cX6_splittingWall 54 = .ok (.ifCond .lt 10, 3) := by decide +kernel
theorem dX6_splittingWall_57 : decode cX6_splittingWall 57 = .ok (.iload 8, 2) := by decide +kernel
theorem dX6_splittingWall_59 : decode cX6_splittingWall 59 = .ok (.iload 4, 2) := by decide +kernel
theorem dX6_splittingWall_61 : decode cX6_splittingWall 61 = .ok (.if_icmp .ge 10, 3) := by decide +kernel
theorem dX6_splittingWall_64 : decode cX6_splittingWall 64 = .ok (.iload 7, 2) := by decide +kernel
theorem dX6_splittingWall_66 : decode cX6_splittingWall 66 = .ok (.istore_n 3, 1) := by decide +kernel
theorem dX6_splittingWall_67 : decode cX6_splittingWall 67 = .ok (.iload 8, 2) := by decide +kernel
theorem dX6_splittingWall_69 : decode cX6_splittingWall 69 = .ok (.istore 4, 2) := by decide +kernel
theorem dX6_splittingWall_71 : decode cX6_splittingWall 71 = .ok (.iinc 6 1, 3) := by decide +kernel
theorem dX6_splittingWall_74 : decode cX6_splittingWall 74 = .ok (.goto (-51), 3) := by decide +kernel
theorem dX6_splittingWall_77 : decode cX6_splittingWall 77 = .ok (.iload_n 3, 1) := by decide +kernel
theorem dX6_splittingWall_78 : decode cX6_splittingWall 78 = .ok (.ireturn, 1) := by decide +kernel
theorem dX6_endOfFixed_0 : decode cX6_endOfFixed 0 = .ok (.iload_n 1, 1) := by decide +kernel
theorem dX6_endOfFixed_1 : decode cX6_endOfFixed 1 = .ok (.istore_n 3, 1) := by decide +kernel
theorem dX6_endOfFixed_2 : decode cX6_endOfFixed 2 = .ok (.iload_n 3, 1) := by decide +kernel
theorem dX6_endOfFixed_3 : decode cX6_endOfFixed 3 = .ok (.iload_n 2, 1) := by decide +kernel
theorem dX6_endOfFixed_4 : decode cX6_endOfFixed 4 = .ok (.if_icmp .ge 27, 3) := by decide +kernel
theorem dX6_endOfFixed_7 : decode cX6_endOfFixed 7 = .ok (.aload_n 0, 1) := by decide +kernel
theorem dX6_endOfFixed_8 : decode cX6_endOfFixed 8 = .ok (.getfield 55, 3) := by decide +kernel
theorem dX6_endOfFixed_11 : decode cX6_endOfFixed 11 = .ok (.aload_n 0, 1) := by decide +kernel
theorem dX6_endOfFixed_12 : decode cX6_endOfFixed 12 = .ok (.getfield 64, 3) := by decide +kernel
theorem dX6_endOfFixed_15 : decode cX6_endOfFixed 15 = .ok (.iload_n 3, 1) := by decide +kernel
theorem dX6_endOfFixed_16 : decode cX6_endOfFixed 16 = .ok (.invokevirtual 116, 3) := by decide +kernel
theorem dX6_endOfFixed_19 : decode cX6_endOfFixed 19 = .ok (.invokevirtual 125, 3) := by decide +kernel
theorem dX6_endOfFixed_22 : decode cX6_endOfFixed 22 = .ok (.ifCond .eq 9, 3) := by decide +kernel
theorem dX6_endOfFixed_25 : decode cX6_endOfFixed 25 = .ok (.iinc 3 1, 3) := by decide +kernel
theorem dX6_endOfFixed_28 : decode cX6_endOfFixed 28 = .ok (.goto (-26), 3) := by decide +kernel
theorem dX6_endOfFixed_31 : decode cX6_endOfFixed 31 = .ok (.iload_n 3, 1) := by decide +kernel
theorem dX6_endOfFixed_32 : decode cX6_endOfFixed 32 = .ok (.ireturn, 1) := by decide +kernel
theorem dX6_priceOf_0 : decode cX6_priceOf 0 = .ok (.iconst 0, 1) := by decide +kernel
theorem dX6_priceOf_1 : decode cX6_priceOf 1 = .ok (.istore 4, 2) := by decide +kernel
theorem dX6_priceOf_3 : decode cX6_priceOf 3 = .ok (.iconst 0, 1) := by decide +kernel
theorem dX6_priceOf_4 : decode cX6_priceOf 4 = .ok (.istore 5, 2) := by decide +kernel
theorem dX6_priceOf_6 : decode cX6_priceOf 6 = .ok (.iload_n 2, 1) := by decide +kernel
theorem dX6_priceOf_7 : decode cX6_priceOf 7 = .ok (.istore 6, 2) := by decide +kernel
theorem dX6_priceOf_9 : decode cX6_priceOf 9 = .ok (.iload 6, 2) := by decide +kernel
theorem dX6_priceOf_11 : decode cX6_priceOf 11 = .ok (.iload_n 3, 1) := by decide +kernel
theorem dX6_priceOf_12 : decode cX6_priceOf 12 = .ok (.if_icmp .ge 54, 3) := by decide +kernel
theorem dX6_priceOf_15 : decode cX6_priceOf 15 = .ok (.aload_n 0, 1) := by decide +kernel
theorem dX6_priceOf_16 : decode cX6_priceOf 16 = .ok (.getfield 64, 3) := by decide +kernel
theorem dX6_priceOf_19 : decode cX6_priceOf 19 = .ok (.iload 6, 2) := by decide +kernel
theorem dX6_priceOf_21 : decode cX6_priceOf 21 = .ok (.iload_n 1, 1) := by decide +kernel
theorem dX6_priceOf_22 : decode cX6_priceOf 22 = .ok (.invokevirtual 130, 3) := by decide +kernel
theorem dX6_priceOf_25 : decode cX6_priceOf 25 = .ok (.istore 7, 2) := by decide +kernel
theorem dX6_priceOf_27 : decode cX6_priceOf 27 = .ok (.iload 7, 2) := by decide +kernel
theorem dX6_priceOf_29 : decode cX6_priceOf 29 = .ok (.iconst 3, 1) := by decide +kernel
theorem dX6_priceOf_30 : decode cX6_priceOf 30 = .ok (.if_icmp .ne 9, 3) := by decide +kernel
theorem dX6_priceOf_33 : decode cX6_priceOf 33 = .ok (.iinc 4 1, 3) := by decide +kernel
theorem dX6_priceOf_36 : decode cX6_priceOf 36 = .ok (.goto 24, 3) := by decide +kernel
theorem dX6_priceOf_39 : decode cX6_priceOf 39 = .ok (.iload 7, 2) := by decide +kernel
theorem dX6_priceOf_41 : decode cX6_priceOf 41 = .ok (.iconst 1, 1) := by decide +kernel
theorem dX6_priceOf_42 : decode cX6_priceOf 42 = .ok (.if_icmp .ne 9, 3) := by decide +kernel
theorem dX6_priceOf_45 : decode cX6_priceOf 45 = .ok (.iinc 5 1, 3) := by decide +kernel
theorem dX6_priceOf_48 : decode cX6_priceOf 48 = .ok (.goto 12, 3) := by decide +kernel
theorem dX6_priceOf_51 : decode cX6_priceOf 51 = .ok (.iload 7, 2) := by decide +kernel
theorem dX6_priceOf_53 : decode cX6_priceOf 53 = .ok (.iconst 2, 1) := by decide +kernel
theorem dX6_priceOf_54 : decode cX6_priceOf 54 = .ok (.if_icmp .ne 6, 3) := by decide +kernel
theorem dX6_priceOf_57 : decode cX6_priceOf 57 = .ok (.iinc 5 (-1), 3) := by decide +kernel
theorem dX6_priceOf_60 : decode cX6_priceOf 60 = .ok (.iinc 6 1, 3) := by decide +kernel
theorem dX6_priceOf_63 : decode cX6_priceOf 63 = .ok (.goto (-54), 3) := by decide +kernel
theorem dX6_priceOf_66 : decode cX6_priceOf 66 = .ok (.aload_n 0, 1) := by decide +kernel
theorem dX6_priceOf_67 : decode cX6_priceOf 67 = .ok (.getfield 49, 3) := by decide +kernel
theorem dX6_priceOf_70 : decode cX6_priceOf 70 = .ok (.iload 4, 2) := by decide +kernel
theorem dX6_priceOf_72 : decode cX6_priceOf 72 = .ok (.imul, 1) := by decide +kernel
theorem dX6_priceOf_73 : decode cX6_priceOf 73 = .ok (.aload_n 0, 1) := by decide +kernel
theorem dX6_priceOf_74 : decode cX6_priceOf 74 = .ok (.getfield 52, 3) := by decide +kernel
theorem dX6_priceOf_77 : decode cX6_priceOf 77 = .ok (.iload 5, 2) := by decide +kernel
theorem dX6_priceOf_79 : decode cX6_priceOf 79 = .ok (.invokestatic 133, 3) := by decide +kernel
theorem dX6_priceOf_82 : decode cX6_priceOf 82 = .ok (.imul, 1) := by decide +kernel
theorem dX6_priceOf_83 : decode cX6_priceOf 83 = .ok (.iadd, 1) := by decide +kernel
theorem dX6_priceOf_84 : decode cX6_priceOf 84 = .ok (.ireturn, 1) := by decide +kernel
theorem dX6_hasNode_0 : decode cX6_hasNode 0 = .ok (.iload_n 1, 1) := by decide +kernel
theorem dX6_hasNode_1 : decode cX6_hasNode 1 = .ok (.ifCond .lt 22, 3) := by decide +kernel
theorem dX6_hasNode_4 : decode cX6_hasNode 4 = .ok (.iload_n 1, 1) := by decide +kernel
theorem dX6_hasNode_5 : decode cX6_hasNode 5 = .ok (.aload_n 0, 1) := by decide +kernel
theorem dX6_hasNode_6 : decode cX6_hasNode 6 = .ok (.getfield 37, 3) := by decide +kernel
theorem dX6_hasNode_9 : decode cX6_hasNode 9 = .ok (.if_icmp .ge 14, 3) := by decide +kernel
theorem dX6_hasNode_12 : decode cX6_hasNode 12 = .ok (.iload_n 1, 1) := by decide +kernel
theorem dX6_hasNode_13 : decode cX6_hasNode 13 = .ok (.sipush 144, 3) := by decide +kernel
theorem dX6_hasNode_16 : decode cX6_hasNode 16 = .ok (.if_icmp .ge 7, 3) := by decide +kernel
theorem dX6_hasNode_19 : decode cX6_hasNode 19 = .ok (.iconst 1, 1) := by decide +kernel
theorem dX6_hasNode_20 : decode cX6_hasNode 20 = .ok (.goto 4, 3) := by decide +kernel
theorem dX6_hasNode_23 : decode cX6_hasNode 23 = .ok (.iconst 0, 1) := by decide +kernel
theorem dX6_hasNode_24 : decode cX6_hasNode 24 = .ok (.ireturn, 1) := by decide +kernel
theorem dX6_hasPiece_0 : decode cX6_hasPiece 0 = .ok (.aload_n 0, 1) := by decide +kernel
theorem dX6_hasPiece_1 : decode cX6_hasPiece 1 = .ok (.getfield 68, 3) := by decide +kernel
theorem dX6_hasPiece_4 : decode cX6_hasPiece 4 = .ok (.iload_n 1, 1) := by decide +kernel
theorem dX6_hasPiece_5 : decode cX6_hasPiece 5 = .ok (.invokevirtual 136, 3) := by decide +kernel
theorem dX6_hasPiece_8 : decode cX6_hasPiece 8 = .ok (.ireturn, 1) := by decide +kernel
theorem dX6_nodeTotal_0 : decode cX6_nodeTotal 0 = .ok (.aload_n 0, 1) := by decide +kernel
theorem dX6_nodeTotal_1 : decode cX6_nodeTotal 1 = .ok (.getfield 37, 3) := by decide +kernel
theorem dX6_nodeTotal_4 : decode cX6_nodeTotal 4 = .ok (.ireturn, 1) := by decide +kernel
theorem dX6_leafTotal_0 : decode cX6_leafTotal 0 = .ok (.aload_n 0, 1) := by decide +kernel
theorem dX6_leafTotal_1 : decode cX6_leafTotal 1 = .ok (.getfield 40, 3) := by decide +kernel
theorem dX6_leafTotal_4 : decode cX6_leafTotal 4 = .ok (.ireturn, 1) := by decide +kernel
theorem dX6_pieceTotal_0 : decode cX6_pieceTotal 0 = .ok (.aload_n 0, 1) := by decide +kernel
theorem dX6_pieceTotal_1 : decode cX6_pieceTotal 1 = .ok (.getfield 68, 3) := by decide +kernel
theorem dX6_pieceTotal_4 : decode cX6_pieceTotal 4 = .ok (.invokevirtual 79, 3) := by decide +kernel
theorem dX6_pieceTotal_7 : decode cX6_pieceTotal 7 = .ok (.ireturn, 1) := by decide +kernel
theorem dX6_leafDepthSum_0 : decode cX6_leafDepthSum 0 = .ok (.aload_n 0, 1) := by decide +kernel
theorem dX6_leafDepthSum_1 : decode cX6_leafDepthSum 1 = .ok (.getfield 43, 3) := by decide +kernel
theorem dX6_leafDepthSum_4 : decode cX6_leafDepthSum 4 = .ok (.ireturn, 1) := by decide +kernel
theorem dX6_greatestLeafDepth_0 : decode cX6_greatestLeafDepth 0 = .ok (.aload_n 0, 1) := by decide +kernel
theorem dX6_greatestLeafDepth_1 : decode cX6_greatestLeafDepth 1 = .ok (.getfield 46, 3) := by decide +kernel
theorem dX6_greatestLeafDepth_4 : decode cX6_greatestLeafDepth 4 = .ok (.ireturn, 1) := by decide +kernel
theorem dX6_rootSubtree_0 : decode cX6_rootSubtree 0 = .ok (.aload_n 0, 1) := by decide +kernel
theorem dX6_rootSubtree_1 : decode cX6_rootSubtree 1 = .ok (.getfield 33, 3) := by decide +kernel
theorem dX6_rootSubtree_4 : decode cX6_rootSubtree 4 = .ok (.ireturn, 1) := by decide +kernel
theorem dX6_wallOfNode_0 : decode cX6_wallOfNode 0 = .ok (.aload_n 0, 1) := by decide +kernel
theorem dX6_wallOfNode_1 : decode cX6_wallOfNode 1 = .ok (.iload_n 1, 1) := by decide +kernel
theorem dX6_wallOfNode_2 : decode cX6_wallOfNode 2 = .ok (.invokevirtual 103, 3) := by decide +kernel
theorem dX6_wallOfNode_5 : decode cX6_wallOfNode 5 = .ok (.ifCond .eq 12, 3) := by decide +kernel
theorem dX6_wallOfNode_8 : decode cX6_wallOfNode 8 = .ok (.aload_n 0, 1) := by decide +kernel
theorem dX6_wallOfNode_9 : decode cX6_wallOfNode 9 = .ok (.getfield 15, 3) := by decide +kernel
theorem dX6_wallOfNode_12 : decode cX6_wallOfNode 12 = .ok (.iload_n 1, 1) := by decide +kernel
theorem dX6_wallOfNode_13 : decode cX6_wallOfNode 13 = .ok (.iaload, 1) := by decide +kernel
theorem dX6_wallOfNode_14 : decode cX6_wallOfNode 14 = .ok (.goto 5, 3) := by decide +kernel
theorem dX6_wallOfNode_17 : decode cX6_wallOfNode 17 = .ok (.bipush (-8), 2) := by decide +kernel
theorem dX6_wallOfNode_19 : decode cX6_wallOfNode 19 = .ok (.ireturn, 1) := by decide +kernel
theorem dX6_frontOf_0 : decode cX6_frontOf 0 = .ok (.aload_n 0, 1) := by decide +kernel
theorem dX6_frontOf_1 : decode cX6_frontOf 1 = .ok (.iload_n 1, 1) := by decide +kernel
theorem dX6_frontOf_2 : decode cX6_frontOf 2 = .ok (.invokevirtual 103, 3) := by decide +kernel
theorem dX6_frontOf_5 : decode cX6_frontOf 5 = .ok (.ifCond .eq 12, 3) := by decide +kernel
theorem dX6_frontOf_8 : decode cX6_frontOf 8 = .ok (.aload_n 0, 1) := by decide +kernel
theorem dX6_frontOf_9 : decode cX6_frontOf 9 = .ok (.getfield 18, 3) := by decide +kernel
theorem dX6_frontOf_12 : decode cX6_frontOf 12 = .ok (.iload_n 1, 1) := by decide +kernel
theorem dX6_frontOf_13 : decode cX6_frontOf 13 = .ok (.iaload, 1) := by decide +kernel
theorem dX6_frontOf_14 : decode cX6_frontOf 14 = .ok (.goto 4, 3) := by decide +kernel
theorem dX6_frontOf_17 : decode cX6_frontOf 17 = .ok (.iconst (-1), 1) := by decide +kernel
theorem dX6_frontOf_18 : decode cX6_frontOf 18 = .ok (.ireturn, 1) := by decide +kernel
theorem dX6_backOf_0 : decode cX6_backOf 0 = .ok (.aload_n 0, 1) := by decide +kernel
theorem dX6_backOf_1 : decode cX6_backOf 1 = .ok (.iload_n 1, 1) := by decide +kernel
theorem dX6_backOf_2 : decode cX6_backOf 2 = .ok (.invokevirtual 103, 3) := by decide +kernel
theorem dX6_backOf_5 : decode cX6_backOf 5 = .ok (.ifCond .eq 12, 3) := by decide +kernel
theorem dX6_backOf_8 : decode cX6_backOf 8 = .ok (.aload_n 0, 1) := by decide +kernel
theorem dX6_backOf_9 : decode cX6_backOf 9 = .ok (.getfield 21, 3) := by decide +kernel
theorem dX6_backOf_12 : decode cX6_backOf 12 = .ok (.iload_n 1, 1) := by decide +kernel
theorem dX6_backOf_13 : decode cX6_backOf 13 = .ok (.iaload, 1) := by decide +kernel
theorem dX6_backOf_14 : decode cX6_backOf 14 = .ok (.goto 4, 3) := by decide +kernel
theorem dX6_backOf_17 : decode cX6_backOf 17 = .ok (.iconst (-1), 1) := by decide +kernel
theorem dX6_backOf_18 : decode cX6_backOf 18 = .ok (.ireturn, 1) := by decide +kernel
theorem dX6_depthOf_0 : decode cX6_depthOf 0 = .ok (.aload_n 0, 1) := by decide +kernel
theorem dX6_depthOf_1 : decode cX6_depthOf 1 = .ok (.iload_n 1, 1) := by decide +kernel
theorem dX6_depthOf_2 : decode cX6_depthOf 2 = .ok (.invokevirtual 103, 3) := by decide +kernel
theorem dX6_depthOf_5 : decode cX6_depthOf 5 = .ok (.ifCond .eq 12, 3) := by decide +kernel
theorem dX6_depthOf_8 : decode cX6_depthOf 8 = .ok (.aload_n 0, 1) := by decide +kernel
theorem dX6_depthOf_9 : decode cX6_depthOf 9 = .ok (.getfield 24, 3) := by decide +kernel
theorem dX6_depthOf_12 : decode cX6_depthOf 12 = .ok (.iload_n 1, 1) := by decide +kernel
theorem dX6_depthOf_13 : decode cX6_depthOf 13 = .ok (.iaload, 1) := by decide +kernel
theorem dX6_depthOf_14 : decode cX6_depthOf 14 = .ok (.goto 4, 3) := by decide +kernel
theorem dX6_depthOf_17 : decode cX6_depthOf 17 = .ok (.iconst 0, 1) := by decide +kernel
theorem dX6_depthOf_18 : decode cX6_depthOf 18 = .ok (.ireturn, 1) := by decide +kernel
theorem dX6_firstPieceOf_0 : decode cX6_firstPieceOf 0 = .ok (.aload_n 0, 1) := by decide +kernel
theorem dX6_firstPieceOf_1 : decode cX6_firstPieceOf 1 = .ok (.iload_n 1, 1) := by decide +kernel
theorem dX6_firstPieceOf_2 : decode cX6_firstPieceOf 2 = .ok (.invokevirtual 103, 3) := by decide +kernel
theorem dX6_firstPieceOf_5 : decode cX6_firstPieceOf 5 = .ok (.ifCond .eq 12, 3) := by decide +kernel
theorem dX6_firstPieceOf_8 : decode cX6_firstPieceOf 8 = .ok (.aload_n 0, 1) := by decide +kernel
theorem dX6_firstPieceOf_9 : decode cX6_firstPieceOf 9 = .ok (.getfield 27, 3) := by decide +kernel
theorem dX6_firstPieceOf_12 : decode cX6_firstPieceOf 12 = .ok (.iload_n 1, 1) := by decide +kernel
theorem dX6_firstPieceOf_13 : decode cX6_firstPieceOf 13 = .ok (.iaload, 1) := by decide +kernel
theorem dX6_firstPieceOf_14 : decode cX6_firstPieceOf 14 = .ok (.goto 4, 3) := by decide +kernel
theorem dX6_firstPieceOf_17 : decode cX6_firstPieceOf 17 = .ok (.iconst 0, 1) := by decide +kernel
theorem dX6_firstPieceOf_18 : decode cX6_firstPieceOf 18 = .ok (.ireturn, 1) := by decide +kernel
theorem dX6_pieceTotalOf_0 : decode cX6_pieceTotalOf 0 = .ok (.aload_n 0, 1) := by decide +kernel
theorem dX6_pieceTotalOf_1 : decode cX6_pieceTotalOf 1 = .ok (.iload_n 1, 1) := by decide +kernel
theorem dX6_pieceTotalOf_2 : decode cX6_pieceTotalOf 2 = .ok (.invokevirtual 103, 3) := by decide +kernel
theorem dX6_pieceTotalOf_5 : decode cX6_pieceTotalOf 5 = .ok (.ifCond .eq 12, 3) := by decide +kernel
theorem dX6_pieceTotalOf_8 : decode cX6_pieceTotalOf 8 = .ok (.aload_n 0, 1) := by decide +kernel
theorem dX6_pieceTotalOf_9 : decode cX6_pieceTotalOf 9 = .ok (.getfield 30, 3) := by decide +kernel
theorem dX6_pieceTotalOf_12 : decode cX6_pieceTotalOf 12 = .ok (.iload_n 1, 1) := by decide +kernel
theorem dX6_pieceTotalOf_13 : decode cX6_pieceTotalOf 13 = .ok (.iaload, 1) := by decide +kernel
theorem dX6_pieceTotalOf_14 : decode cX6_pieceTotalOf 14 = .ok (.goto 4, 3) := by decide +kernel
theorem dX6_pieceTotalOf_17 : decode cX6_pieceTotalOf 17 = .ok (.iconst 0, 1) := by decide +kernel
theorem dX6_pieceTotalOf_18 : decode cX6_pieceTotalOf 18 = .ok (.ireturn, 1) := by decide +kernel
theorem dX6_wallOfPiece_0 : decode cX6_wallOfPiece 0 = .ok (.aload_n 0, 1) := by decide +kernel
theorem dX6_wallOfPiece_1 : decode cX6_wallOfPiece 1 = .ok (.getfield 68, 3) := by decide +kernel
theorem dX6_wallOfPiece_4 : decode cX6_wallOfPiece 4 = .ok (.iload_n 1, 1) := by decide +kernel
theorem dX6_wallOfPiece_5 : decode cX6_wallOfPiece 5 = .ok (.invokevirtual 116, 3) := by decide +kernel
theorem dX6_wallOfPiece_8 : decode cX6_wallOfPiece 8 = .ok (.ireturn, 1) := by decide +kernel
theorem dX6_nodeOfPiece_0 : decode cX6_nodeOfPiece 0 = .ok (.iload_n 1, 1) := by decide +kernel
theorem dX6_nodeOfPiece_1 : decode cX6_nodeOfPiece 1 = .ok (.ifCond .lt 19, 3) := by decide +kernel
theorem dX6_nodeOfPiece_4 : decode cX6_nodeOfPiece 4 = .ok (.iload_n 1, 1) := by decide +kernel
theorem dX6_nodeOfPiece_5 : decode cX6_nodeOfPiece 5 = .ok (.sipush 144, 3) := by decide +kernel
theorem dX6_nodeOfPiece_8 : decode cX6_nodeOfPiece 8 = .ok (.if_icmp .ge 12, 3) := by decide +kernel
theorem dX6_nodeOfPiece_11 : decode cX6_nodeOfPiece 11 = .ok (.aload_n 0, 1) := by decide +kernel
theorem dX6_nodeOfPiece_12 : decode cX6_nodeOfPiece 12 = .ok (.getfield 9, 3) := by decide +kernel
theorem dX6_nodeOfPiece_15 : decode cX6_nodeOfPiece 15 = .ok (.iload_n 1, 1) := by decide +kernel
theorem dX6_nodeOfPiece_16 : decode cX6_nodeOfPiece 16 = .ok (.iaload, 1) := by decide +kernel
theorem dX6_nodeOfPiece_17 : decode cX6_nodeOfPiece 17 = .ok (.goto 4, 3) := by decide +kernel
theorem dX6_nodeOfPiece_20 : decode cX6_nodeOfPiece 20 = .ok (.iconst 0, 1) := by decide +kernel
theorem dX6_nodeOfPiece_21 : decode cX6_nodeOfPiece 21 = .ok (.ireturn, 1) := by decide +kernel
theorem dX6_boundOfPiece_0 : decode cX6_boundOfPiece 0 = .ok (.aload_n 0, 1) := by decide +kernel
theorem dX6_boundOfPiece_1 : decode cX6_boundOfPiece 1 = .ok (.getfield 68, 3) := by decide +kernel
theorem dX6_boundOfPiece_4 : decode cX6_boundOfPiece 4 = .ok (.iload_n 1, 1) := by decide +kernel
theorem dX6_boundOfPiece_5 : decode cX6_boundOfPiece 5 = .ok (.iload_n 2, 1) := by decide +kernel
theorem dX6_boundOfPiece_6 : decode cX6_boundOfPiece 6 = .ok (.invokevirtual 139, 3) := by decide +kernel
theorem dX6_boundOfPiece_9 : decode cX6_boundOfPiece 9 = .ok (.ireturn, 1) := by decide +kernel
theorem dX6_isInFrontOrOnLine_0 : decode cX6_isInFrontOrOnLine 0 = .ok (.aload_n 0, 1) := by decide +kernel
theorem dX6_isInFrontOrOnLine_1 : decode cX6_isInFrontOrOnLine 1 = .ok (.getfield 55, 3) := by decide +kernel
theorem dX6_isInFrontOrOnLine_4 : decode cX6_isInFrontOrOnLine 4 = .ok (.aload_n 0, 1) := by decide +kernel
theorem dX6_isInFrontOrOnLine_5 : decode cX6_isInFrontOrOnLine 5 = .ok (.iload_n 1, 1) := by decide +kernel
theorem dX6_isInFrontOrOnLine_6 : decode cX6_isInFrontOrOnLine 6 = .ok (.invokevirtual 142, 3) := by decide +kernel
theorem dX6_isInFrontOrOnLine_9 : decode cX6_isInFrontOrOnLine 9 = .ok (.iload_n 2, 1) := by decide +kernel
theorem dX6_isInFrontOrOnLine_10 : decode cX6_isInFrontOrOnLine 10 = .ok (.iload_n 3, 1) := by decide +kernel
theorem dX6_isInFrontOrOnLine_11 : decode cX6_isInFrontOrOnLine 11 = .ok (.invokevirtual 145, 3) := by decide +kernel
theorem dX6_isInFrontOrOnLine_14 : decode cX6_isInFrontOrOnLine 14 = .ok (.ifCond .lt 7, 3) := by decide +kernel
theorem dX6_isInFrontOrOnLine_17 : decode cX6_isInFrontOrOnLine 17 = .ok (.iconst 1, 1) := by decide +kernel
theorem dX6_isInFrontOrOnLine_18 : decode cX6_isInFrontOrOnLine 18 = .ok (.goto 4, 3) := by decide +kernel
theorem dX6_isInFrontOrOnLine_21 : decode cX6_isInFrontOrOnLine 21 = .ok (.iconst 0, 1) := by decide +kernel
theorem dX6_isInFrontOrOnLine_22 : decode cX6_isInFrontOrOnLine 22 = .ok (.ireturn, 1) := by decide +kernel
theorem dX6_leafAt_0 : decode cX6_leafAt 0 = .ok (.aload_n 0, 1) := by decide +kernel
theorem dX6_leafAt_1 : decode cX6_leafAt 1 = .ok (.getfield 33, 3) := by decide +kernel
theorem dX6_leafAt_4 : decode cX6_leafAt 4 = .ok (.istore_n 3, 1) := by decide +kernel
theorem dX6_leafAt_5 : decode cX6_leafAt 5 = .ok (.iconst 0, 1) := by decide +kernel
theorem dX6_leafAt_6 : decode cX6_leafAt 6 = .ok (.istore 4, 2) := by decide +kernel
theorem dX6_leafAt_8 : decode cX6_leafAt 8 = .ok (.iload 4, 2) := by decide +kernel
theorem dX6_leafAt_10 : decode cX6_leafAt 10 = .ok (.bipush 12, 2) := by decide +kernel
theorem dX6_leafAt_12 : decode cX6_leafAt 12 = .ok (.if_icmp .ge 37, 3) := by decide +kernel
theorem dX6_leafAt_15 : decode cX6_leafAt 15 = .ok (.iload_n 3, 1) := by decide +kernel
theorem dX6_leafAt_16 : decode cX6_leafAt 16 = .ok (.ifCond .lt 33, 3) := by decide +kernel
theorem dX6_leafAt_19 : decode cX6_leafAt 19 = .ok (.aload_n 0, 1) := by decide +kernel
theorem dX6_leafAt_20 : decode cX6_leafAt 20 = .ok (.iload_n 3, 1) := by decide +kernel
theorem dX6_leafAt_21 : decode cX6_leafAt 21 = .ok (.iload_n 1, 1) := by decide +kernel
theorem dX6_leafAt_22 : decode cX6_leafAt 22 = .ok (.iload_n 2, 1) := by decide +kernel
theorem dX6_leafAt_23 : decode cX6_leafAt 23 = .ok (.invokevirtual 148, 3) := by decide +kernel
theorem dX6_leafAt_26 : decode cX6_leafAt 26 = .ok (.ifCond .eq 11, 3) := by decide +kernel
theorem dX6_leafAt_29 : decode cX6_leafAt 29 = .ok (.aload_n 0, 1) := by decide +kernel
theorem dX6_leafAt_30 : decode cX6_leafAt 30 = .ok (.iload_n 3, 1) := by decide +kernel
theorem dX6_leafAt_31 : decode cX6_leafAt 31 = .ok (.invokevirtual 152, 3) := by decide +kernel
theorem dX6_leafAt_34 : decode cX6_leafAt 34 = .ok (.goto 8, 3) := by decide +kernel
theorem dX6_leafAt_37 : decode cX6_leafAt 37 = .ok (.aload_n 0, 1) := by decide +kernel
theorem dX6_leafAt_38 : decode cX6_leafAt 38 = .ok (.iload_n 3, 1) := by decide +kernel
theorem dX6_leafAt_39 : decode cX6_leafAt 39 = .ok (.invokevirtual 155, 3) := by decide +kernel
theorem dX6_leafAt_42 : decode cX6_leafAt 42 = .ok (.istore_n 3, 1) := by decide +kernel
theorem dX6_leafAt_43 : decode cX6_leafAt 43 = .ok (.iinc 4 1, 3) := by decide +kernel
theorem dX6_leafAt_46 : decode cX6_leafAt 46 = .ok (.goto (-38), 3) := by decide +kernel
theorem dX6_leafAt_49 : decode cX6_leafAt 49 = .ok (.iconst (-1), 1) := by decide +kernel
theorem dX6_leafAt_50 : decode cX6_leafAt 50 = .ok (.iload_n 3, 1) := by decide +kernel
theorem dX6_leafAt_51 : decode cX6_leafAt 51 = .ok (.isub, 1) := by decide +kernel
theorem dX6_leafAt_52 : decode cX6_leafAt 52 = .ok (.ireturn, 1) := by decide +kernel
theorem dX7_init_0 : decode cX7_init 0 = .ok (.aload_n 0, 1) := by decide +kernel
theorem dX7_init_1 : decode cX7_init 1 = .ok (.invokespecial 3, 3) := by decide +kernel
theorem dX7_init_4 : decode cX7_init 4 = .ok (.aload_n 0, 1) := by decide +kernel
theorem dX7_init_5 : decode cX7_init 5 = .ok (.sipush 300, 3) := by decide +kernel
theorem dX7_init_8 : decode cX7_init 8 = .ok (.newarray .int, 2) := by decide +kernel
theorem dX7_init_10 : decode cX7_init 10 = .ok (.putfield 11, 3) := by decide +kernel
theorem dX7_init_13 : decode cX7_init 13 = .ok (.aload_n 0, 1) := by decide +kernel
theorem dX7_init_14 : decode cX7_init 14 = .ok (.iconst 4, 1) := by decide +kernel
theorem dX7_init_15 : decode cX7_init 15 = .ok (.newarray .int, 2) := by decide +kernel
theorem dX7_init_17 : decode cX7_init 17 = .ok (.putfield 15, 3) := by decide +kernel
theorem dX7_init_20 : decode cX7_init 20 = .ok (.aload_n 0, 1) := by decide +kernel
theorem dX7_init_21 : decode cX7_init 21 = .ok (.iconst 0, 1) := by decide +kernel
theorem dX7_init_22 : decode cX7_init 22 = .ok (.putfield 18, 3) := by decide +kernel
theorem dX7_init_25 : decode cX7_init 25 = .ok (.aload_n 0, 1) := by decide +kernel
theorem dX7_init_26 : decode cX7_init 26 = .ok (.iconst 0, 1) := by decide +kernel
theorem dX7_init_27 : decode cX7_init 27 = .ok (.putfield 22, 3) := by decide +kernel
theorem dX7_init_30 : decode cX7_init 30 = .ok (.aload_n 0, 1) := by decide +kernel
theorem dX7_init_31 : decode cX7_init 31 = .ok (.bipush (-8), 2) := by decide +kernel
theorem dX7_init_33 : decode cX7_init 33 = .ok (.putfield 25, 3) := by decide +kernel
theorem dX7_init_36 : decode cX7_init 36 = .ok (.aload_n 0, 1) := by decide +kernel
theorem dX7_init_37 : decode cX7_init 37 = .ok (.bipush (-8), 2) := by decide +kernel
theorem dX7_init_39 : decode cX7_init 39 = .ok (.putfield 28, 3) := by decide +kernel
theorem dX7_init_42 : decode cX7_init 42 = .ok (.aload_n 0, 1) := by decide +kernel
theorem dX7_init_43 : decode cX7_init 43 = .ok (.bipush (-8), 2) := by decide +kernel
theorem dX7_init_45 : decode cX7_init 45 = .ok (.putfield 31, 3) := by decide +kernel
theorem dX7_init_48 : decode cX7_init 48 = .ok (.return_, 1) := by decide +kernel
theorem dX7_length_0 : decode cX7_length 0 = .ok (.aload_n 0, 1) := by decide +kernel
theorem dX7_length_1 : decode cX7_length 1 = .ok (.getfield 18, 3) := by decide +kernel
theorem dX7_length_4 : decode cX7_length 4 = .ok (.ireturn, 1) := by decide +kernel
theorem dX7_isFull_0 : decode cX7_isFull 0 = .ok (.aload_n 0, 1) := by decide +kernel
theorem dX7_isFull_1 : decode cX7_isFull 1 = .ok (.getfield 18, 3) := by decide +kernel
theorem dX7_isFull_4 : decode cX7_isFull 4 = .ok (.sipush 300, 3) := by decide +kernel
theorem dX7_isFull_7 : decode cX7_isFull 7 = .ok (.if_icmp .lt 7, 3) := by decide +kernel
theorem dX7_isFull_10 : decode cX7_isFull 10 = .ok (.iconst 1, 1) := by decide +kernel
theorem dX7_isFull_11 : decode cX7_isFull 11 = .ok (.goto 4, 3) := by decide +kernel
theorem dX7_isFull_14 : decode cX7_isFull 14 = .ok (.iconst 0, 1) := by decide +kernel
theorem dX7_isFull_15 : decode cX7_isFull 15 = .ok (.ireturn, 1) := by decide +kernel
theorem dX7_append_0 : decode cX7_append 0 = .ok (.aload_n 0, 1) := by decide +kernel
theorem dX7_append_1 : decode cX7_append 1 = .ok (.getfield 18, 3) := by decide +kernel
theorem dX7_append_4 : decode cX7_append 4 = .ok (.ifCond .lt 33, 3) := by decide +kernel
theorem dX7_append_7 : decode cX7_append 7 = .ok (.aload_n 0, 1) := by decide +kernel
theorem dX7_append_8 : decode cX7_append 8 = .ok (.getfield 18, 3) := by decide +kernel
theorem dX7_append_11 : decode cX7_append 11 = .ok (.sipush 300, 3) := by decide +kernel
theorem dX7_append_14 : decode cX7_append 14 = .ok (.if_icmp .ge 23, 3) := by decide +kernel
theorem dX7_append_17 : decode cX7_append 17 = .ok (.aload_n 0, 1) := by decide +kernel
theorem dX7_append_18 : decode cX7_append 18 = .ok (.getfield 11, 3) := by decide +kernel
theorem dX7_append_21 : decode cX7_append 21 = .ok (.aload_n 0, 1) := by decide +kernel
theorem dX7_append_22 : decode cX7_append 22 = .ok (.getfield 18, 3) := by decide +kernel
theorem dX7_append_25 : decode cX7_append 25 = .ok (.iload_n 1, 1) := by decide +kernel
theorem dX7_append_26 : decode cX7_append 26 = .ok (.iastore, 1) := by decide +kernel
theorem dX7_append_27 : decode cX7_append 27 = .ok (.aload_n 0, 1) := by decide +kernel
theorem dX7_append_28 : decode cX7_append 28 = .ok (.dup, 1) := by decide +kernel
theorem dX7_append_29 : decode cX7_append 29 = .ok (.getfield 18, 3) := by decide +kernel
theorem dX7_append_32 : decode cX7_append 32 = .ok (.iconst 1, 1) := by decide +kernel
theorem dX7_append_33 : decode cX7_append 33 = .ok (.iadd, 1) := by decide +kernel
theorem dX7_append_34 : decode cX7_append 34 = .ok (.putfield 18, 3) := by decide +kernel
theorem dX7_append_37 : decode cX7_append 37 = .ok (.return_, 1) := by decide +kernel
theorem dX7_clear_0 : decode cX7_clear 0 = .ok (.aload_n 0, 1) := by decide +kernel
theorem dX7_clear_1 : decode cX7_clear 1 = .ok (.iconst 0, 1) := by decide +kernel
theorem dX7_clear_2 : decode cX7_clear 2 = .ok (.putfield 18, 3) := by decide +kernel
theorem dX7_clear_5 : decode cX7_clear 5 = .ok (.return_, 1) := by decide +kernel
theorem dX7_placeOfFault_0 : decode cX7_placeOfFault 0 = .ok (.aload_n 0, 1) := by decide +kernel
theorem dX7_placeOfFault_1 : decode cX7_placeOfFault 1 = .ok (.getfield 25, 3) := by decide +kernel
theorem dX7_placeOfFault_4 : decode cX7_placeOfFault 4 = .ok (.ireturn, 1) := by decide +kernel
theorem dX7_kindOfFault_0 : decode cX7_kindOfFault 0 = .ok (.aload_n 0, 1) := by decide +kernel
theorem dX7_kindOfFault_1 : decode cX7_kindOfFault 1 = .ok (.getfield 28, 3) := by decide +kernel
theorem dX7_kindOfFault_4 : decode cX7_kindOfFault 4 = .ok (.ireturn, 1) := by decide +kernel
theorem dX7_itemOfFault_0 : decode cX7_itemOfFault 0 = .ok (.aload_n 0, 1) := by decide +kernel
theorem dX7_itemOfFault_1 : decode cX7_itemOfFault 1 = .ok (.getfield 31, 3) := by decide +kernel
theorem dX7_itemOfFault_4 : decode cX7_itemOfFault 4 = .ok (.ireturn, 1) := by decide +kernel
theorem dX7_readInto_0 : decode cX7_readInto 0 = .ok (.aload_n 1, 1) := by decide +kernel
theorem dX7_readInto_1 : decode cX7_readInto 1 = .ok (.invokevirtual 34, 3) := by decide +kernel
theorem dX7_readInto_4 : decode cX7_readInto 4 = .ok (.aload_n 0, 1) := by decide +kernel
theorem dX7_readInto_5 : decode cX7_readInto 5 = .ok (.iconst 0, 1) := by decide +kernel
theorem dX7_readInto_6 : decode cX7_readInto 6 = .ok (.putfield 22, 3) := by decide +kernel
theorem dX7_readInto_9 : decode cX7_readInto 9 = .ok (.iconst 0, 1) := by decide +kernel
theorem dX7_readInto_10 : decode cX7_readInto 10 = .ok (.istore_n 2, 1) := by decide +kernel
theorem dX7_readInto_11 : decode cX7_readInto 11 = .ok (.iload_n 2, 1) := by decide +kernel
theorem dX7_readInto_12 : decode cX7_readInto 12 = .ok (.bipush 12, 2) := by decide +kernel
theorem dX7_readInto_14 : decode cX7_readInto 14 = .ok (.if_icmp .gt 31, 3) := by decide +kernel
theorem dX7_readInto_17 : decode cX7_readInto 17 = .ok (.aload_n 0, 1) := by decide +kernel
theorem dX7_readInto_18 : decode cX7_readInto 18 = .ok (.getfield 22, 3) := by decide +kernel
theorem dX7_readInto_21 : decode cX7_readInto 21 = .ok (.aload_n 0, 1) := by decide +kernel
theorem dX7_readInto_22 : decode cX7_readInto 22 = .ok (.getfield 18, 3) := by decide +kernel
theorem dX7_readInto_25 : decode cX7_readInto 25 = .ok (.if_icmp .ge 20, 3) := by decide +kernel
theorem dX7_readInto_28 : decode cX7_readInto 28 = .ok (.aload_n 0, 1) := by decide +kernel
theorem dX7_readInto_29 : decode cX7_readInto 29 = .ok (.iload_n 2, 1) := by decide +kernel
theorem dX7_readInto_30 : decode cX7_readInto 30 = .ok (.aload_n 1, 1) := by decide +kernel
theorem dX7_readInto_31 : decode cX7_readInto 31 = .ok (.invokevirtual 39, 3) := by decide +kernel
theorem dX7_readInto_34 : decode cX7_readInto 34 = .ok (.ifCond .ne 5, 3) := by decide +kernel
theorem dX7_readInto_37 : decode cX7_readInto 37 = .ok (.iconst 0, 1) := by decide +kernel
theorem dX7_readInto_38 : decode cX7_readInto 38 = .ok (.ireturn, 1) := by decide +kernel
theorem dX7_readInto_39 : decode cX7_readInto 39 = .ok (.iinc 2 1, 3) := by decide +kernel
theorem dX7_readInto_42 : decode cX7_readInto 42 = .ok (.goto (-31), 3) := by decide +kernel
theorem dX7_readInto_45 : decode cX7_readInto 45 = .ok (.iconst 1, 1) := by decide +kernel
theorem dX7_readInto_46 : decode cX7_readInto 46 = .ok (.ireturn, 1) := by decide +kernel
theorem dX7_readItem_0 : decode cX7_readItem 0 = .ok (.aload_n 0, 1) := by decide +kernel
theorem dX7_readItem_1 : decode cX7_readItem 1 = .ok (.aload_n 0, 1) := by decide +kernel
theorem dX7_readItem_2 : decode cX7_readItem 2 = .ok (.getfield 22, 3) := by decide +kernel
theorem dX7_readItem_5 : decode cX7_readItem 5 = .ok (.invokevirtual 43, 3) := by decide +kernel
theorem dX7_readItem_8 : decode cX7_readItem 8 = .ok (.invokestatic 47, 3) := by decide +kernel
theorem dX7_readItem_11 : decode cX7_readItem 11 = .ok (.istore_n 3, 1) := by decide +kernel
theorem dX7_readItem_12 : decode cX7_readItem 12 = .ok (.iload_n 3, 1) := by decide +kernel
theorem dX7_readItem_13 : decode cX7_readItem 13 = .ok (.ifCond .ge 14, 3) := by decide +kernel
theorem dX7_readItem_16 : decode cX7_readItem 16 = .ok (.aload_n 0, 1) := by decide +kernel
theorem dX7_readItem_17 : decode cX7_readItem 17 = .ok (.iconst 1, 1) := by decide +kernel
theorem dX7_readItem_18 : decode cX7_readItem 18 = .ok (.aload_n 0, 1) := by decide +kernel
theorem dX7_readItem_19 : decode cX7_readItem 19 = .ok (.getfield 22, 3) := by decide +kernel
theorem dX7_readItem_22 : decode cX7_readItem 22 = .ok (.iload_n 1, 1) := by decide +kernel
theorem dX7_readItem_23 : decode cX7_readItem 23 = .ok (.invokevirtual 50, 3) := by decide +kernel
theorem dX7_readItem_26 : decode cX7_readItem 26 = .ok (.ireturn, 1) := by decide +kernel
theorem dX7_readItem_27 : decode cX7_readItem 27 = .ok (.iload_n 1, 1) := by decide +kernel
theorem dX7_readItem_28 : decode cX7_readItem 28 = .ok (.bipush 12, 2) := by decide +kernel
theorem dX7_readItem_30 : decode cX7_readItem 30 = .ok (.if_icmp .lt 14, 3) := by decide +kernel
theorem dX7_readItem_33 : decode cX7_readItem 33 = .ok (.aload_n 0, 1) := by decide +kernel
theorem dX7_readItem_34 : decode cX7_readItem 34 = .ok (.iconst 4, 1) := by decide +kernel
theorem dX7_readItem_35 : decode cX7_readItem 35 = .ok (.aload_n 0, 1) := by decide +kernel
theorem dX7_readItem_36 : decode cX7_readItem 36 = .ok (.getfield 22, 3) := by decide +kernel
theorem dX7_readItem_39 : decode cX7_readItem 39 = .ok (.iload_n 1, 1) := by decide +kernel
theorem dX7_readItem_40 : decode cX7_readItem 40 = .ok (.invokevirtual 50, 3) := by decide +kernel
theorem dX7_readItem_43 : decode cX7_readItem 43 = .ok (.ireturn, 1) := by decide +kernel
theorem dX7_readItem_44 : decode cX7_readItem 44 = .ok (.aload_n 0, 1) := by decide +kernel
theorem dX7_readItem_45 : decode cX7_readItem 45 = .ok (.dup, 1) := by decide +kernel
theorem dX7_readItem_46 : decode cX7_readItem 46 = .ok (.getfield 22, 3) := by decide +kernel
theorem dX7_readItem_49 : decode cX7_readItem 49 = .ok (.iconst 1, 1) := by decide +kernel
theorem dX7_readItem_50 : decode cX7_readItem 50 = .ok (.iadd, 1) := by decide +kernel
theorem dX7_readItem_51 : decode cX7_readItem 51 = .ok (.putfield 22, 3) := by decide +kernel
theorem dX7_readItem_54 : decode cX7_readItem 54 = .ok (.iconst 0, 1) := by decide +kernel
theorem dX7_readItem_55 : decode cX7_readItem 55 = .ok (.istore 4, 2) := by decide +kernel
theorem dX7_readItem_57 : decode cX7_readItem 57 = .ok (.aload_n 0, 1) := by decide +kernel
theorem dX7_readItem_58 : decode cX7_readItem 58 = .ok (.aload_n 0, 1) := by decide +kernel
theorem dX7_readItem_59 : decode cX7_readItem 59 = .ok (.getfield 22, 3) := by decide +kernel
theorem dX7_readItem_62 : decode cX7_readItem 62 = .ok (.invokevirtual 43, 3) := by decide +kernel
theorem dX7_readItem_65 : decode cX7_readItem 65 = .ok (.bipush 109, 2) := by decide +kernel
theorem dX7_readItem_67 : decode cX7_readItem 67 = .ok (.if_icmp .ne 16, 3) := by decide +kernel
theorem dX7_readItem_70 : decode cX7_readItem 70 = .ok (.iconst 1, 1) := by decide +kernel
theorem dX7_readItem_71 : decode cX7_readItem 71 = .ok (.istore 4, 2) := by decide +kernel
theorem dX7_readItem_73 : decode cX7_readItem 73 = .ok (.aload_n 0, 1) := by decide +kernel
theorem dX7_readItem_74 : decode cX7_readItem 74 = .ok (.dup, 1) := by decide +kernel
theorem dX7_readItem_75 : decode cX7_readItem 75 = .ok (.getfield 22, 3) := by decide +kernel
theorem dX7_readItem_78 : decode cX7_readItem 78 = .ok (.iconst 1, 1) := by decide +kernel
theorem dX7_readItem_79 : decode cX7_readItem 79 = .ok (.iadd, 1) := by decide +kernel
theorem dX7_readItem_80 : decode cX7_readItem 80 = .ok (.putfield 22, 3) := by decide +kernel
theorem dX7_readItem_83 : decode cX7_readItem 83 = .ok (.iconst 0, 1) := by decide +kernel
theorem dX7_readItem_84 : decode cX7_readItem 84 = .ok (.istore 5, 2) := by decide +kernel
theorem dX7_readItem_86 : decode cX7_readItem 86 = .ok (.iload 5, 2) := by decide +kernel
theorem dX7_readItem_88 : decode cX7_readItem 88 = .ok (.iconst 4, 1) := by decide +kernel
theorem dX7_readItem_89 : decode cX7_readItem 89 = .ok (.if_icmp .ge 21, 3) := by decide +kernel
theorem dX7_readItem_92 : decode cX7_readItem 92 = .ok (.aload_n 0, 1) := by decide +kernel
theorem dX7_readItem_93 : decode cX7_readItem 93 = .ok (.iload 5, 2) := by decide +kernel
theorem dX7_readItem_95 : decode cX7_readItem 95 = .ok (.iload_n 1, 1) := by decide +kernel
theorem dX7_readItem_96 : decode cX7_readItem 96 = .ok (.invokevirtual 54, 3) := by decide +kernel
theorem dX7_readItem_99 : decode cX7_readItem 99 = .ok (.ifCond .ne 5, 3) := by decide +kernel
theorem dX7_readItem_102 : decode cX7_readItem 102 = .ok (.iconst 0, 1) := by decide +kernel
theorem dX7_readItem_103 : decode cX7_readItem 103 = .ok (.ireturn, 1) := by decide +kernel
theorem dX7_readItem_104 : decode cX7_readItem 104 = .ok (.iinc 5 1, 3) := by decide +kernel
theorem dX7_readItem_107 : decode cX7_readItem 107 = .ok (.goto (-21), 3) := by decide +kernel
theorem dX7_readItem_110 : decode cX7_readItem 110 = .ok (.aload_n 0, 1) := by decide +kernel
theorem dX7_readItem_111 : decode cX7_readItem 111 = .ok (.getfield 15, 3) := by decide +kernel
theorem dX7_readItem_114 : decode cX7_readItem 114 = .ok (.iconst 0, 1) := by decide +kernel
theorem dX7_readItem_115 : decode cX7_readItem 115 = .ok (.iaload, 1) := by decide +kernel
theorem dX7_readItem_116 : decode cX7_readItem 116 = .ok (.aload_n 0, 1) := by decide +kernel
theorem dX7_readItem_117 : decode cX7_readItem 117 = .ok (.getfield 15, 3) := by decide +kernel
theorem dX7_readItem_120 : decode cX7_readItem 120 = .ok (.iconst 2, 1) := by decide +kernel
theorem dX7_readItem_121 : decode cX7_readItem 121 = .ok (.iaload, 1) := by decide +kernel
theorem dX7_readItem_122 : decode cX7_readItem 122 = .ok (.if_icmp .ne 31, 3) := by decide +kernel
theorem dX7_readItem_125 : decode cX7_readItem 125 = .ok (.aload_n 0, 1) := by decide +kernel
theorem dX7_readItem_126 : decode cX7_readItem 126 = .ok (.getfield 15, 3) := by decide +kernel
theorem dX7_readItem_129 : decode cX7_readItem 129 = .ok (.iconst 1, 1) := by decide +kernel
theorem dX7_readItem_130 : decode cX7_readItem 130 = .ok (.iaload, 1) := by decide +kernel
theorem dX7_readItem_131 : decode cX7_readItem 131 = .ok (.aload_n 0, 1) := by decide +kernel
theorem dX7_readItem_132 : decode cX7_readItem 132 = .ok (.getfield 15, 3) := by decide +kernel
theorem dX7_readItem_135 : decode cX7_readItem 135 = .ok (.iconst 3, 1) := by decide +kernel
theorem dX7_readItem_136 : decode cX7_readItem 136 = .ok (.iaload, 1) := by decide +kernel
theorem dX7_readItem_137 : decode cX7_readItem 137 = .ok (.if_icmp .ne 16, 3) := by decide +kernel
theorem dX7_readItem_140 : decode cX7_readItem 140 = .ok (.aload_n 0, 1) := by decide +kernel
theorem dX7_readItem_141 : decode cX7_readItem 141 = .ok (.iconst 3, 1) := by decide +kernel
theorem dX7_readItem_142 : decode cX7_readItem 142 = .ok (.aload_n 0, 1) := by decide +kernel
theorem dX7_readItem_143 : decode cX7_readItem 143 = .ok (.getfield 22, 3) := by decide +kernel
theorem dX7_readItem_146 : decode cX7_readItem 146 = .ok (.iconst 1, 1) := by decide +kernel
theorem dX7_readItem_147 : decode cX7_readItem 147 = .ok (.isub, 1) := by decide +kernel
theorem dX7_readItem_148 : decode cX7_readItem 148 = .ok (.iload_n 1, 1) := by decide +kernel
theorem dX7_readItem_149 : decode cX7_readItem 149 = .ok (.invokevirtual 50, 3) := by decide +kernel
theorem dX7_readItem_152 : decode cX7_readItem 152 = .ok (.ireturn, 1) := by decide +kernel
theorem dX7_readItem_153 : decode cX7_readItem 153 = .ok (.aload_n 2, 1) := by decide +kernel
theorem dX7_readItem_154 : decode cX7_readItem 154 = .ok (.iload_n 1, 1) := by decide +kernel
theorem dX7_readItem_155 : decode cX7_readItem 155 = .ok (.aload_n 0, 1) := by decide +kernel
theorem dX7_readItem_156 : decode cX7_readItem 156 = .ok (.getfield 15, 3) := by decide +kernel
theorem dX7_readItem_159 : decode cX7_readItem 159 = .ok (.iconst 0, 1) := by decide +kernel
theorem dX7_readItem_160 : decode cX7_readItem 160 = .ok (.iaload, 1) := by decide +kernel
theorem dX7_readItem_161 : decode cX7_readItem 161 = .ok (.aload_n 0, 1) := by decide +kernel
theorem dX7_readItem_162 : decode cX7_readItem 162 = .ok (.getfield 15, 3) := by decide +kernel
theorem dX7_readItem_165 : decode cX7_readItem 165 = .ok (.iconst 1, 1) := by decide +kernel
theorem dX7_readItem_166 : decode cX7_readItem 166 = .ok (.iaload, 1) := by decide +kernel
theorem dX7_readItem_167 : decode cX7_readItem 167 = .ok (.aload_n 0, 1) := by decide +kernel
theorem dX7_readItem_168 : decode cX7_readItem 168 = .ok (.getfield 15, 3) := by decide +kernel
theorem dX7_readItem_171 : decode cX7_readItem 171 = .ok (.iconst 2, 1) := by decide +kernel
theorem dX7_readItem_172 : decode cX7_readItem 172 = .ok (.iaload, 1) := by decide +kernel
theorem dX7_readItem_173 : decode cX7_readItem 173 = .ok (.aload_n 0, 1) := by decide +kernel
theorem dX7_readItem_174 : decode cX7_readItem 174 = .ok (.getfield 15, 3) := by decide +kernel
theorem dX7_readItem_177 : decode cX7_readItem 177 = .ok (.iconst 3, 1) := by decide +kernel
theorem dX7_readItem_178 : decode cX7_readItem 178 = .ok (.iaload, 1) := by decide +kernel
theorem dX7_readItem_179 : decode cX7_readItem 179 = .ok (.iload_n 3, 1) := by decide +kernel
theorem dX7_readItem_180 : decode cX7_readItem 180 = .ok (.iload 4, 2) := by decide +kernel
theorem dX7_readItem_182 : decode cX7_readItem 182 = .ok (.invokevirtual 58, 3) := by decide +kernel
theorem dX7_readItem_185 : decode cX7_readItem 185 = .ok (.iconst 1, 1) := by decide +kernel
theorem dX7_readItem_186 : decode cX7_readItem 186 = .ok (.ireturn, 1) := by decide +kernel
theorem dX7_readNumber_0 : decode cX7_readNumber 0 = .ok (.aload_n 0, 1) := by decide +kernel
theorem dX7_readNumber_1 : decode cX7_readNumber 1 = .ok (.getfield 22, 3) := by decide +kernel
theorem dX7_readNumber_4 : decode cX7_readNumber 4 = .ok (.istore_n 3, 1) := by decide +kernel
theorem dX7_readNumber_5 : decode cX7_readNumber 5 = .ok (.aload_n 0, 1) := by decide +kernel
theorem dX7_readNumber_6 : decode cX7_readNumber 6 = .ok (.aload_n 0, 1) := by decide +kernel
theorem dX7_readNumber_7 : decode cX7_readNumber 7 = .ok (.getfield 22, 3) := by decide +kernel
theorem dX7_readNumber_10 : decode cX7_readNumber 10 = .ok (.invokevirtual 43, 3) := by decide +kernel
theorem dX7_readNumber_13 : decode cX7_readNumber 13 = .ok (.invokestatic 62, 3) := by decide +kernel
theorem dX7_readNumber_16 : decode cX7_readNumber 16 = .ok (.ifCond .ne 14, 3) := by decide +kernel
theorem dX7_readNumber_19 : decode cX7_readNumber 19 = .ok (.aload_n 0, 1) := by decide +kernel
theorem dX7_readNumber_20 : decode cX7_readNumber 20 = .ok (.iconst 1, 1) := by decide +kernel
theorem dX7_readNumber_21 : decode cX7_readNumber 21 = .ok (.aload_n 0, 1) := by decide +kernel
theorem dX7_readNumber_22 : decode cX7_readNumber 22 = .ok (.getfield 22, 3) := by decide +kernel
theorem dX7_readNumber_25 : decode cX7_readNumber 25 = .ok (.iload_n 2, 1) := by decide +kernel
theorem dX7_readNumber_26 : decode cX7_readNumber 26 = .ok (.invokevirtual 50, 3) := by decide +kernel
theorem dX7_readNumber_29 : decode cX7_readNumber 29 = .ok (.ireturn, 1) := by decide +kernel
theorem dX7_readNumber_30 : decode cX7_readNumber 30 = .ok (.aload_n 0, 1) := by decide +kernel
theorem dX7_readNumber_31 : decode cX7_readNumber 31 = .ok (.aload_n 0, 1) := by decide +kernel
theorem dX7_readNumber_32 : decode cX7_readNumber 32 = .ok (.getfield 22, 3) := by decide +kernel
theorem dX7_readNumber_35 : decode cX7_readNumber 35 = .ok (.invokevirtual 43, 3) := by decide +kernel
theorem dX7_readNumber_38 : decode cX7_readNumber 38 = .ok (.bipush 48, 2) := by decide +kernel
theorem dX7_readNumber_40 : decode cX7_readNumber 40 = .ok (.isub, 1) := by decide +kernel
theorem dX7_readNumber_41 : decode cX7_readNumber 41 = .ok (.istore 4, 2) := by decide +kernel
theorem dX7_readNumber_43 : decode cX7_readNumber 43 = .ok (.aload_n 0, 1) := by decide +kernel
theorem dX7_readNumber_44 : decode cX7_readNumber 44 = .ok (.dup, 1) := by decide +kernel
theorem dX7_readNumber_45 : decode cX7_readNumber 45 = .ok (.getfield 22, 3) := by decide +kernel
theorem dX7_readNumber_48 : decode cX7_readNumber 48 = .ok (.iconst 1, 1) := by decide +kernel
theorem dX7_readNumber_49 : decode cX7_readNumber 49 = .ok (.iadd, 1) := by decide +kernel
theorem dX7_readNumber_50 : decode cX7_readNumber 50 = .ok (.putfield 22, 3) := by decide +kernel
theorem dX7_readNumber_53 : decode cX7_readNumber 53 = .ok (.aload_n 0, 1) := by decide +kernel
theorem dX7_readNumber_54 : decode cX7_readNumber 54 = .ok (.aload_n 0, 1) := by decide +kernel
theorem dX7_readNumber_55 : decode cX7_readNumber 55 = .ok (.getfield 22, 3) := by decide +kernel
theorem dX7_readNumber_58 : decode cX7_readNumber 58 = .ok (.invokevirtual 43, 3) := by decide +kernel
theorem dX7_readNumber_61 : decode cX7_readNumber 61 = .ok (.invokestatic 62, 3) := by decide +kernel
theorem dX7_readNumber_64 : decode cX7_readNumber 64 = .ok (.ifCond .eq 32, 3) := by decide +kernel
theorem dX7_readNumber_67 : decode cX7_readNumber 67 = .ok (.bipush 10, 2) := by decide +kernel
theorem dX7_readNumber_69 : decode cX7_readNumber 69 = .ok (.iload 4, 2) := by decide +kernel
theorem dX7_readNumber_71 : decode cX7_readNumber 71 = .ok (.imul, 1) := by decide +kernel
theorem dX7_readNumber_72 : decode cX7_readNumber 72 = .ok (.aload_n 0, 1) := by decide +kernel
theorem dX7_readNumber_73 : decode cX7_readNumber 73 = .ok (.aload_n 0, 1) := by decide +kernel
theorem dX7_readNumber_74 : decode cX7_readNumber 74 = .ok (.getfield 22, 3) := by decide +kernel
theorem dX7_readNumber_77 : decode cX7_readNumber 77 = .ok (.invokevirtual 43, 3) := by decide +kernel
theorem dX7_readNumber_80 : decode cX7_readNumber 80 = .ok (.iadd, 1) := by decide +kernel
theorem dX7_readNumber_81 : decode cX7_readNumber 81 = .ok (.bipush 48, 2) := by decide +kernel
theorem dX7_readNumber_83 : decode cX7_readNumber 83 = .ok (.isub, 1) := by decide +kernel
theorem dX7_readNumber_84 : decode cX7_readNumber 84 = .ok (.istore 4, 2) := by decide +kernel
theorem dX7_readNumber_86 : decode cX7_readNumber 86 = .ok (.aload_n 0, 1) := by decide +kernel
theorem dX7_readNumber_87 : decode cX7_readNumber 87 = .ok (.dup, 1) := by decide +kernel
theorem dX7_readNumber_88 : decode cX7_readNumber 88 = .ok (.getfield 22, 3) := by decide +kernel
theorem dX7_readNumber_91 : decode cX7_readNumber 91 = .ok (.iconst 1, 1) := by decide +kernel
theorem dX7_readNumber_92 : decode cX7_readNumber 92 = .ok (.iadd, 1) := by decide +kernel
theorem dX7_readNumber_93 : decode cX7_readNumber 93 = .ok (.putfield 22, 3) := by decide +kernel
theorem dX7_readNumber_96 : decode cX7_readNumber 96 = .ok (.iload 4, 2) := by decide +kernel
theorem dX7_readNumber_98 : decode cX7_readNumber 98 = .ok (.bipush 63, 2) := by decide +kernel
theorem dX7_readNumber_100 : decode cX7_readNumber 100 = .ok (.if_icmp .le 11, 3) := by decide +kernel
theorem dX7_readNumber_103 : decode cX7_readNumber 103 = .ok (.aload_n 0, 1) := by decide +kernel
theorem dX7_readNumber_104 : decode cX7_readNumber 104 = .ok (.iconst 2, 1) := by decide +kernel
theorem dX7_readNumber_105 : decode cX7_readNumber 105 = .ok (.iload_n 3, 1) := by decide +kernel
theorem dX7_readNumber_106 : decode cX7_readNumber 106 = .ok (.iload_n 2, 1) := by decide +kernel
theorem dX7_readNumber_107 : decode cX7_readNumber 107 = .ok (.invokevirtual 50, 3) := by decide +kernel
theorem dX7_readNumber_110 : decode cX7_readNumber 110 = .ok (.ireturn, 1) := by decide +kernel
theorem dX7_readNumber_111 : decode cX7_readNumber 111 = .ok (.aload_n 0, 1) := by decide +kernel
theorem dX7_readNumber_112 : decode cX7_readNumber 112 = .ok (.aload_n 0, 1) := by decide +kernel
theorem dX7_readNumber_113 : decode cX7_readNumber 113 = .ok (.getfield 22, 3) := by decide +kernel
theorem dX7_readNumber_116 : decode cX7_readNumber 116 = .ok (.invokevirtual 43, 3) := by decide +kernel
theorem dX7_readNumber_119 : decode cX7_readNumber 119 = .ok (.iload_n 1, 1) := by decide +kernel
theorem dX7_readNumber_120 : decode cX7_readNumber 120 = .ok (.iconst 3, 1) := by decide +kernel
theorem dX7_readNumber_121 : decode cX7_readNumber 121 = .ok (.if_icmp .ge 8, 3) := by decide +kernel
theorem dX7_readNumber_124 : decode cX7_readNumber 124 = .ok (.bipush 44, 2) := by decide +kernel
theorem dX7_readNumber_126 : decode cX7_readNumber 126 = .ok (.goto 5, 3) := by decide +kernel
theorem dX7_readNumber_129 : decode cX7_readNumber 129 = .ok (.bipush 59, 2) := by decide +kernel
theorem dX7_readNumber_131 : decode cX7_readNumber 131 = .ok (.if_icmp .eq 14, 3) := by decide +kernel
theorem dX7_readNumber_134 : decode cX7_readNumber 134 = .ok (.aload_n 0, 1) := by decide +kernel
theorem dX7_readNumber_135 : decode cX7_readNumber 135 = .ok (.iconst 1, 1) := by decide +kernel
theorem dX7_readNumber_136 : decode cX7_readNumber 136 = .ok (.aload_n 0, 1) := by decide +kernel
theorem dX7_readNumber_137 : decode cX7_readNumber 137 = .ok (.getfield 22, 3) := by decide +kernel
theorem dX7_readNumber_140 : decode cX7_readNumber 140 = .ok (.iload_n 2, 1) := by decide +kernel
theorem dX7_readNumber_141 : decode cX7_readNumber 141 = .ok (.invokevirtual 50, 3) := by decide +kernel
theorem dX7_readNumber_144 : decode cX7_readNumber 144 = .ok (.ireturn, 1) := by decide +kernel
theorem dX7_readNumber_145 : decode cX7_readNumber 145 = .ok (.aload_n 0, 1) := by decide +kernel
theorem dX7_readNumber_146 : decode cX7_readNumber 146 = .ok (.dup, 1) := by decide +kernel
theorem dX7_readNumber_147 : decode cX7_readNumber 147 = .ok (.getfield 22, 3) := by decide +kernel
theorem dX7_readNumber_150 : decode cX7_readNumber 150 = .ok (.iconst 1, 1) := by decide +kernel
theorem dX7_readNumber_151 : decode cX7_readNumber 151 = .ok (.iadd, 1) := by decide +kernel
theorem dX7_readNumber_152 : decode cX7_readNumber 152 = .ok (.putfield 22, 3) := by decide +kernel
theorem dX7_readNumber_155 : decode cX7_readNumber 155 = .ok (.iload_n 1, 1) := by decide +kernel
theorem dX7_readNumber_156 : decode cX7_readNumber 156 = .ok (.ifCond .lt 16, 3) := by decide +kernel
theorem dX7_readNumber_159 : decode cX7_readNumber 159 = .ok (.iload_n 1, 1) := by decide +kernel
theorem dX7_readNumber_160 : decode cX7_readNumber 160 = .ok (.iconst 4, 1) := by decide +kernel
theorem dX7_readNumber_161 : decode cX7_readNumber 161 = .ok (.if_icmp .ge 11, 3) := by decide +kernel
theorem dX7_readNumber_164 : decode cX7_readNumber 164 = .ok (.aload_n 0, 1) := by decide +kernel
theorem dX7_readNumber_165 : decode cX7_readNumber 165 = .ok (.getfield 15, 3) := by decide +kernel
theorem dX7_readNumber_168 : decode cX7_readNumber 168 = .ok (.iload_n 1, 1) := by decide +kernel
theorem dX7_readNumber_169 : decode cX7_readNumber 169 = .ok (.iload 4, 2) := by decide +kernel
theorem dX7_readNumber_171 : decode cX7_readNumber 171 = .ok (.iastore, 1) := by decide +kernel
theorem dX7_readNumber_172 : decode cX7_readNumber 172 = .ok (.iconst 1, 1) := by decide +kernel
theorem dX7_readNumber_173 : decode cX7_readNumber 173 = .ok (.ireturn, 1) := by decide +kernel
theorem dX7_fault_0 : decode cX7_fault 0 = .ok (.aload_n 0, 1) := by decide +kernel
theorem dX7_fault_1 : decode cX7_fault 1 = .ok (.iload_n 1, 1) := by decide +kernel
theorem dX7_fault_2 : decode cX7_fault 2 = .ok (.putfield 28, 3) := by decide +kernel
theorem dX7_fault_5 : decode cX7_fault 5 = .ok (.aload_n 0, 1) := by decide +kernel
theorem dX7_fault_6 : decode cX7_fault 6 = .ok (.iload_n 2, 1) := by decide +kernel
theorem dX7_fault_7 : decode cX7_fault 7 = .ok (.putfield 25, 3) := by decide +kernel
theorem dX7_fault_10 : decode cX7_fault 10 = .ok (.aload_n 0, 1) := by decide +kernel
theorem dX7_fault_11 : decode cX7_fault 11 = .ok (.iload_n 3, 1) := by decide +kernel
theorem dX7_fault_12 : decode cX7_fault 12 = .ok (.putfield 31, 3) := by decide +kernel
theorem dX7_fault_15 : decode cX7_fault 15 = .ok (.iconst 0, 1) := by decide +kernel
theorem dX7_fault_16 : decode cX7_fault 16 = .ok (.ireturn, 1) := by decide +kernel
theorem dX7_codeAt_0 : decode cX7_codeAt 0 = .ok (.iload_n 1, 1) := by decide +kernel
theorem dX7_codeAt_1 : decode cX7_codeAt 1 = .ok (.ifCond .lt 27, 3) := by decide +kernel
theorem dX7_codeAt_4 : decode cX7_codeAt 4 = .ok (.iload_n 1, 1) := by decide +kernel
theorem dX7_codeAt_5 : decode cX7_codeAt 5 = .ok (.aload_n 0, 1) := by decide +kernel
theorem dX7_codeAt_6 : decode cX7_codeAt 6 = .ok (.getfield 18, 3) := by decide +kernel
theorem dX7_codeAt_9 : decode cX7_codeAt 9 = .ok (.if_icmp .ge 19, 3) := by decide +kernel
theorem dX7_codeAt_12 : decode cX7_codeAt 12 = .ok (.iload_n 1, 1) := by decide +kernel
theorem dX7_codeAt_13 : decode cX7_codeAt 13 = .ok (.sipush 300, 3) := by decide +kernel
theorem dX7_codeAt_16 : decode cX7_codeAt 16 = .ok (.if_icmp .ge 12, 3) := by decide +kernel
theorem dX7_codeAt_19 : decode cX7_codeAt 19 = .ok (.aload_n 0, 1) := by decide +kernel
theorem dX7_codeAt_20 : decode cX7_codeAt 20 = .ok (.getfield 11, 3) := by decide +kernel
theorem dX7_codeAt_23 : decode cX7_codeAt 23 = .ok (.iload_n 1, 1) := by decide +kernel
theorem dX7_codeAt_24 : decode cX7_codeAt 24 = .ok (.iaload, 1) := by decide +kernel
theorem dX7_codeAt_25 : decode cX7_codeAt 25 = .ok (.goto 4, 3) := by decide +kernel
theorem dX7_codeAt_28 : decode cX7_codeAt 28 = .ok (.iconst (-1), 1) := by decide +kernel
theorem dX7_codeAt_29 : decode cX7_codeAt 29 = .ok (.ireturn, 1) := by decide +kernel
theorem dX7_isDigit_0 : decode cX7_isDigit 0 = .ok (.iload_n 0, 1) := by decide +kernel
theorem dX7_isDigit_1 : decode cX7_isDigit 1 = .ok (.bipush 48, 2) := by decide +kernel
theorem dX7_isDigit_3 : decode cX7_isDigit 3 = .ok (.if_icmp .lt 13, 3) := by decide +kernel
theorem dX7_isDigit_6 : decode cX7_isDigit 6 = .ok (.iload_n 0, 1) := by decide +kernel
theorem dX7_isDigit_7 : decode cX7_isDigit 7 = .ok (.bipush 57, 2) := by decide +kernel
theorem dX7_isDigit_9 : decode cX7_isDigit 9 = .ok (.if_icmp .gt 7, 3) := by decide +kernel
theorem dX7_isDigit_12 : decode cX7_isDigit 12 = .ok (.iconst 1, 1) := by decide +kernel
theorem dX7_isDigit_13 : decode cX7_isDigit 13 = .ok (.goto 4, 3) := by decide +kernel
theorem dX7_isDigit_16 : decode cX7_isDigit 16 = .ok (.iconst 0, 1) := by decide +kernel
theorem dX7_isDigit_17 : decode cX7_isDigit 17 = .ok (.ireturn, 1) := by decide +kernel
theorem dX7_kindOfLetter_0 : decode cX7_kindOfLetter 0 = .ok (.iload_n 0, 1) := by decide +kernel
theorem dX7_kindOfLetter_1 : decode cX7_kindOfLetter 1 = .ok (.lookupswitch 41 #[(103, 37), (111, 39), (115, 35)], 35) := by decide +kernel
theorem dX7_kindOfLetter_36 : decode cX7_kindOfLetter 36 = .ok (.iconst 0, 1) := by decide +kernel
theorem dX7_kindOfLetter_37 : decode cX7_kindOfLetter 37 = .ok (.ireturn, 1) := by decide +kernel
theorem dX7_kindOfLetter_38 : decode cX7_kindOfLetter 38 = .ok (.iconst 1, 1) := by decide +kernel
theorem dX7_kindOfLetter_39 : decode cX7_kindOfLetter 39 = .ok (.ireturn, 1) := by decide +kernel
theorem dX7_kindOfLetter_40 : decode cX7_kindOfLetter 40 = .ok (.iconst 2, 1) := by decide +kernel
theorem dX7_kindOfLetter_41 : decode cX7_kindOfLetter 41 = .ok (.ireturn, 1) := by decide +kernel
theorem dX7_kindOfLetter_42 : decode cX7_kindOfLetter 42 = .ok (.iconst (-1), 1) := by decide +kernel
theorem dX7_kindOfLetter_43 : decode cX7_kindOfLetter 43 = .ok (.ireturn, 1) := by decide +kernel
theorem dX8_init_0 : decode cX8_init 0 = .ok (.aload_n 0, 1) := by decide +kernel
theorem dX8_init_1 : decode cX8_init 1 = .ok (.invokespecial 3, 3) := by decide +kernel
theorem dX8_init_4 : decode cX8_init 4 = .ok (.aload_n 0, 1) := by decide +kernel
theorem dX8_init_5 : decode cX8_init 5 = .ok (.bipush 12, 2) := by decide +kernel
theorem dX8_init_7 : decode cX8_init 7 = .ok (.newarray .boolean, 2) := by decide +kernel
theorem dX8_init_9 : decode cX8_init 9 = .ok (.putfield 9, 3) := by decide +kernel
theorem dX8_init_12 : decode cX8_init 12 = .ok (.aload_n 0, 1) := by decide +kernel
theorem dX8_init_13 : decode cX8_init 13 = .ok (.bipush 12, 2) := by decide +kernel
theorem dX8_init_15 : decode cX8_init 15 = .ok (.newarray .boolean, 2) := by decide +kernel
theorem dX8_init_17 : decode cX8_init 17 = .ok (.putfield 15, 3) := by decide +kernel
theorem dX8_init_20 : decode cX8_init 20 = .ok (.aload_n 0, 1) := by decide +kernel
theorem dX8_init_21 : decode cX8_init 21 = .ok (.bipush 12, 2) := by decide +kernel
theorem dX8_init_23 : decode cX8_init 23 = .ok (.newarray .int, 2) := by decide +kernel
theorem dX8_init_25 : decode cX8_init 25 = .ok (.putfield 18, 3) := by decide +kernel
theorem dX8_init_28 : decode cX8_init 28 = .ok (.aload_n 0, 1) := by decide +kernel
theorem dX8_init_29 : decode cX8_init 29 = .ok (.bipush 12, 2) := by decide +kernel
theorem dX8_init_31 : decode cX8_init 31 = .ok (.newarray .int, 2) := by decide +kernel
theorem dX8_init_33 : decode cX8_init 33 = .ok (.putfield 22, 3) := by decide +kernel
theorem dX8_init_36 : decode cX8_init 36 = .ok (.aload_n 0, 1) := by decide +kernel
theorem dX8_init_37 : decode cX8_init 37 = .ok (.bipush 12, 2) := by decide +kernel
theorem dX8_init_39 : decode cX8_init 39 = .ok (.newarray .int, 2) := by decide +kernel
theorem dX8_init_41 : decode cX8_init 41 = .ok (.putfield 25, 3) := by decide +kernel
theorem dX8_init_44 : decode cX8_init 44 = .ok (.aload_n 0, 1) := by decide +kernel
theorem dX8_init_45 : decode cX8_init 45 = .ok (.bipush 12, 2) := by decide +kernel
theorem dX8_init_47 : decode cX8_init 47 = .ok (.newarray .int, 2) := by decide +kernel
theorem dX8_init_49 : decode cX8_init 49 = .ok (.putfield 28, 3) := by decide +kernel
theorem dX8_init_52 : decode cX8_init 52 = .ok (.aload_n 0, 1) := by decide +kernel
theorem dX8_init_53 : decode cX8_init 53 = .ok (.bipush 12, 2) := by decide +kernel
theorem dX8_init_55 : decode cX8_init 55 = .ok (.newarray .int, 2) := by decide +kernel
theorem dX8_init_57 : decode cX8_init 57 = .ok (.putfield 31, 3) := by decide +kernel
theorem dX8_init_60 : decode cX8_init 60 = .ok (.aload_n 0, 1) := by decide +kernel
theorem dX8_init_61 : decode cX8_init 61 = .ok (.iconst 5, 1) := by decide +kernel
theorem dX8_init_62 : decode cX8_init 62 = .ok (.putfield 34, 3) := by decide +kernel
theorem dX8_init_65 : decode cX8_init 65 = .ok (.aload_n 0, 1) := by decide +kernel
theorem dX8_init_66 : decode cX8_init 66 = .ok (.iconst 1, 1) := by decide +kernel
theorem dX8_init_67 : decode cX8_init 67 = .ok (.putfield 38, 3) := by decide +kernel
theorem dX8_init_70 : decode cX8_init 70 = .ok (.return_, 1) := by decide +kernel
theorem dX8_exists_0 : decode cX8_exists 0 = .ok (.iload_n 1, 1) := by decide +kernel
theorem dX8_exists_1 : decode cX8_exists 1 = .ok (.ifCond .lt 22, 3) := by decide +kernel
theorem dX8_exists_4 : decode cX8_exists 4 = .ok (.iload_n 1, 1) := by decide +kernel
theorem dX8_exists_5 : decode cX8_exists 5 = .ok (.bipush 12, 2) := by decide +kernel
theorem dX8_exists_7 : decode cX8_exists 7 = .ok (.if_icmp .ge 16, 3) := by decide +kernel
theorem dX8_exists_10 : decode cX8_exists 10 = .ok (.aload_n 0, 1) := by decide +kernel
theorem dX8_exists_11 : decode cX8_exists 11 = .ok (.getfield 9, 3) := by decide +kernel
theorem dX8_exists_14 : decode cX8_exists 14 = .ok (.iload_n 1, 1) := by decide +kernel
theorem dX8_exists_15 : decode cX8_exists 15 = .ok (.baload, 1) := by decide +kernel
theorem dX8_exists_16 : decode cX8_exists 16 = .ok (.ifCond .eq 7, 3) := by decide +kernel
theorem dX8_exists_19 : decode cX8_exists 19 = .ok (.iconst 1, 1) := by decide +kernel
theorem dX8_exists_20 : decode cX8_exists 20 = .ok (.goto 4, 3) := by decide +kernel
theorem dX8_exists_23 : decode cX8_exists 23 = .ok (.iconst 0, 1) := by decide +kernel
theorem dX8_exists_24 : decode cX8_exists 24 = .ok (.ireturn, 1) := by decide +kernel
theorem dX8_isFixed_0 : decode cX8_isFixed 0 = .ok (.iload_n 1, 1) := by decide +kernel
theorem dX8_isFixed_1 : decode cX8_isFixed 1 = .ok (.ifCond .lt 31, 3) := by decide +kernel
theorem dX8_isFixed_4 : decode cX8_isFixed 4 = .ok (.iload_n 1, 1) := by decide +kernel
theorem dX8_isFixed_5 : decode cX8_isFixed 5 = .ok (.bipush 12, 2) := by decide +kernel
theorem dX8_isFixed_7 : decode cX8_isFixed 7 = .ok (.if_icmp .ge 25, 3) := by decide +kernel
theorem dX8_isFixed_10 : decode cX8_isFixed 10 = .ok (.aload_n 0, 1) := by decide +kernel
theorem dX8_isFixed_11 : decode cX8_isFixed 11 = .ok (.getfield 9, 3) := by decide +kernel
theorem dX8_isFixed_14 : decode cX8_isFixed 14 = .ok (.iload_n 1, 1) := by decide +kernel
theorem dX8_isFixed_15 : decode cX8_isFixed 15 = .ok (.baload, 1) := by decide +kernel
theorem dX8_isFixed_16 : decode cX8_isFixed 16 = .ok (.ifCond .eq 16, 3) := by decide +kernel
theorem dX8_isFixed_19 : decode cX8_isFixed 19 = .ok (.aload_n 0, 1) := by decide +kernel
theorem dX8_isFixed_20 : decode cX8_isFixed 20 = .ok (.getfield 15, 3) := by decide +kernel
theorem dX8_isFixed_23 : decode cX8_isFixed 23 = .ok (.iload_n 1, 1) := by decide +kernel
theorem dX8_isFixed_24 : decode cX8_isFixed 24 = .ok (.baload, 1) := by decide +kernel
theorem dX8_isFixed_25 : decode cX8_isFixed 25 = .ok (.ifCond .ne 7, 3) := by decide +kernel
theorem dX8_isFixed_28 : decode cX8_isFixed 28 = .ok (.iconst 1, 1) := by decide +kernel
theorem dX8_isFixed_29 : decode cX8_isFixed 29 = .ok (.goto 4, 3) := by decide +kernel
theorem dX8_isFixed_32 : decode cX8_isFixed 32 = .ok (.iconst 0, 1) := by decide +kernel
theorem dX8_isFixed_33 : decode cX8_isFixed 33 = .ok (.ireturn, 1) := by decide +kernel
theorem dX8_isMovable_0 : decode cX8_isMovable 0 = .ok (.iload_n 1, 1) := by decide +kernel
theorem dX8_isMovable_1 : decode cX8_isMovable 1 = .ok (.ifCond .lt 31, 3) := by decide +kernel
theorem dX8_isMovable_4 : decode cX8_isMovable 4 = .ok (.iload_n 1, 1) := by decide +kernel
theorem dX8_isMovable_5 : decode cX8_isMovable 5 = .ok (.bipush 12, 2) := by decide +kernel
theorem dX8_isMovable_7 : decode cX8_isMovable 7 = .ok (.if_icmp .ge 25, 3) := by decide +kernel
theorem dX8_isMovable_10 : decode cX8_isMovable 10 = .ok (.aload_n 0, 1) := by decide +kernel
theorem dX8_isMovable_11 : decode cX8_isMovable 11 = .ok (.getfield 9, 3) := by decide +kernel
theorem dX8_isMovable_14 : decode cX8_isMovable 14 = .ok (.iload_n 1, 1) := by decide +kernel
theorem dX8_isMovable_15 : decode cX8_isMovable 15 = .ok (.baload, 1) := by decide +kernel
theorem dX8_isMovable_16 : decode cX8_isMovable 16 = .ok (.ifCond .eq 16, 3) := by decide +kernel
theorem dX8_isMovable_19 : decode cX8_isMovable 19 = .ok (.aload_n 0, 1) := by decide +kernel
theorem dX8_isMovable_20 : decode cX8_isMovable 20 = .ok (.getfield 15, 3) := by decide +kernel
theorem dX8_isMovable_23 : decode cX8_isMovable 23 = .ok (.iload_n 1, 1) := by decide +kernel
theorem dX8_isMovable_24 : decode cX8_isMovable 24 = .ok (.baload, 1) := by decide +kernel
theorem dX8_isMovable_25 : decode cX8_isMovable 25 = .ok (.ifCond .eq 7, 3) := by decide +kernel
theorem dX8_isMovable_28 : decode cX8_isMovable 28 = .ok (.iconst 1, 1) := by decide +kernel
theorem dX8_isMovable_29 : decode cX8_isMovable 29 = .ok (.goto 4, 3) := by decide +kernel
theorem dX8_isMovable_32 : decode cX8_isMovable 32 = .ok (.iconst 0, 1) := by decide +kernel
theorem dX8_isMovable_33 : decode cX8_isMovable 33 = .ok (.ireturn, 1) := by decide +kernel
theorem dX8_lowestFree_0 : decode cX8_lowestFree 0 = .ok (.iconst 0, 1) := by decide +kernel
theorem dX8_lowestFree_1 : decode cX8_lowestFree 1 = .ok (.istore_n 1, 1) := by decide +kernel
theorem dX8_lowestFree_2 : decode cX8_lowestFree 2 = .ok (.iload_n 1, 1) := by decide +kernel
theorem dX8_lowestFree_3 : decode cX8_lowestFree 3 = .ok (.bipush 12, 2) := by decide +kernel
theorem dX8_lowestFree_5 : decode cX8_lowestFree 5 = .ok (.if_icmp .ge 20, 3) := by decide +kernel
theorem dX8_lowestFree_8 : decode cX8_lowestFree 8 = .ok (.aload_n 0, 1) := by decide +kernel
theorem dX8_lowestFree_9 : decode cX8_lowestFree 9 = .ok (.getfield 9, 3) := by decide +kernel
theorem dX8_lowestFree_12 : decode cX8_lowestFree 12 = .ok (.iload_n 1, 1) := by decide +kernel
theorem dX8_lowestFree_13 : decode cX8_lowestFree 13 = .ok (.baload, 1) := by decide +kernel
theorem dX8_lowestFree_14 : decode cX8_lowestFree 14 = .ok (.ifCond .ne 5, 3) := by decide +kernel
theorem dX8_lowestFree_17 : decode cX8_lowestFree 17 = .ok (.iload_n 1, 1) := by decide +kernel
theorem dX8_lowestFree_18 : decode cX8_lowestFree 18 = .ok (.ireturn, 1) := by decide +kernel
theorem dX8_lowestFree_19 : decode cX8_lowestFree 19 = .ok (.iinc 1 1, 3) := by decide +kernel
theorem dX8_lowestFree_22 : decode cX8_lowestFree 22 = .ok (.goto (-20), 3) := by decide +kernel
theorem dX8_lowestFree_25 : decode cX8_lowestFree 25 = .ok (.iconst (-1), 1) := by decide +kernel
theorem dX8_lowestFree_26 : decode cX8_lowestFree 26 = .ok (.ireturn, 1) := by decide +kernel
theorem dX8_total_0 : decode cX8_total 0 = .ok (.iconst 0, 1) := by decide +kernel
theorem dX8_total_1 : decode cX8_total 1 = .ok (.istore_n 1, 1) := by decide +kernel
theorem dX8_total_2 : decode cX8_total 2 = .ok (.iconst 0, 1) := by decide +kernel
theorem dX8_total_3 : decode cX8_total 3 = .ok (.istore_n 2, 1) := by decide +kernel
theorem dX8_total_4 : decode cX8_total 4 = .ok (.iload_n 2, 1) := by decide +kernel
theorem dX8_total_5 : decode cX8_total 5 = .ok (.bipush 12, 2) := by decide +kernel
theorem dX8_total_7 : decode cX8_total 7 = .ok (.if_icmp .ge 21, 3) := by decide +kernel
theorem dX8_total_10 : decode cX8_total 10 = .ok (.aload_n 0, 1) := by decide +kernel
theorem dX8_total_11 : decode cX8_total 11 = .ok (.getfield 9, 3) := by decide +kernel
theorem dX8_total_14 : decode cX8_total 14 = .ok (.iload_n 2, 1) := by decide +kernel
theorem dX8_total_15 : decode cX8_total 15 = .ok (.baload, 1) := by decide +kernel
theorem dX8_total_16 : decode cX8_total 16 = .ok (.ifCond .eq 6, 3) := by decide +kernel
theorem dX8_total_19 : decode cX8_total 19 = .ok (.iinc 1 1, 3) := by decide +kernel
theorem dX8_total_22 : decode cX8_total 22 = .ok (.iinc 2 1, 3) := by decide +kernel
theorem dX8_total_25 : decode cX8_total 25 = .ok (.goto (-21), 3) := by decide +kernel
theorem dX8_total_28 : decode cX8_total 28 = .ok (.iload_n 1, 1) := by decide +kernel
theorem dX8_total_29 : decode cX8_total 29 = .ok (.ireturn, 1) := by decide +kernel
theorem dX8_fixedTotal_0 : decode cX8_fixedTotal 0 = .ok (.iconst 0, 1) := by decide +kernel
theorem dX8_fixedTotal_1 : decode cX8_fixedTotal 1 = .ok (.istore_n 1, 1) := by decide +kernel
theorem dX8_fixedTotal_2 : decode cX8_fixedTotal 2 = .ok (.iconst 0, 1) := by decide +kernel
theorem dX8_fixedTotal_3 : decode cX8_fixedTotal 3 = .ok (.istore_n 2, 1) := by decide +kernel
theorem dX8_fixedTotal_4 : decode cX8_fixedTotal 4 = .ok (.iload_n 2, 1) := by decide +kernel
theorem dX8_fixedTotal_5 : decode cX8_fixedTotal 5 = .ok (.bipush 12, 2) := by decide +kernel
theorem dX8_fixedTotal_7 : decode cX8_fixedTotal 7 = .ok (.if_icmp .ge 20, 3) := by decide +kernel
theorem dX8_fixedTotal_10 : decode cX8_fixedTotal 10 = .ok (.aload_n 0, 1) := by decide +kernel
theorem dX8_fixedTotal_11 : decode cX8_fixedTotal 11 = .ok (.iload_n 2, 1) := by decide +kernel
theorem dX8_fixedTotal_12 : decode cX8_fixedTotal 12 = .ok (.invokevirtual 41, 3) := by decide +kernel
theorem dX8_fixedTotal_15 : decode cX8_fixedTotal 15 = .ok (.ifCond .eq 6, 3) := by decide +kernel
theorem dX8_fixedTotal_18 : decode cX8_fixedTotal 18 = .ok (.iinc 1 1, 3) := by decide +kernel
theorem dX8_fixedTotal_21 : decode cX8_fixedTotal 21 = .ok (.iinc 2 1, 3) := by decide +kernel
theorem dX8_fixedTotal_24 : decode cX8_fixedTotal 24 = .ok (.goto (-20), 3) := by decide +kernel
theorem dX8_fixedTotal_27 : decode cX8_fixedTotal 27 = .ok (.iload_n 1, 1) := by decide +kernel
theorem dX8_fixedTotal_28 : decode cX8_fixedTotal 28 = .ok (.ireturn, 1) := by decide +kernel
theorem dX8_startX_0 : decode cX8_startX 0 = .ok (.iload_n 1, 1) := by decide +kernel
theorem dX8_startX_1 : decode cX8_startX 1 = .ok (.ifCond .lt 18, 3) := by decide +kernel
theorem dX8_startX_4 : decode cX8_startX 4 = .ok (.iload_n 1, 1) := by decide +kernel
theorem dX8_startX_5 : decode cX8_startX 5 = .ok (.bipush 12, 2) := by decide +kernel
theorem dX8_startX_7 : decode cX8_startX 7 = .ok (.if_icmp .ge 12, 3) := by decide +kernel
theorem dX8_startX_10 : decode cX8_startX 10 = .ok (.aload_n 0, 1) := by decide +kernel
theorem dX8_startX_11 : decode cX8_startX 11 = .ok (.getfield 18, 3) := by decide +kernel
theorem dX8_startX_14 : decode cX8_startX 14 = .ok (.iload_n 1, 1) := by decide +kernel
theorem dX8_startX_15 : decode cX8_startX 15 = .ok (.iaload, 1) := by decide +kernel
theorem dX8_startX_16 : decode cX8_startX 16 = .ok (.goto 4, 3) := by decide +kernel
theorem dX8_startX_19 : decode cX8_startX 19 = .ok (.iconst 0, 1) := by decide +kernel
theorem dX8_startX_20 : decode cX8_startX 20 = .ok (.ireturn, 1) := by decide +kernel
theorem dX8_startY_0 : decode cX8_startY 0 = .ok (.iload_n 1, 1) := by decide +kernel
theorem dX8_startY_1 : decode cX8_startY 1 = .ok (.ifCond .lt 18, 3) := by decide +kernel
theorem dX8_startY_4 : decode cX8_startY 4 = .ok (.iload_n 1, 1) := by decide +kernel
theorem dX8_startY_5 : decode cX8_startY 5 = .ok (.bipush 12, 2) := by decide +kernel
theorem dX8_startY_7 : decode cX8_startY 7 = .ok (.if_icmp .ge 12, 3) := by decide +kernel
theorem dX8_startY_10 : decode cX8_startY 10 = .ok (.aload_n 0, 1) := by decide +kernel
theorem dX8_startY_11 : decode cX8_startY 11 = .ok (.getfield 22, 3) := by decide +kernel
theorem dX8_startY_14 : decode cX8_startY 14 = .ok (.iload_n 1, 1) := by decide +kernel
theorem dX8_startY_15 : decode cX8_startY 15 = .ok (.iaload, 1) := by decide +kernel
theorem dX8_startY_16 : decode cX8_startY 16 = .ok (.goto 4, 3) := by decide +kernel
theorem dX8_startY_19 : decode cX8_startY 19 = .ok (.iconst 0, 1) := by decide +kernel
theorem dX8_startY_20 : decode cX8_startY 20 = .ok (.ireturn, 1) := by decide +kernel
theorem dX8_endX_0 : decode cX8_endX 0 = .ok (.iload_n 1, 1) := by decide +kernel
theorem dX8_endX_1 : decode cX8_endX 1 = .ok (.ifCond .lt 18, 3) := by decide +kernel
theorem dX8_endX_4 : decode cX8_endX 4 = .ok (.iload_n 1, 1) := by decide +kernel
theorem dX8_endX_5 : decode cX8_endX 5 = .ok (.bipush 12, 2) := by decide +kernel
theorem dX8_endX_7 : decode cX8_endX 7 = .ok (.if_icmp .ge 12, 3) := by decide +kernel
theorem dX8_endX_10 : decode cX8_endX 10 = .ok (.aload_n 0, 1) := by decide +kernel
theorem dX8_endX_11 : decode cX8_endX 11 = .ok (.getfield 25, 3) := by decide +kernel
theorem dX8_endX_14 : decode cX8_endX 14 = .ok (.iload_n 1, 1) := by decide +kernel
theorem dX8_endX_15 : decode cX8_endX 15 = .ok (.iaload, 1) := by decide +kernel
theorem dX8_endX_16 : decode cX8_endX 16 = .ok (.goto 4, 3) := by decide +kernel
theorem dX8_endX_19 : decode cX8_endX 19 = .ok (.iconst 0, 1) := by decide +kernel
theorem dX8_endX_20 : decode cX8_endX 20 = .ok (.ireturn, 1) := by decide +kernel
theorem dX8_endY_0 : decode cX8_endY 0 = .ok (.iload_n 1, 1) := by decide +kernel
theorem dX8_endY_1 : decode cX8_endY 1 = .ok (.ifCond .lt 18, 3) := by decide +kernel
theorem dX8_endY_4 : decode cX8_endY 4 = .ok (.iload_n 1, 1) := by decide +kernel
theorem dX8_endY_5 : decode cX8_endY 5 = .ok (.bipush 12, 2) := by decide +kernel
theorem dX8_endY_7 : decode cX8_endY 7 = .ok (.if_icmp .ge 12, 3) := by decide +kernel
theorem dX8_endY_10 : decode cX8_endY 10 = .ok (.aload_n 0, 1) := by decide +kernel
theorem dX8_endY_11 : decode cX8_endY 11 = .ok (.getfield 28, 3) := by decide +kernel
theorem dX8_endY_14 : decode cX8_endY 14 = .ok (.iload_n 1, 1) := by decide +kernel
theorem dX8_endY_15 : decode cX8_endY 15 = .ok (.iaload, 1) := by decide +kernel
theorem dX8_endY_16 : decode cX8_endY 16 = .ok (.goto 4, 3) := by decide +kernel
theorem dX8_endY_19 : decode cX8_endY 19 = .ok (.iconst 0, 1) := by decide +kernel
theorem dX8_endY_20 : decode cX8_endY 20 = .ok (.ireturn, 1) := by decide +kernel
theorem dX8_kindOf_0 : decode cX8_kindOf 0 = .ok (.iload_n 1, 1) := by decide +kernel
theorem dX8_kindOf_1 : decode cX8_kindOf 1 = .ok (.ifCond .lt 18, 3) := by decide +kernel
theorem dX8_kindOf_4 : decode cX8_kindOf 4 = .ok (.iload_n 1, 1) := by decide +kernel
theorem dX8_kindOf_5 : decode cX8_kindOf 5 = .ok (.bipush 12, 2) := by decide +kernel
theorem dX8_kindOf_7 : decode cX8_kindOf 7 = .ok (.if_icmp .ge 12, 3) := by decide +kernel
theorem dX8_kindOf_10 : decode cX8_kindOf 10 = .ok (.aload_n 0, 1) := by decide +kernel
theorem dX8_kindOf_11 : decode cX8_kindOf 11 = .ok (.getfield 31, 3) := by decide +kernel
theorem dX8_kindOf_14 : decode cX8_kindOf 14 = .ok (.iload_n 1, 1) := by decide +kernel
theorem dX8_kindOf_15 : decode cX8_kindOf 15 = .ok (.iaload, 1) := by decide +kernel
theorem dX8_kindOf_16 : decode cX8_kindOf 16 = .ok (.goto 4, 3) := by decide +kernel
theorem dX8_kindOf_19 : decode cX8_kindOf 19 = .ok (.iconst 0, 1) := by decide +kernel
theorem dX8_kindOf_20 : decode cX8_kindOf 20 = .ok (.ireturn, 1) := by decide +kernel
theorem dX8_splitWeight_0 : decode cX8_splitWeight 0 = .ok (.aload_n 0, 1) := by decide +kernel
theorem dX8_splitWeight_1 : decode cX8_splitWeight 1 = .ok (.getfield 34, 3) := by decide +kernel
theorem dX8_splitWeight_4 : decode cX8_splitWeight 4 = .ok (.ireturn, 1) := by decide +kernel
theorem dX8_balanceWeight_0 : decode cX8_balanceWeight 0 = .ok (.aload_n 0, 1) := by decide +kernel
theorem dX8_balanceWeight_1 : decode cX8_balanceWeight 1 = .ok (.getfield 38, 3) := by decide +kernel
theorem dX8_balanceWeight_4 : decode cX8_balanceWeight 4 = .ok (.ireturn, 1) := by decide +kernel
theorem dX8_weightCode_0 : decode cX8_weightCode 0 = .ok (.bipush 10, 2) := by decide +kernel
theorem dX8_weightCode_2 : decode cX8_weightCode 2 = .ok (.aload_n 0, 1) := by decide +kernel
theorem dX8_weightCode_3 : decode cX8_weightCode 3 = .ok (.getfield 34, 3) := by decide +kernel
theorem dX8_weightCode_6 : decode cX8_weightCode 6 = .ok (.imul, 1) := by decide +kernel
theorem dX8_weightCode_7 : decode cX8_weightCode 7 = .ok (.aload_n 0, 1) := by decide +kernel
theorem dX8_weightCode_8 : decode cX8_weightCode 8 = .ok (.getfield 38, 3) := by decide +kernel
theorem dX8_weightCode_11 : decode cX8_weightCode 11 = .ok (.iadd, 1) := by decide +kernel
theorem dX8_weightCode_12 : decode cX8_weightCode 12 = .ok (.ireturn, 1) := by decide +kernel
theorem dX8_wayX_0 : decode cX8_wayX 0 = .ok (.iload_n 1, 1) := by decide +kernel
theorem dX8_wayX_1 : decode cX8_wayX 1 = .ok (.ifCond .lt 25, 3) := by decide +kernel
theorem dX8_wayX_4 : decode cX8_wayX 4 = .ok (.iload_n 1, 1) := by decide +kernel
theorem dX8_wayX_5 : decode cX8_wayX 5 = .ok (.bipush 12, 2) := by decide +kernel
theorem dX8_wayX_7 : decode cX8_wayX 7 = .ok (.if_icmp .ge 19, 3) := by decide +kernel
theorem dX8_wayX_10 : decode cX8_wayX 10 = .ok (.aload_n 0, 1) := by decide +kernel
theorem dX8_wayX_11 : decode cX8_wayX 11 = .ok (.getfield 25, 3) := by decide +kernel
theorem dX8_wayX_14 : decode cX8_wayX 14 = .ok (.iload_n 1, 1) := by decide +kernel
theorem dX8_wayX_15 : decode cX8_wayX 15 = .ok (.iaload, 1) := by decide +kernel
theorem dX8_wayX_16 : decode cX8_wayX 16 = .ok (.aload_n 0, 1) := by decide +kernel
theorem dX8_wayX_17 : decode cX8_wayX 17 = .ok (.getfield 18, 3) := by decide +kernel
theorem dX8_wayX_20 : decode cX8_wayX 20 = .ok (.iload_n 1, 1) := by decide +kernel
theorem dX8_wayX_21 : decode cX8_wayX 21 = .ok (.iaload, 1) := by decide +kernel
theorem dX8_wayX_22 : decode cX8_wayX 22 = .ok (.isub, 1) := by decide +kernel
theorem dX8_wayX_23 : decode cX8_wayX 23 = .ok (.goto 4, 3) := by decide +kernel
theorem dX8_wayX_26 : decode cX8_wayX 26 = .ok (.iconst 0, 1) := by decide +kernel
theorem dX8_wayX_27 : decode cX8_wayX 27 = .ok (.ireturn, 1) := by decide +kernel
theorem dX8_wayY_0 : decode cX8_wayY 0 = .ok (.iload_n 1, 1) := by decide +kernel
theorem dX8_wayY_1 : decode cX8_wayY 1 = .ok (.ifCond .lt 25, 3) := by decide +kernel
theorem dX8_wayY_4 : decode cX8_wayY 4 = .ok (.iload_n 1, 1) := by decide +kernel
theorem dX8_wayY_5 : decode cX8_wayY 5 = .ok (.bipush 12, 2) := by decide +kernel
theorem dX8_wayY_7 : decode cX8_wayY 7 = .ok (.if_icmp .ge 19, 3) := by decide +kernel
theorem dX8_wayY_10 : decode cX8_wayY 10 = .ok (.aload_n 0, 1) := by decide +kernel
theorem dX8_wayY_11 : decode cX8_wayY 11 = .ok (.getfield 28, 3) := by decide +kernel
theorem dX8_wayY_14 : decode cX8_wayY 14 = .ok (.iload_n 1, 1) := by decide +kernel
theorem dX8_wayY_15 : decode cX8_wayY 15 = .ok (.iaload, 1) := by decide +kernel
theorem dX8_wayY_16 : decode cX8_wayY 16 = .ok (.aload_n 0, 1) := by decide +kernel
theorem dX8_wayY_17 : decode cX8_wayY 17 = .ok (.getfield 22, 3) := by decide +kernel
theorem dX8_wayY_20 : decode cX8_wayY 20 = .ok (.iload_n 1, 1) := by decide +kernel
theorem dX8_wayY_21 : decode cX8_wayY 21 = .ok (.iaload, 1) := by decide +kernel
theorem dX8_wayY_22 : decode cX8_wayY 22 = .ok (.isub, 1) := by decide +kernel
theorem dX8_wayY_23 : decode cX8_wayY 23 = .ok (.goto 4, 3) := by decide +kernel
theorem dX8_wayY_26 : decode cX8_wayY 26 = .ok (.iconst 0, 1) := by decide +kernel
theorem dX8_wayY_27 : decode cX8_wayY 27 = .ok (.ireturn, 1) := by decide +kernel
theorem dX8_squaredLength_0 : decode cX8_squaredLength 0 = .ok (.aload_n 0, 1) := by decide +kernel
theorem dX8_squaredLength_1 : decode cX8_squaredLength 1 = .ok (.iload_n 1, 1) := by decide +kernel
theorem dX8_squaredLength_2 : decode cX8_squaredLength 2 = .ok (.invokevirtual 45, 3) := by decide +kernel
theorem dX8_squaredLength_5 : decode cX8_squaredLength 5 = .ok (.aload_n 0, 1) := by decide +kernel
theorem dX8_squaredLength_6 : decode cX8_squaredLength 6 = .ok (.iload_n 1, 1) := by decide +kernel
theorem dX8_squaredLength_7 : decode cX8_squaredLength 7 = .ok (.invokevirtual 45, 3) := by decide +kernel
theorem dX8_squaredLength_10 : decode cX8_squaredLength 10 = .ok (.imul, 1) := by decide +kernel
theorem dX8_squaredLength_11 : decode cX8_squaredLength 11 = .ok (.aload_n 0, 1) := by decide +kernel
theorem dX8_squaredLength_12 : decode cX8_squaredLength 12 = .ok (.iload_n 1, 1) := by decide +kernel
theorem dX8_squaredLength_13 : decode cX8_squaredLength 13 = .ok (.invokevirtual 49, 3) := by decide +kernel
theorem dX8_squaredLength_16 : decode cX8_squaredLength 16 = .ok (.aload_n 0, 1) := by decide +kernel
theorem dX8_squaredLength_17 : decode cX8_squaredLength 17 = .ok (.iload_n 1, 1) := by decide +kernel
theorem dX8_squaredLength_18 : decode cX8_squaredLength 18 = .ok (.invokevirtual 49, 3) := by decide +kernel
theorem dX8_squaredLength_21 : decode cX8_squaredLength 21 = .ok (.imul, 1) := by decide +kernel
theorem dX8_squaredLength_22 : decode cX8_squaredLength 22 = .ok (.iadd, 1) := by decide +kernel
theorem dX8_squaredLength_23 : decode cX8_squaredLength 23 = .ok (.ireturn, 1) := by decide +kernel
theorem dX8_sideValue_0 : decode cX8_sideValue 0 = .ok (.iload_n 1, 1) := by decide +kernel
theorem dX8_sideValue_1 : decode cX8_sideValue 1 = .ok (.ifCond .lt 9, 3) := by decide +kernel
theorem dX8_sideValue_4 : decode cX8_sideValue 4 = .ok (.iload_n 1, 1) := by decide +kernel
theorem dX8_sideValue_5 : decode cX8_sideValue 5 = .ok (.bipush 12, 2) := by decide +kernel
theorem dX8_sideValue_7 : decode cX8_sideValue 7 = .ok (.if_icmp .lt 5, 3) := by decide +kernel
theorem dX8_sideValue_10 : decode cX8_sideValue 10 = .ok (.iconst 0, 1) := by decide +kernel
theorem dX8_sideValue_11 : decode cX8_sideValue 11 = .ok (.ireturn, 1) := by decide +kernel
theorem dX8_sideValue_12 : decode cX8_sideValue 12 = .ok (.aload_n 0, 1) := by decide +kernel
theorem dX8_sideValue_13 : decode cX8_sideValue 13 = .ok (.getfield 25, 3) := by decide +kernel
theorem dX8_sideValue_16 : decode cX8_sideValue 16 = .ok (.iload_n 1, 1) := by decide +kernel
theorem dX8_sideValue_17 : decode cX8_sideValue 17 = .ok (.iaload, 1) := by decide +kernel
theorem dX8_sideValue_18 : decode cX8_sideValue 18 = .ok (.aload_n 0, 1) := by decide +kernel
theorem dX8_sideValue_19 : decode cX8_sideValue 19 = .ok (.getfield 18, 3) := by decide +kernel
theorem dX8_sideValue_22 : decode cX8_sideValue 22 = .ok (.iload_n 1, 1) := by decide +kernel
theorem dX8_sideValue_23 : decode cX8_sideValue 23 = .ok (.iaload, 1) := by decide +kernel
theorem dX8_sideValue_24 : decode cX8_sideValue 24 = .ok (.isub, 1) := by decide +kernel
theorem dX8_sideValue_25 : decode cX8_sideValue 25 = .ok (.iload_n 3, 1) := by decide +kernel
theorem dX8_sideValue_26 : decode cX8_sideValue 26 = .ok (.aload_n 0, 1) := by decide +kernel
theorem dX8_sideValue_27 : decode cX8_sideValue 27 = .ok (.getfield 22, 3) := by decide +kernel
theorem dX8_sideValue_30 : decode cX8_sideValue 30 = .ok (.iload_n 1, 1) := by decide +kernel
theorem dX8_sideValue_31 : decode cX8_sideValue 31 = .ok (.iaload, 1) := by decide +kernel
theorem dX8_sideValue_32 : decode cX8_sideValue 32 = .ok (.isub, 1) := by decide +kernel
theorem dX8_sideValue_33 : decode cX8_sideValue 33 = .ok (.imul, 1) := by decide +kernel
theorem dX8_sideValue_34 : decode cX8_sideValue 34 = .ok (.aload_n 0, 1) := by decide +kernel
theorem dX8_sideValue_35 : decode cX8_sideValue 35 = .ok (.getfield 28, 3) := by decide +kernel
theorem dX8_sideValue_38 : decode cX8_sideValue 38 = .ok (.iload_n 1, 1) := by decide +kernel
theorem dX8_sideValue_39 : decode cX8_sideValue 39 = .ok (.iaload, 1) := by decide +kernel
theorem dX8_sideValue_40 : decode cX8_sideValue 40 = .ok (.aload_n 0, 1) := by decide +kernel
theorem dX8_sideValue_41 : decode cX8_sideValue 41 = .ok (.getfield 22, 3) := by decide +kernel
theorem dX8_sideValue_44 : decode cX8_sideValue 44 = .ok (.iload_n 1, 1) := by decide +kernel
theorem dX8_sideValue_45 : decode cX8_sideValue 45 = .ok (.iaload, 1) := by decide +kernel
theorem dX8_sideValue_46 : decode cX8_sideValue 46 = .ok (.isub, 1) := by decide +kernel
theorem dX8_sideValue_47 : decode cX8_sideValue 47 = .ok (.iload_n 2, 1) := by decide +kernel
theorem dX8_sideValue_48 : decode cX8_sideValue 48 = .ok (.aload_n 0, 1) := by decide +kernel
theorem dX8_sideValue_49 : decode cX8_sideValue 49 = .ok (.getfield 18, 3) := by decide +kernel
theorem dX8_sideValue_52 : decode cX8_sideValue 52 = .ok (.iload_n 1, 1) := by decide +kernel
theorem dX8_sideValue_53 : decode cX8_sideValue 53 = .ok (.iaload, 1) := by decide +kernel
theorem dX8_sideValue_54 : decode cX8_sideValue 54 = .ok (.isub, 1) := by decide +kernel
theorem dX8_sideValue_55 : decode cX8_sideValue 55 = .ok (.imul, 1) := by decide +kernel
theorem dX8_sideValue_56 : decode cX8_sideValue 56 = .ok (.isub, 1) := by decide +kernel
theorem dX8_sideValue_57 : decode cX8_sideValue 57 = .ok (.ireturn, 1) := by decide +kernel
theorem dX8_isOpaqueFor_0 : decode cX8_isOpaqueFor 0 = .ok (.aload_n 0, 1) := by decide +kernel
theorem dX8_isOpaqueFor_1 : decode cX8_isOpaqueFor 1 = .ok (.iload_n 1, 1) := by decide +kernel
theorem dX8_isOpaqueFor_2 : decode cX8_isOpaqueFor 2 = .ok (.invokevirtual 52, 3) := by decide +kernel
theorem dX8_isOpaqueFor_5 : decode cX8_isOpaqueFor 5 = .ok (.ifCond .eq 12, 3) := by decide +kernel
theorem dX8_isOpaqueFor_8 : decode cX8_isOpaqueFor 8 = .ok (.aload_n 0, 1) := by decide +kernel
theorem dX8_isOpaqueFor_9 : decode cX8_isOpaqueFor 9 = .ok (.iload_n 1, 1) := by decide +kernel
theorem dX8_isOpaqueFor_10 : decode cX8_isOpaqueFor 10 = .ok (.invokevirtual 55, 3) := by decide +kernel
theorem dX8_isOpaqueFor_13 : decode cX8_isOpaqueFor 13 = .ok (.iconst 1, 1) := by decide +kernel
theorem dX8_isOpaqueFor_14 : decode cX8_isOpaqueFor 14 = .ok (.if_icmp .ne 5, 3) := by decide +kernel
theorem dX8_isOpaqueFor_17 : decode cX8_isOpaqueFor 17 = .ok (.iconst 0, 1) := by decide +kernel
theorem dX8_isOpaqueFor_18 : decode cX8_isOpaqueFor 18 = .ok (.ireturn, 1) := by decide +kernel
theorem dX8_isOpaqueFor_19 : decode cX8_isOpaqueFor 19 = .ok (.aload_n 0, 1) := by decide +kernel
theorem dX8_isOpaqueFor_20 : decode cX8_isOpaqueFor 20 = .ok (.iload_n 1, 1) := by decide +kernel
theorem dX8_isOpaqueFor_21 : decode cX8_isOpaqueFor 21 = .ok (.invokevirtual 55, 3) := by decide +kernel
theorem dX8_isOpaqueFor_24 : decode cX8_isOpaqueFor 24 = .ok (.ifCond .eq 13, 3) := by decide +kernel
theorem dX8_isOpaqueFor_27 : decode cX8_isOpaqueFor 27 = .ok (.aload_n 0, 1) := by decide +kernel
theorem dX8_isOpaqueFor_28 : decode cX8_isOpaqueFor 28 = .ok (.iload_n 1, 1) := by decide +kernel
theorem dX8_isOpaqueFor_29 : decode cX8_isOpaqueFor 29 = .ok (.iload_n 2, 1) := by decide +kernel
theorem dX8_isOpaqueFor_30 : decode cX8_isOpaqueFor 30 = .ok (.iload_n 3, 1) := by decide +kernel
theorem dX8_isOpaqueFor_31 : decode cX8_isOpaqueFor 31 = .ok (.invokevirtual 58, 3) := by decide +kernel
theorem dX8_isOpaqueFor_34 : decode cX8_isOpaqueFor 34 = .ok (.ifCond .le 7, 3) := by decide +kernel
theorem dX8_isOpaqueFor_37 : decode cX8_isOpaqueFor 37 = .ok (.iconst 1, 1) := by decide +kernel
theorem dX8_isOpaqueFor_38 : decode cX8_isOpaqueFor 38 = .ok (.goto 4, 3) := by decide +kernel
theorem dX8_isOpaqueFor_41 : decode cX8_isOpaqueFor 41 = .ok (.iconst 0, 1) := by decide +kernel
theorem dX8_isOpaqueFor_42 : decode cX8_isOpaqueFor 42 = .ok (.ireturn, 1) := by decide +kernel
theorem dX8_isDrawnFor_0 : decode cX8_isDrawnFor 0 = .ok (.aload_n 0, 1) := by decide +kernel
theorem dX8_isDrawnFor_1 : decode cX8_isDrawnFor 1 = .ok (.iload_n 1, 1) := by decide +kernel
theorem dX8_isDrawnFor_2 : decode cX8_isDrawnFor 2 = .ok (.invokevirtual 52, 3) := by decide +kernel
theorem dX8_isDrawnFor_5 : decode cX8_isDrawnFor 5 = .ok (.ifCond .ne 5, 3) := by decide +kernel
theorem dX8_isDrawnFor_8 : decode cX8_isDrawnFor 8 = .ok (.iconst 0, 1) := by decide +kernel
theorem dX8_isDrawnFor_9 : decode cX8_isDrawnFor 9 = .ok (.ireturn, 1) := by decide +kernel
theorem dX8_isDrawnFor_10 : decode cX8_isDrawnFor 10 = .ok (.aload_n 0, 1) := by decide +kernel
theorem dX8_isDrawnFor_11 : decode cX8_isDrawnFor 11 = .ok (.iload_n 1, 1) := by decide +kernel
theorem dX8_isDrawnFor_12 : decode cX8_isDrawnFor 12 = .ok (.iload_n 2, 1) := by decide +kernel
theorem dX8_isDrawnFor_13 : decode cX8_isDrawnFor 13 = .ok (.iload_n 3, 1) := by decide +kernel
theorem dX8_isDrawnFor_14 : decode cX8_isDrawnFor 14 = .ok (.invokevirtual 58, 3) := by decide +kernel
theorem dX8_isDrawnFor_17 : decode cX8_isDrawnFor 17 = .ok (.istore 4, 2) := by decide +kernel
theorem dX8_isDrawnFor_19 : decode cX8_isDrawnFor 19 = .ok (.iload 4, 2) := by decide +kernel
theorem dX8_isDrawnFor_21 : decode cX8_isDrawnFor 21 = .ok (.ifCond .gt 17, 3) := by decide +kernel
theorem dX8_isDrawnFor_24 : decode cX8_isDrawnFor 24 = .ok (.iload 4, 2) := by decide +kernel
theorem dX8_isDrawnFor_26 : decode cX8_isDrawnFor 26 = .ok (.ifCond .ge 16, 3) := by decide +kernel
theorem dX8_isDrawnFor_29 : decode cX8_isDrawnFor 29 = .ok (.aload_n 0, 1) := by decide +kernel
theorem dX8_isDrawnFor_30 : decode cX8_isDrawnFor 30 = .ok (.iload_n 1, 1) := by decide +kernel
theorem dX8_isDrawnFor_31 : decode cX8_isDrawnFor 31 = .ok (.invokevirtual 55, 3) := by decide +kernel
theorem dX8_isDrawnFor_34 : decode cX8_isDrawnFor 34 = .ok (.iconst 2, 1) := by decide +kernel
theorem dX8_isDrawnFor_35 : decode cX8_isDrawnFor 35 = .ok (.if_icmp .eq 7, 3) := by decide +kernel
theorem dX8_isDrawnFor_38 : decode cX8_isDrawnFor 38 = .ok (.iconst 1, 1) := by decide +kernel
theorem dX8_isDrawnFor_39 : decode cX8_isDrawnFor 39 = .ok (.goto 4, 3) := by decide +kernel
theorem dX8_isDrawnFor_42 : decode cX8_isDrawnFor 42 = .ok (.iconst 0, 1) := by decide +kernel
theorem dX8_isDrawnFor_43 : decode cX8_isDrawnFor 43 = .ok (.ireturn, 1) := by decide +kernel
theorem dX8_put_0 : decode cX8_put 0 = .ok (.iload_n 1, 1) := by decide +kernel
theorem dX8_put_1 : decode cX8_put 1 = .ok (.ifCond .lt 9, 3) := by decide +kernel
theorem dX8_put_4 : decode cX8_put 4 = .ok (.iload_n 1, 1) := by decide +kernel
theorem dX8_put_5 : decode cX8_put 5 = .ok (.bipush 12, 2) := by decide +kernel
theorem dX8_put_7 : decode cX8_put 7 = .ok (.if_icmp .lt 4, 3) := by decide +kernel
theorem dX8_put_10 : decode cX8_put 10 = .ok (.return_, 1) := by decide +kernel
theorem dX8_put_11 : decode cX8_put 11 = .ok (.aload_n 0, 1) := by decide +kernel
theorem dX8_put_12 : decode cX8_put 12 = .ok (.getfield 9, 3) := by decide +kernel
theorem dX8_put_15 : decode cX8_put 15 = .ok (.iload_n 1, 1) := by decide +kernel
theorem dX8_put_16 : decode cX8_put 16 = .ok (.iconst 1, 1) := by decide +kernel
theorem dX8_put_17 : decode cX8_put 17 = .ok (.bastore, 1) := by decide +kernel
theorem dX8_put_18 : decode cX8_put 18 = .ok (.aload_n 0, 1) := by decide +kernel
theorem dX8_put_19 : decode cX8_put 19 = .ok (.getfield 15, 3) := by decide +kernel
theorem dX8_put_22 : decode cX8_put 22 = .ok (.iload_n 1, 1) := by decide +kernel
theorem dX8_put_23 : decode cX8_put 23 = .ok (.iload 7, 2) := by decide +kernel
theorem dX8_put_25 : decode cX8_put 25 = .ok (.iconst 1, 1) := by decide +kernel
theorem dX8_put_26 : decode cX8_put 26 = .ok (.if_icmp .ne 7, 3) := by decide +kernel
theorem dX8_put_29 : decode cX8_put 29 = .ok (.iconst 1, 1) := by decide +kernel
theorem dX8_put_30 : decode cX8_put 30 = .ok (.goto 4, 3) := by decide +kernel
theorem dX8_put_33 : decode cX8_put 33 = .ok (.iconst 0, 1) := by decide +kernel
theorem dX8_put_34 : decode cX8_put 34 = .ok (.bastore, 1) := by decide +kernel
theorem dX8_put_35 : decode cX8_put 35 = .ok (.aload_n 0, 1) := by decide +kernel
theorem dX8_put_36 : decode cX8_put 36 = .ok (.getfield 18, 3) := by decide +kernel
theorem dX8_put_39 : decode cX8_put 39 = .ok (.iload_n 1, 1) := by decide +kernel
theorem dX8_put_40 : decode cX8_put 40 = .ok (.iload_n 2, 1) := by decide +kernel
theorem dX8_put_41 : decode cX8_put 41 = .ok (.iastore, 1) := by decide +kernel
theorem dX8_put_42 : decode cX8_put 42 = .ok (.aload_n 0, 1) := by decide +kernel
theorem dX8_put_43 : decode cX8_put 43 = .ok (.getfield 22, 3) := by decide +kernel
theorem dX8_put_46 : decode cX8_put 46 = .ok (.iload_n 1, 1) := by decide +kernel
theorem dX8_put_47 : decode cX8_put 47 = .ok (.iload_n 3, 1) := by decide +kernel
theorem dX8_put_48 : decode cX8_put 48 = .ok (.iastore, 1) := by decide +kernel
theorem dX8_put_49 : decode cX8_put 49 = .ok (.aload_n 0, 1) := by decide +kernel
theorem dX8_put_50 : decode cX8_put 50 = .ok (.getfield 25, 3) := by decide +kernel
theorem dX8_put_53 : decode cX8_put 53 = .ok (.iload_n 1, 1) := by decide +kernel
theorem dX8_put_54 : decode cX8_put 54 = .ok (.iload 4, 2) := by decide +kernel
theorem dX8_put_56 : decode cX8_put 56 = .ok (.iastore, 1) := by decide +kernel
theorem dX8_put_57 : decode cX8_put 57 = .ok (.aload_n 0, 1) := by decide +kernel
theorem dX8_put_58 : decode cX8_put 58 = .ok (.getfield 28, 3) := by decide +kernel
theorem dX8_put_61 : decode cX8_put 61 = .ok (.iload_n 1, 1) := by decide +kernel
theorem dX8_put_62 : decode cX8_put 62 = .ok (.iload 5, 2) := by decide +kernel
theorem dX8_put_64 : decode cX8_put 64 = .ok (.iastore, 1) := by decide +kernel
theorem dX8_put_65 : decode cX8_put 65 = .ok (.aload_n 0, 1) := by decide +kernel
theorem dX8_put_66 : decode cX8_put 66 = .ok (.getfield 31, 3) := by decide +kernel
theorem dX8_put_69 : decode cX8_put 69 = .ok (.iload_n 1, 1) := by decide +kernel
theorem dX8_put_70 : decode cX8_put 70 = .ok (.iload 6, 2) := by decide +kernel
theorem dX8_put_72 : decode cX8_put 72 = .ok (.iastore, 1) := by decide +kernel
theorem dX8_put_73 : decode cX8_put 73 = .ok (.return_, 1) := by decide +kernel
theorem dX8_drop_0 : decode cX8_drop 0 = .ok (.iload_n 1, 1) := by decide +kernel
theorem dX8_drop_1 : decode cX8_drop 1 = .ok (.ifCond .lt 16, 3) := by decide +kernel
theorem dX8_drop_4 : decode cX8_drop 4 = .ok (.iload_n 1, 1) := by decide +kernel
theorem dX8_drop_5 : decode cX8_drop 5 = .ok (.bipush 12, 2) := by decide +kernel
theorem dX8_drop_7 : decode cX8_drop 7 = .ok (.if_icmp .ge 10, 3) := by decide +kernel
theorem dX8_drop_10 : decode cX8_drop 10 = .ok (.aload_n 0, 1) := by decide +kernel
theorem dX8_drop_11 : decode cX8_drop 11 = .ok (.getfield 9, 3) := by decide +kernel
theorem dX8_drop_14 : decode cX8_drop 14 = .ok (.iload_n 1, 1) := by decide +kernel
theorem dX8_drop_15 : decode cX8_drop 15 = .ok (.iconst 0, 1) := by decide +kernel
theorem dX8_drop_16 : decode cX8_drop 16 = .ok (.bastore, 1) := by decide +kernel
theorem dX8_drop_17 : decode cX8_drop 17 = .ok (.return_, 1) := by decide +kernel
theorem dX8_dropAll_0 : decode cX8_dropAll 0 = .ok (.iconst 0, 1) := by decide +kernel
theorem dX8_dropAll_1 : decode cX8_dropAll 1 = .ok (.istore_n 1, 1) := by decide +kernel
theorem dX8_dropAll_2 : decode cX8_dropAll 2 = .ok (.iload_n 1, 1) := by decide +kernel
theorem dX8_dropAll_3 : decode cX8_dropAll 3 = .ok (.bipush 12, 2) := by decide +kernel
theorem dX8_dropAll_5 : decode cX8_dropAll 5 = .ok (.if_icmp .ge 16, 3) := by decide +kernel
theorem dX8_dropAll_8 : decode cX8_dropAll 8 = .ok (.aload_n 0, 1) := by decide +kernel
theorem dX8_dropAll_9 : decode cX8_dropAll 9 = .ok (.getfield 9, 3) := by decide +kernel
theorem dX8_dropAll_12 : decode cX8_dropAll 12 = .ok (.iload_n 1, 1) := by decide +kernel
theorem dX8_dropAll_13 : decode cX8_dropAll 13 = .ok (.iconst 0, 1) := by decide +kernel
theorem dX8_dropAll_14 : decode cX8_dropAll 14 = .ok (.bastore, 1) := by decide +kernel
theorem dX8_dropAll_15 : decode cX8_dropAll 15 = .ok (.iinc 1 1, 3) := by decide +kernel
theorem dX8_dropAll_18 : decode cX8_dropAll 18 = .ok (.goto (-16), 3) := by decide +kernel
theorem dX8_dropAll_21 : decode cX8_dropAll 21 = .ok (.return_, 1) := by decide +kernel
theorem dX8_shift_0 : decode cX8_shift 0 = .ok (.iload_n 1, 1) := by decide +kernel
theorem dX8_shift_1 : decode cX8_shift 1 = .ok (.ifCond .lt 9, 3) := by decide +kernel
theorem dX8_shift_4 : decode cX8_shift 4 = .ok (.iload_n 1, 1) := by decide +kernel
theorem dX8_shift_5 : decode cX8_shift 5 = .ok (.bipush 12, 2) := by decide +kernel
theorem dX8_shift_7 : decode cX8_shift 7 = .ok (.if_icmp .lt 4, 3) := by decide +kernel
theorem dX8_shift_10 : decode cX8_shift 10 = .ok (.return_, 1) := by decide +kernel
theorem dX8_shift_11 : decode cX8_shift 11 = .ok (.aload_n 0, 1) := by decide +kernel
theorem dX8_shift_12 : decode cX8_shift 12 = .ok (.getfield 18, 3) := by decide +kernel
theorem dX8_shift_15 : decode cX8_shift 15 = .ok (.iload_n 1, 1) := by decide +kernel
theorem dX8_shift_16 : decode cX8_shift 16 = .ok (.dup2, 1) := by decide +kernel
theorem dX8_shift_17 : decode cX8_shift 17 = .ok (.iaload, 1) := by decide +kernel
theorem dX8_shift_18 : decode cX8_shift 18 = .ok (.iload_n 2, 1) := by decide +kernel
theorem dX8_shift_19 : decode cX8_shift 19 = .ok (.iadd, 1) := by decide +kernel
theorem dX8_shift_20 : decode cX8_shift 20 = .ok (.iastore, 1) := by decide +kernel
theorem dX8_shift_21 : decode cX8_shift 21 = .ok (.aload_n 0, 1) := by decide +kernel
theorem dX8_shift_22 : decode cX8_shift 22 = .ok (.getfield 22, 3) := by decide +kernel
theorem dX8_shift_25 : decode cX8_shift 25 = .ok (.iload_n 1, 1) := by decide +kernel
theorem dX8_shift_26 : decode cX8_shift 26 = .ok (.dup2, 1) := by decide +kernel
theorem dX8_shift_27 : decode cX8_shift 27 = .ok (.iaload, 1) := by decide +kernel
theorem dX8_shift_28 : decode cX8_shift 28 = .ok (.iload_n 3, 1) := by decide +kernel
theorem dX8_shift_29 : decode cX8_shift 29 = .ok (.iadd, 1) := by decide +kernel
theorem dX8_shift_30 : decode cX8_shift 30 = .ok (.iastore, 1) := by decide +kernel
theorem dX8_shift_31 : decode cX8_shift 31 = .ok (.aload_n 0, 1) := by decide +kernel
theorem dX8_shift_32 : decode cX8_shift 32 = .ok (.getfield 25, 3) := by decide +kernel
theorem dX8_shift_35 : decode cX8_shift 35 = .ok (.iload_n 1, 1) := by decide +kernel
theorem dX8_shift_36 : decode cX8_shift 36 = .ok (.dup2, 1) := by decide +kernel
theorem dX8_shift_37 : decode cX8_shift 37 = .ok (.iaload, 1) := by decide +kernel
theorem dX8_shift_38 : decode cX8_shift 38 = .ok (.iload_n 2, 1) := by decide +kernel
theorem dX8_shift_39 : decode cX8_shift 39 = .ok (.iadd, 1) := by decide +kernel
theorem dX8_shift_40 : decode cX8_shift 40 = .ok (.iastore, 1) := by decide +kernel
theorem dX8_shift_41 : decode cX8_shift 41 = .ok (.aload_n 0, 1) := by decide +kernel
theorem dX8_shift_42 : decode cX8_shift 42 = .ok (.getfield 28, 3) := by decide +kernel
theorem dX8_shift_45 : decode cX8_shift 45 = .ok (.iload_n 1, 1) := by decide +kernel
theorem dX8_shift_46 : decode cX8_shift 46 = .ok (.dup2, 1) := by decide +kernel
theorem dX8_shift_47 : decode cX8_shift 47 = .ok (.iaload, 1) := by decide +kernel
theorem dX8_shift_48 : decode cX8_shift 48 = .ok (.iload_n 3, 1) := by decide +kernel
theorem dX8_shift_49 : decode cX8_shift 49 = .ok (.iadd, 1) := by decide +kernel
theorem dX8_shift_50 : decode cX8_shift 50 = .ok (.iastore, 1) := by decide +kernel
theorem dX8_shift_51 : decode cX8_shift 51 = .ok (.return_, 1) := by decide +kernel
theorem dX8_turn_0 : decode cX8_turn 0 = .ok (.iload_n 1, 1) := by decide +kernel
theorem dX8_turn_1 : decode cX8_turn 1 = .ok (.ifCond .lt 9, 3) := by decide +kernel
theorem dX8_turn_4 : decode cX8_turn 4 = .ok (.iload_n 1, 1) := by decide +kernel
theorem dX8_turn_5 : decode cX8_turn 5 = .ok (.bipush 12, 2) := by decide +kernel
theorem dX8_turn_7 : decode cX8_turn 7 = .ok (.if_icmp .lt 4, 3) := by decide +kernel
theorem dX8_turn_10 : decode cX8_turn 10 = .ok (.return_, 1) := by decide +kernel
theorem dX8_turn_11 : decode cX8_turn 11 = .ok (.aload_n 0, 1) := by decide +kernel
theorem dX8_turn_12 : decode cX8_turn 12 = .ok (.getfield 18, 3) := by decide +kernel
theorem dX8_turn_15 : decode cX8_turn 15 = .ok (.iload_n 1, 1) := by decide +kernel
theorem dX8_turn_16 : decode cX8_turn 16 = .ok (.iaload, 1) := by decide +kernel
theorem dX8_turn_17 : decode cX8_turn 17 = .ok (.istore_n 2, 1) := by decide +kernel
theorem dX8_turn_18 : decode cX8_turn 18 = .ok (.aload_n 0, 1) := by decide +kernel
theorem dX8_turn_19 : decode cX8_turn 19 = .ok (.getfield 22, 3) := by decide +kernel
theorem dX8_turn_22 : decode cX8_turn 22 = .ok (.iload_n 1, 1) := by decide +kernel
theorem dX8_turn_23 : decode cX8_turn 23 = .ok (.iaload, 1) := by decide +kernel
theorem dX8_turn_24 : decode cX8_turn 24 = .ok (.istore_n 3, 1) := by decide +kernel
theorem dX8_turn_25 : decode cX8_turn 25 = .ok (.aload_n 0, 1) := by decide +kernel
theorem dX8_turn_26 : decode cX8_turn 26 = .ok (.getfield 18, 3) := by decide +kernel
theorem dX8_turn_29 : decode cX8_turn 29 = .ok (.iload_n 1, 1) := by decide +kernel
theorem dX8_turn_30 : decode cX8_turn 30 = .ok (.aload_n 0, 1) := by decide +kernel
theorem dX8_turn_31 : decode cX8_turn 31 = .ok (.getfield 25, 3) := by decide +kernel
theorem dX8_turn_34 : decode cX8_turn 34 = .ok (.iload_n 1, 1) := by decide +kernel
theorem dX8_turn_35 : decode cX8_turn 35 = .ok (.iaload, 1) := by decide +kernel
theorem dX8_turn_36 : decode cX8_turn 36 = .ok (.iastore, 1) := by decide +kernel
theorem dX8_turn_37 : decode cX8_turn 37 = .ok (.aload_n 0, 1) := by decide +kernel
theorem dX8_turn_38 : decode cX8_turn 38 = .ok (.getfield 22, 3) := by decide +kernel
theorem dX8_turn_41 : decode cX8_turn 41 = .ok (.iload_n 1, 1) := by decide +kernel
theorem dX8_turn_42 : decode cX8_turn 42 = .ok (.aload_n 0, 1) := by decide +kernel
theorem dX8_turn_43 : decode cX8_turn 43 = .ok (.getfield 28, 3) := by decide +kernel
theorem dX8_turn_46 : decode cX8_turn 46 = .ok (.iload_n 1, 1) := by decide +kernel
theorem dX8_turn_47 : decode cX8_turn 47 = .ok (.iaload, 1) := by decide +kernel
theorem dX8_turn_48 : decode cX8_turn 48 = .ok (.iastore, 1) := by decide +kernel
theorem dX8_turn_49 : decode cX8_turn 49 = .ok (.aload_n 0, 1) := by decide +kernel
theorem dX8_turn_50 : decode cX8_turn 50 = .ok (.getfield 25, 3) := by decide +kernel
theorem dX8_turn_53 : decode cX8_turn 53 = .ok (.iload_n 1, 1) := by decide +kernel
theorem dX8_turn_54 : decode cX8_turn 54 = .ok (.iload_n 2, 1) := by decide +kernel
theorem dX8_turn_55 : decode cX8_turn 55 = .ok (.iastore, 1) := by decide +kernel
theorem dX8_turn_56 : decode cX8_turn 56 = .ok (.aload_n 0, 1) := by decide +kernel
theorem dX8_turn_57 : decode cX8_turn 57 = .ok (.getfield 28, 3) := by decide +kernel
theorem dX8_turn_60 : decode cX8_turn 60 = .ok (.iload_n 1, 1) := by decide +kernel
theorem dX8_turn_61 : decode cX8_turn 61 = .ok (.iload_n 3, 1) := by decide +kernel
theorem dX8_turn_62 : decode cX8_turn 62 = .ok (.iastore, 1) := by decide +kernel
theorem dX8_turn_63 : decode cX8_turn 63 = .ok (.return_, 1) := by decide +kernel
theorem dX8_changeKind_0 : decode cX8_changeKind 0 = .ok (.iload_n 1, 1) := by decide +kernel
theorem dX8_changeKind_1 : decode cX8_changeKind 1 = .ok (.ifCond .lt 16, 3) := by decide +kernel
theorem dX8_changeKind_4 : decode cX8_changeKind 4 = .ok (.iload_n 1, 1) := by decide +kernel
theorem dX8_changeKind_5 : decode cX8_changeKind 5 = .ok (.bipush 12, 2) := by decide +kernel
theorem dX8_changeKind_7 : decode cX8_changeKind 7 = .ok (.if_icmp .ge 10, 3) := by decide +kernel
theorem dX8_changeKind_10 : decode cX8_changeKind 10 = .ok (.aload_n 0, 1) := by decide +kernel
theorem dX8_changeKind_11 : decode cX8_changeKind 11 = .ok (.getfield 31, 3) := by decide +kernel
theorem dX8_changeKind_14 : decode cX8_changeKind 14 = .ok (.iload_n 1, 1) := by decide +kernel
theorem dX8_changeKind_15 : decode cX8_changeKind 15 = .ok (.iload_n 2, 1) := by decide +kernel
theorem dX8_changeKind_16 : decode cX8_changeKind 16 = .ok (.iastore, 1) := by decide +kernel
theorem dX8_changeKind_17 : decode cX8_changeKind 17 = .ok (.return_, 1) := by decide +kernel
theorem dX8_changeWeights_0 : decode cX8_changeWeights 0 = .ok (.aload_n 0, 1) := by decide +kernel
theorem dX8_changeWeights_1 : decode cX8_changeWeights 1 = .ok (.iload_n 1, 1) := by decide +kernel
theorem dX8_changeWeights_2 : decode cX8_changeWeights 2 = .ok (.putfield 34, 3) := by decide +kernel
theorem dX8_changeWeights_5 : decode cX8_changeWeights 5 = .ok (.aload_n 0, 1) := by decide +kernel
theorem dX8_changeWeights_6 : decode cX8_changeWeights 6 = .ok (.iload_n 2, 1) := by decide +kernel
theorem dX8_changeWeights_7 : decode cX8_changeWeights 7 = .ok (.putfield 38, 3) := by decide +kernel
theorem dX8_changeWeights_10 : decode cX8_changeWeights 10 = .ok (.return_, 1) := by decide +kernel
theorem dX8_copyWalls_0 : decode cX8_copyWalls 0 = .ok (.iconst 0, 1) := by decide +kernel
theorem dX8_copyWalls_1 : decode cX8_copyWalls 1 = .ok (.istore_n 2, 1) := by decide +kernel
theorem dX8_copyWalls_2 : decode cX8_copyWalls 2 = .ok (.iload_n 2, 1) := by decide +kernel
theorem dX8_copyWalls_3 : decode cX8_copyWalls 3 = .ok (.bipush 12, 2) := by decide +kernel
theorem dX8_copyWalls_5 : decode cX8_copyWalls 5 = .ok (.if_icmp .ge 93, 3) := by decide +kernel
theorem dX8_copyWalls_8 : decode cX8_copyWalls 8 = .ok (.aload_n 0, 1) := by decide +kernel
theorem dX8_copyWalls_9 : decode cX8_copyWalls 9 = .ok (.getfield 9, 3) := by decide +kernel
theorem dX8_copyWalls_12 : decode cX8_copyWalls 12 = .ok (.iload_n 2, 1) := by decide +kernel
theorem dX8_copyWalls_13 : decode cX8_copyWalls 13 = .ok (.aload_n 1, 1) := by decide +kernel
theorem dX8_copyWalls_14 : decode cX8_copyWalls 14 = .ok (.getfield 9, 3) := by decide +kernel
theorem dX8_copyWalls_17 : decode cX8_copyWalls 17 = .ok (.iload_n 2, 1) := by decide +kernel
theorem dX8_copyWalls_18 : decode cX8_copyWalls 18 = .ok (.baload, 1) := by decide +kernel
theorem dX8_copyWalls_19 : decode cX8_copyWalls 19 = .ok (.bastore, 1) := by decide +kernel
theorem dX8_copyWalls_20 : decode cX8_copyWalls 20 = .ok (.aload_n 0, 1) := by decide +kernel
theorem dX8_copyWalls_21 : decode cX8_copyWalls 21 = .ok (.getfield 15, 3) := by decide +kernel
theorem dX8_copyWalls_24 : decode cX8_copyWalls 24 = .ok (.iload_n 2, 1) := by decide +kernel
theorem dX8_copyWalls_25 : decode cX8_copyWalls 25 = .ok (.aload_n 1, 1) := by decide +kernel
theorem dX8_copyWalls_26 : decode cX8_copyWalls 26 = .ok (.getfield 15, 3) := by decide +kernel
theorem dX8_copyWalls_29 : decode cX8_copyWalls 29 = .ok (.iload_n 2, 1) := by decide +kernel
theorem dX8_copyWalls_30 : decode cX8_copyWalls 30 = .ok (.baload, 1) := by decide +kernel
theorem dX8_copyWalls_31 : decode cX8_copyWalls 31 = .ok (.bastore, 1) := by decide +kernel
theorem dX8_copyWalls_32 : decode cX8_copyWalls 32 = .ok (.aload_n 0, 1) := by decide +kernel
theorem dX8_copyWalls_33 : decode cX8_copyWalls 33 = .ok (.getfield 18, 3) := by decide +kernel
theorem dX8_copyWalls_36 : decode cX8_copyWalls 36 = .ok (.iload_n 2, 1) := by decide +kernel
theorem dX8_copyWalls_37 : decode cX8_copyWalls 37 = .ok (.aload_n 1, 1) := by decide +kernel
theorem dX8_copyWalls_38 : decode cX8_copyWalls 38 = .ok (.getfield 18, 3) := by decide +kernel
theorem dX8_copyWalls_41 : decode cX8_copyWalls 41 = .ok (.iload_n 2, 1) := by decide +kernel
theorem dX8_copyWalls_42 : decode cX8_copyWalls 42 = .ok (.iaload, 1) := by decide +kernel
theorem dX8_copyWalls_43 : decode cX8_copyWalls 43 = .ok (.iastore, 1) := by decide +kernel
theorem dX8_copyWalls_44 : decode cX8_copyWalls 44 = .ok (.aload_n 0, 1) := by decide +kernel
theorem dX8_copyWalls_45 : decode cX8_copyWalls 45 = .ok (.getfield 22, 3) := by decide +kernel
theorem dX8_copyWalls_48 : decode cX8_copyWalls 48 = .ok (.iload_n 2, 1) := by decide +kernel
theorem dX8_copyWalls_49 : decode cX8_copyWalls 49 = .ok (.aload_n 1, 1) := by decide +kernel
theorem dX8_copyWalls_50 : decode cX8_copyWalls 50 = .ok (.getfield 22, 3) := by decide +kernel
theorem dX8_copyWalls_53 : decode cX8_copyWalls 53 = .ok (.iload_n 2, 1) := by decide +kernel
theorem dX8_copyWalls_54 : decode cX8_copyWalls 54 = .ok (.iaload, 1) := by decide +kernel
theorem dX8_copyWalls_55 : decode cX8_copyWalls 55 = .ok (.iastore, 1) := by decide +kernel
theorem dX8_copyWalls_56 : decode cX8_copyWalls 56 = .ok (.aload_n 0, 1) := by decide +kernel
theorem dX8_copyWalls_57 : decode cX8_copyWalls 57 = .ok (.getfield 25, 3) := by decide +kernel
theorem dX8_copyWalls_60 : decode cX8_copyWalls 60 = .ok (.iload_n 2, 1) := by decide +kernel
theorem dX8_copyWalls_61 : decode cX8_copyWalls 61 = .ok (.aload_n 1, 1) := by decide +kernel
theorem dX8_copyWalls_62 : decode cX8_copyWalls 62 = .ok (.getfield 25, 3) := by decide +kernel
theorem dX8_copyWalls_65 : decode cX8_copyWalls 65 = .ok (.iload_n 2, 1) := by decide +kernel
theorem dX8_copyWalls_66 : decode cX8_copyWalls 66 = .ok (.iaload, 1) := by decide +kernel
theorem dX8_copyWalls_67 : decode cX8_copyWalls 67 = .ok (.iastore, 1) := by decide +kernel
theorem dX8_copyWalls_68 : decode cX8_copyWalls 68 = .ok (.aload_n 0, 1) := by decide +kernel
theorem dX8_copyWalls_69 : decode cX8_copyWalls 69 = .ok (.getfield 28, 3) := by decide +kernel
theorem dX8_copyWalls_72 : decode cX8_copyWalls 72 = .ok (.iload_n 2, 1) := by decide +kernel
theorem dX8_copyWalls_73 : decode cX8_copyWalls 73 = .ok (.aload_n 1, 1) := by decide +kernel
theorem dX8_copyWalls_74 : decode cX8_copyWalls 74 = .ok (.getfield 28, 3) := by decide +kernel
theorem dX8_copyWalls_77 : decode cX8_copyWalls 77 = .ok (.iload_n 2, 1) := by decide +kernel
theorem dX8_copyWalls_78 : decode cX8_copyWalls 78 = .ok (.iaload, 1) := by decide +kernel
theorem dX8_copyWalls_79 : decode cX8_copyWalls 79 = .ok (.iastore, 1) := by decide +kernel
theorem dX8_copyWalls_80 : decode cX8_copyWalls 80 = .ok (.aload_n 0, 1) := by decide +kernel
theorem dX8_copyWalls_81 : decode cX8_copyWalls 81 = .ok (.getfield 31, 3) := by decide +kernel
theorem dX8_copyWalls_84 : decode cX8_copyWalls 84 = .ok (.iload_n 2, 1) := by decide +kernel
theorem dX8_copyWalls_85 : decode cX8_copyWalls 85 = .ok (.aload_n 1, 1) := by decide +kernel
theorem dX8_copyWalls_86 : decode cX8_copyWalls 86 = .ok (.getfield 31, 3) := by decide +kernel
theorem dX8_copyWalls_89 : decode cX8_copyWalls 89 = .ok (.iload_n 2, 1) := by decide +kernel
theorem dX8_copyWalls_90 : decode cX8_copyWalls 90 = .ok (.iaload, 1) := by decide +kernel
theorem dX8_copyWalls_91 : decode cX8_copyWalls 91 = .ok (.iastore, 1) := by decide +kernel
theorem dX8_copyWalls_92 : decode cX8_copyWalls 92 = .ok (.iinc 2 1, 3) := by decide +kernel
theorem dX8_copyWalls_95 : decode cX8_copyWalls 95 = .ok (.goto (-93), 3) := by decide +kernel
theorem dX8_copyWalls_98 : decode cX8_copyWalls 98 = .ok (.return_, 1) := by decide +kernel
theorem dX8_copyFrom_0 : decode cX8_copyFrom 0 = .ok (.aload_n 0, 1) := by decide +kernel
theorem dX8_copyFrom_1 : decode cX8_copyFrom 1 = .ok (.aload_n 1, 1) := by decide +kernel
theorem dX8_copyFrom_2 : decode cX8_copyFrom 2 = .ok (.invokevirtual 62, 3) := by decide +kernel
theorem dX8_copyFrom_5 : decode cX8_copyFrom 5 = .ok (.aload_n 0, 1) := by decide +kernel
theorem dX8_copyFrom_6 : decode cX8_copyFrom 6 = .ok (.aload_n 1, 1) := by decide +kernel
theorem dX8_copyFrom_7 : decode cX8_copyFrom 7 = .ok (.getfield 34, 3) := by decide +kernel
theorem dX8_copyFrom_10 : decode cX8_copyFrom 10 = .ok (.aload_n 1, 1) := by decide +kernel
theorem dX8_copyFrom_11 : decode cX8_copyFrom 11 = .ok (.getfield 38, 3) := by decide +kernel
theorem dX8_copyFrom_14 : decode cX8_copyFrom 14 = .ok (.invokevirtual 66, 3) := by decide +kernel
theorem dX8_copyFrom_17 : decode cX8_copyFrom 17 = .ok (.return_, 1) := by decide +kernel
theorem dX8_hasSameFixedPart_0 : decode cX8_hasSameFixedPart 0 = .ok (.aload_n 0, 1) := by decide +kernel
theorem dX8_hasSameFixedPart_1 : decode cX8_hasSameFixedPart 1 = .ok (.getfield 34, 3) := by decide +kernel
theorem dX8_hasSameFixedPart_4 : decode cX8_hasSameFixedPart 4 = .ok (.aload_n 1, 1) := by decide +kernel
theorem dX8_hasSameFixedPart_5 : decode cX8_hasSameFixedPart 5 = .ok (.getfield 34, 3) := by decide +kernel
theorem dX8_hasSameFixedPart_8 : decode cX8_hasSameFixedPart 8 = .ok (.if_icmp .ne 14, 3) := by decide +kernel
theorem dX8_hasSameFixedPart_11 : decode cX8_hasSameFixedPart 11 = .ok (.aload_n 0, 1) := by decide +kernel
theorem dX8_hasSameFixedPart_12 : decode cX8_hasSameFixedPart 12 = .ok (.getfield 38, 3) := by decide +kernel
theorem dX8_hasSameFixedPart_15 : decode cX8_hasSameFixedPart 15 = .ok (.aload_n 1, 1) := by decide +kernel
theorem dX8_hasSameFixedPart_16 : decode cX8_hasSameFixedPart 16 = .ok (.getfield 38, 3) := by decide +kernel
theorem dX8_hasSameFixedPart_19 : decode cX8_hasSameFixedPart 19 = .ok (.if_icmp .eq 5, 3) := by decide +kernel
theorem dX8_hasSameFixedPart_22 : decode cX8_hasSameFixedPart 22 = .ok (.iconst 0, 1) := by decide +kernel
theorem dX8_hasSameFixedPart_23 : decode cX8_hasSameFixedPart 23 = .ok (.ireturn, 1) := by decide +kernel
theorem dX8_hasSameFixedPart_24 : decode cX8_hasSameFixedPart 24 = .ok (.iconst 0, 1) := by decide +kernel
theorem dX8_hasSameFixedPart_25 : decode cX8_hasSameFixedPart 25 = .ok (.istore_n 2, 1) := by decide +kernel
theorem dX8_hasSameFixedPart_26 : decode cX8_hasSameFixedPart 26 = .ok (.iload_n 2, 1) := by decide +kernel
theorem dX8_hasSameFixedPart_27 : decode cX8_hasSameFixedPart 27 = .ok (.bipush 12, 2) := by decide +kernel
theorem dX8_hasSameFixedPart_29 : decode cX8_hasSameFixedPart 29 = .ok (.if_icmp .ge 43, 3) := by decide +kernel
theorem dX8_hasSameFixedPart_32 : decode cX8_hasSameFixedPart 32 = .ok (.aload_n 0, 1) := by decide +kernel
theorem dX8_hasSameFixedPart_33 : decode cX8_hasSameFixedPart 33 = .ok (.iload_n 2, 1) := by decide +kernel
theorem dX8_hasSameFixedPart_34 : decode cX8_hasSameFixedPart 34 = .ok (.invokevirtual 41, 3) := by decide +kernel
theorem dX8_hasSameFixedPart_37 : decode cX8_hasSameFixedPart 37 = .ok (.aload_n 1, 1) := by decide +kernel
theorem dX8_hasSameFixedPart_38 : decode cX8_hasSameFixedPart 38 = .ok (.iload_n 2, 1) := by decide +kernel
theorem dX8_hasSameFixedPart_39 : decode cX8_hasSameFixedPart 39 = .ok (.invokevirtual 41, 3) := by decide +kernel
theorem dX8_hasSameFixedPart_42 : decode cX8_hasSameFixedPart 42 = .ok (.if_icmp .eq 5, 3) := by decide +kernel
theorem dX8_hasSameFixedPart_45 : decode cX8_hasSameFixedPart 45 = .ok (.iconst 0, 1) := by decide +kernel
theorem dX8_hasSameFixedPart_46 : decode cX8_hasSameFixedPart 46 = .ok (.ireturn, 1) := by decide +kernel
theorem dX8_hasSameFixedPart_47 : decode cX8_hasSameFixedPart 47 = .ok (.aload_n 0, 1) := by decide +kernel
theorem dX8_hasSameFixedPart_48 : decode cX8_hasSameFixedPart 48 = .ok (.iload_n 2, 1) := by decide +kernel
theorem dX8_hasSameFixedPart_49 : decode cX8_hasSameFixedPart 49 = .ok (.invokevirtual 41, 3) := by decide +kernel
theorem dX8_hasSameFixedPart_52 : decode cX8_hasSameFixedPart 52 = .ok (.ifCond .eq 14, 3) := by decide +kernel
theorem dX8_hasSameFixedPart_55 : decode cX8_hasSameFixedPart 55 = .ok (.aload_n 0, 1) := by decide +kernel
theorem dX8_hasSameFixedPart_56 : decode cX8_hasSameFixedPart 56 = .ok (.iload_n 2, 1) := by decide +kernel
theorem dX8_hasSameFixedPart_57 : decode cX8_hasSameFixedPart 57 = .ok (.aload_n 1, 1) := by decide +kernel
theorem dX8_hasSameFixedPart_58 : decode cX8_hasSameFixedPart 58 = .ok (.invokevirtual 70, 3) := by decide +kernel
theorem dX8_hasSameFixedPart_61 : decode cX8_hasSameFixedPart 61 = .ok (.ifCond .ne 5, 3) := by decide +kernel
theorem dX8_hasSameFixedPart_64 : decode cX8_hasSameFixedPart 64 = .ok (.iconst 0, 1) := by decide +kernel
theorem dX8_hasSameFixedPart_65 : decode cX8_hasSameFixedPart 65 = .ok (.ireturn, 1) := by decide +kernel
theorem dX8_hasSameFixedPart_66 : decode cX8_hasSameFixedPart 66 = .ok (.iinc 2 1, 3) := by decide +kernel
theorem dX8_hasSameFixedPart_69 : decode cX8_hasSameFixedPart 69 = .ok (.goto (-43), 3) := by decide +kernel
theorem dX8_hasSameFixedPart_72 : decode cX8_hasSameFixedPart 72 = .ok (.iconst 1, 1) := by decide +kernel
theorem dX8_hasSameFixedPart_73 : decode cX8_hasSameFixedPart 73 = .ok (.ireturn, 1) := by decide +kernel
theorem dX8_hasSamePoints_0 : decode cX8_hasSamePoints 0 = .ok (.aload_n 0, 1) := by decide +kernel
theorem dX8_hasSamePoints_1 : decode cX8_hasSamePoints 1 = .ok (.iload_n 1, 1) := by decide +kernel
theorem dX8_hasSamePoints_2 : decode cX8_hasSamePoints 2 = .ok (.invokevirtual 74, 3) := by decide +kernel
theorem dX8_hasSamePoints_5 : decode cX8_hasSamePoints 5 = .ok (.aload_n 2, 1) := by decide +kernel
theorem dX8_hasSamePoints_6 : decode cX8_hasSamePoints 6 = .ok (.iload_n 1, 1) := by decide +kernel
theorem dX8_hasSamePoints_7 : decode cX8_hasSamePoints 7 = .ok (.invokevirtual 74, 3) := by decide +kernel
theorem dX8_hasSamePoints_10 : decode cX8_hasSamePoints 10 = .ok (.if_icmp .ne 46, 3) := by decide +kernel
theorem dX8_hasSamePoints_13 : decode cX8_hasSamePoints 13 = .ok (.aload_n 0, 1) := by decide +kernel
theorem dX8_hasSamePoints_14 : decode cX8_hasSamePoints 14 = .ok (.iload_n 1, 1) := by decide +kernel
theorem dX8_hasSamePoints_15 : decode cX8_hasSamePoints 15 = .ok (.invokevirtual 76, 3) := by decide +kernel
theorem dX8_hasSamePoints_18 : decode cX8_hasSamePoints 18 = .ok (.aload_n 2, 1) := by decide +kernel
theorem dX8_hasSamePoints_19 : decode cX8_hasSamePoints 19 = .ok (.iload_n 1, 1) := by decide +kernel
theorem dX8_hasSamePoints_20 : decode cX8_hasSamePoints 20 = .ok (.invokevirtual 76, 3) := by decide +kernel
theorem dX8_hasSamePoints_23 : decode cX8_hasSamePoints 23 = .ok (.if_icmp .ne 33, 3) := by decide +kernel
theorem dX8_hasSamePoints_26 : decode cX8_hasSamePoints 26 = .ok (.aload_n 0, 1) := by decide +kernel
theorem dX8_hasSamePoints_27 : decode cX8_hasSamePoints 27 = .ok (.iload_n 1, 1) := by decide +kernel
theorem dX8_hasSamePoints_28 : decode cX8_hasSamePoints 28 = .ok (.invokevirtual 78, 3) := by decide +kernel
theorem dX8_hasSamePoints_31 : decode cX8_hasSamePoints 31 = .ok (.aload_n 2, 1) := by decide +kernel
theorem dX8_hasSamePoints_32 : decode cX8_hasSamePoints 32 = .ok (.iload_n 1, 1) := by decide +kernel
theorem dX8_hasSamePoints_33 : decode cX8_hasSamePoints 33 = .ok (.invokevirtual 78, 3) := by decide +kernel
theorem dX8_hasSamePoints_36 : decode cX8_hasSamePoints 36 = .ok (.if_icmp .ne 20, 3) := by decide +kernel
theorem dX8_hasSamePoints_39 : decode cX8_hasSamePoints 39 = .ok (.aload_n 0, 1) := by decide +kernel
theorem dX8_hasSamePoints_40 : decode cX8_hasSamePoints 40 = .ok (.iload_n 1, 1) := by decide +kernel
theorem dX8_hasSamePoints_41 : decode cX8_hasSamePoints 41 = .ok (.invokevirtual 80, 3) := by decide +kernel
theorem dX8_hasSamePoints_44 : decode cX8_hasSamePoints 44 = .ok (.aload_n 2, 1) := by decide +kernel
theorem dX8_hasSamePoints_45 : decode cX8_hasSamePoints 45 = .ok (.iload_n 1, 1) := by decide +kernel
theorem dX8_hasSamePoints_46 : decode cX8_hasSamePoints 46 = .ok (.invokevirtual 80, 3) := by decide +kernel
theorem dX8_hasSamePoints_49 : decode cX8_hasSamePoints 49 = .ok (.if_icmp .ne 7, 3) := by decide +kernel
theorem dX8_hasSamePoints_52 : decode cX8_hasSamePoints 52 = .ok (.iconst 1, 1) := by decide +kernel
theorem dX8_hasSamePoints_53 : decode cX8_hasSamePoints 53 = .ok (.goto 4, 3) := by decide +kernel
theorem dX8_hasSamePoints_56 : decode cX8_hasSamePoints 56 = .ok (.iconst 0, 1) := by decide +kernel
theorem dX8_hasSamePoints_57 : decode cX8_hasSamePoints 57 = .ok (.ireturn, 1) := by decide +kernel
theorem dX9_init_0 : decode cX9_init 0 = .ok (.aload_n 0, 1) := by decide +kernel
theorem dX9_init_1 : decode cX9_init 1 = .ok (.invokespecial 3, 3) := by decide +kernel
theorem dX9_init_4 : decode cX9_init 4 = .ok (.aload_n 0, 1) := by decide +kernel
theorem dX9_init_5 : decode cX9_init 5 = .ok (.new 9, 3) := by decide +kernel
theorem dX9_init_8 : decode cX9_init 8 = .ok (.dup, 1) := by decide +kernel
theorem dX9_init_9 : decode cX9_init 9 = .ok (.invokespecial 11, 3) := by decide +kernel
theorem dX9_init_12 : decode cX9_init 12 = .ok (.putfield 12, 3) := by decide +kernel
theorem dX9_init_15 : decode cX9_init 15 = .ok (.aload_n 0, 1) := by decide +kernel
theorem dX9_init_16 : decode cX9_init 16 = .ok (.new 9, 3) := by decide +kernel
theorem dX9_init_19 : decode cX9_init 19 = .ok (.dup, 1) := by decide +kernel
theorem dX9_init_20 : decode cX9_init 20 = .ok (.invokespecial 11, 3) := by decide +kernel
theorem dX9_init_23 : decode cX9_init 23 = .ok (.putfield 16, 3) := by decide +kernel
theorem dX9_init_26 : decode cX9_init 26 = .ok (.aload_n 0, 1) := by decide +kernel
theorem dX9_init_27 : decode cX9_init 27 = .ok (.new 9, 3) := by decide +kernel
theorem dX9_init_30 : decode cX9_init 30 = .ok (.dup, 1) := by decide +kernel
theorem dX9_init_31 : decode cX9_init 31 = .ok (.invokespecial 11, 3) := by decide +kernel
theorem dX9_init_34 : decode cX9_init 34 = .ok (.putfield 19, 3) := by decide +kernel
theorem dX9_init_37 : decode cX9_init 37 = .ok (.aload_n 0, 1) := by decide +kernel
theorem dX9_init_38 : decode cX9_init 38 = .ok (.new 22, 3) := by decide +kernel
theorem dX9_init_41 : decode cX9_init 41 = .ok (.dup, 1) := by decide +kernel
theorem dX9_init_42 : decode cX9_init 42 = .ok (.invokespecial 24, 3) := by decide +kernel
theorem dX9_init_45 : decode cX9_init 45 = .ok (.putfield 25, 3) := by decide +kernel
theorem dX9_init_48 : decode cX9_init 48 = .ok (.aload_n 0, 1) := by decide +kernel
theorem dX9_init_49 : decode cX9_init 49 = .ok (.new 29, 3) := by decide +kernel
theorem dX9_init_52 : decode cX9_init 52 = .ok (.dup, 1) := by decide +kernel
theorem dX9_init_53 : decode cX9_init 53 = .ok (.invokespecial 31, 3) := by decide +kernel
theorem dX9_init_56 : decode cX9_init 56 = .ok (.putfield 32, 3) := by decide +kernel
theorem dX9_init_59 : decode cX9_init 59 = .ok (.aload_n 0, 1) := by decide +kernel
theorem dX9_init_60 : decode cX9_init 60 = .ok (.new 36, 3) := by decide +kernel
theorem dX9_init_63 : decode cX9_init 63 = .ok (.dup, 1) := by decide +kernel
theorem dX9_init_64 : decode cX9_init 64 = .ok (.aload_n 0, 1) := by decide +kernel
theorem dX9_init_65 : decode cX9_init 65 = .ok (.getfield 12, 3) := by decide +kernel
theorem dX9_init_68 : decode cX9_init 68 = .ok (.invokespecial 38, 3) := by decide +kernel
theorem dX9_init_71 : decode cX9_init 71 = .ok (.putfield 41, 3) := by decide +kernel
theorem dX9_init_74 : decode cX9_init 74 = .ok (.aload_n 0, 1) := by decide +kernel
theorem dX9_init_75 : decode cX9_init 75 = .ok (.new 36, 3) := by decide +kernel
theorem dX9_init_78 : decode cX9_init 78 = .ok (.dup, 1) := by decide +kernel
theorem dX9_init_79 : decode cX9_init 79 = .ok (.aload_n 0, 1) := by decide +kernel
theorem dX9_init_80 : decode cX9_init 80 = .ok (.getfield 12, 3) := by decide +kernel
theorem dX9_init_83 : decode cX9_init 83 = .ok (.invokespecial 38, 3) := by decide +kernel
theorem dX9_init_86 : decode cX9_init 86 = .ok (.putfield 45, 3) := by decide +kernel
theorem dX9_init_89 : decode cX9_init 89 = .ok (.aload_n 0, 1) := by decide +kernel
theorem dX9_init_90 : decode cX9_init 90 = .ok (.new 48, 3) := by decide +kernel
theorem dX9_init_93 : decode cX9_init 93 = .ok (.dup, 1) := by decide +kernel
theorem dX9_init_94 : decode cX9_init 94 = .ok (.aload_n 0, 1) := by decide +kernel
theorem dX9_init_95 : decode cX9_init 95 = .ok (.getfield 12, 3) := by decide +kernel
theorem dX9_init_98 : decode cX9_init 98 = .ok (.aload_n 0, 1) := by decide +kernel
theorem dX9_init_99 : decode cX9_init 99 = .ok (.getfield 41, 3) := by decide +kernel
theorem dX9_init_102 : decode cX9_init 102 = .ok (.invokespecial 50, 3) := by decide +kernel
theorem dX9_init_105 : decode cX9_init 105 = .ok (.putfield 53, 3) := by decide +kernel
theorem dX9_init_108 : decode cX9_init 108 = .ok (.aload_n 0, 1) := by decide +kernel
theorem dX9_init_109 : decode cX9_init 109 = .ok (.new 57, 3) := by decide +kernel
theorem dX9_init_112 : decode cX9_init 112 = .ok (.dup, 1) := by decide +kernel
theorem dX9_init_113 : decode cX9_init 113 = .ok (.aload_n 0, 1) := by decide +kernel
theorem dX9_init_114 : decode cX9_init 114 = .ok (.getfield 12, 3) := by decide +kernel
theorem dX9_init_117 : decode cX9_init 117 = .ok (.invokespecial 59, 3) := by decide +kernel
theorem dX9_init_120 : decode cX9_init 120 = .ok (.putfield 60, 3) := by decide +kernel
theorem dX9_init_123 : decode cX9_init 123 = .ok (.aload_n 0, 1) := by decide +kernel
theorem dX9_init_124 : decode cX9_init 124 = .ok (.new 64, 3) := by decide +kernel
theorem dX9_init_127 : decode cX9_init 127 = .ok (.dup, 1) := by decide +kernel
theorem dX9_init_128 : decode cX9_init 128 = .ok (.aload_n 0, 1) := by decide +kernel
theorem dX9_init_129 : decode cX9_init 129 = .ok (.getfield 12, 3) := by decide +kernel
theorem dX9_init_132 : decode cX9_init 132 = .ok (.invokespecial 66, 3) := by decide +kernel
theorem dX9_init_135 : decode cX9_init 135 = .ok (.putfield 67, 3) := by decide +kernel
theorem dX9_init_138 : decode cX9_init 138 = .ok (.aload_n 0, 1) := by decide +kernel
theorem dX9_init_139 : decode cX9_init 139 = .ok (.new 71, 3) := by decide +kernel
theorem dX9_init_142 : decode cX9_init 142 = .ok (.dup, 1) := by decide +kernel
theorem dX9_init_143 : decode cX9_init 143 = .ok (.aload_n 0, 1) := by decide +kernel
theorem dX9_init_144 : decode cX9_init 144 = .ok (.getfield 12, 3) := by decide +kernel
theorem dX9_init_147 : decode cX9_init 147 = .ok (.invokespecial 73, 3) := by decide +kernel
theorem dX9_init_150 : decode cX9_init 150 = .ok (.putfield 74, 3) := by decide +kernel
theorem dX9_init_153 : decode cX9_init 153 = .ok (.aload_n 0, 1) := by decide +kernel
theorem dX9_init_154 : decode cX9_init 154 = .ok (.iconst 0, 1) := by decide +kernel
theorem dX9_init_155 : decode cX9_init 155 = .ok (.putfield 78, 3) := by decide +kernel
theorem dX9_init_158 : decode cX9_init 158 = .ok (.aload_n 0, 1) := by decide +kernel
theorem dX9_init_159 : decode cX9_init 159 = .ok (.iconst 1, 1) := by decide +kernel
theorem dX9_init_160 : decode cX9_init 160 = .ok (.putfield 82, 3) := by decide +kernel
theorem dX9_init_163 : decode cX9_init 163 = .ok (.return_, 1) := by decide +kernel
theorem dX9_addWall_0 : decode cX9_addWall 0 = .ok (.iload_n 1, 1) := by decide +kernel
theorem dX9_addWall_1 : decode cX9_addWall 1 = .ok (.iload_n 2, 1) := by decide +kernel
theorem dX9_addWall_2 : decode cX9_addWall 2 = .ok (.invokestatic 86, 3) := by decide +kernel
theorem dX9_addWall_5 : decode cX9_addWall 5 = .ok (.ifCond .ne 12, 3) := by decide +kernel
theorem dX9_addWall_8 : decode cX9_addWall 8 = .ok (.iload_n 3, 1) := by decide +kernel
theorem dX9_addWall_9 : decode cX9_addWall 9 = .ok (.iload 4, 2) := by decide +kernel
theorem dX9_addWall_11 : decode cX9_addWall 11 = .ok (.invokestatic 86, 3) := by decide +kernel
theorem dX9_addWall_14 : decode cX9_addWall 14 = .ok (.ifCond .eq 6, 3) := by decide +kernel
theorem dX9_addWall_17 : decode cX9_addWall 17 = .ok (.bipush (-2), 2) := by decide +kernel
theorem dX9_addWall_19 : decode cX9_addWall 19 = .ok (.ireturn, 1) := by decide +kernel
theorem dX9_addWall_20 : decode cX9_addWall 20 = .ok (.iload 5, 2) := by decide +kernel
theorem dX9_addWall_22 : decode cX9_addWall 22 = .ok (.iconst 0, 1) := by decide +kernel
theorem dX9_addWall_23 : decode cX9_addWall 23 = .ok (.iconst 2, 1) := by decide +kernel
theorem dX9_addWall_24 : decode cX9_addWall 24 = .ok (.invokestatic 90, 3) := by decide +kernel
theorem dX9_addWall_27 : decode cX9_addWall 27 = .ok (.ifCond .ne 13, 3) := by decide +kernel
theorem dX9_addWall_30 : decode cX9_addWall 30 = .ok (.iload 6, 2) := by decide +kernel
theorem dX9_addWall_32 : decode cX9_addWall 32 = .ok (.iconst 0, 1) := by decide +kernel
theorem dX9_addWall_33 : decode cX9_addWall 33 = .ok (.iconst 1, 1) := by decide +kernel
theorem dX9_addWall_34 : decode cX9_addWall 34 = .ok (.invokestatic 90, 3) := by decide +kernel
theorem dX9_addWall_37 : decode cX9_addWall 37 = .ok (.ifCond .eq 6, 3) := by decide +kernel
theorem dX9_addWall_40 : decode cX9_addWall 40 = .ok (.bipush (-2), 2) := by decide +kernel
theorem dX9_addWall_42 : decode cX9_addWall 42 = .ok (.ireturn, 1) := by decide +kernel
theorem dX9_addWall_43 : decode cX9_addWall 43 = .ok (.iload_n 1, 1) := by decide +kernel
theorem dX9_addWall_44 : decode cX9_addWall 44 = .ok (.iload_n 3, 1) := by decide +kernel
theorem dX9_addWall_45 : decode cX9_addWall 45 = .ok (.if_icmp .ne 12, 3) := by decide +kernel
theorem dX9_addWall_48 : decode cX9_addWall 48 = .ok (.iload_n 2, 1) := by decide +kernel
theorem dX9_addWall_49 : decode cX9_addWall 49 = .ok (.iload 4, 2) := by decide +kernel
theorem dX9_addWall_51 : decode cX9_addWall 51 = .ok (.if_icmp .ne 6, 3) := by decide +kernel
theorem dX9_addWall_54 : decode cX9_addWall 54 = .ok (.bipush (-4), 2) := by decide +kernel
theorem dX9_addWall_56 : decode cX9_addWall 56 = .ok (.ireturn, 1) := by decide +kernel
theorem dX9_addWall_57 : decode cX9_addWall 57 = .ok (.aload_n 0, 1) := by decide +kernel
theorem dX9_addWall_58 : decode cX9_addWall 58 = .ok (.getfield 12, 3) := by decide +kernel
theorem dX9_addWall_61 : decode cX9_addWall 61 = .ok (.invokevirtual 94, 3) := by decide +kernel
theorem dX9_addWall_64 : decode cX9_addWall 64 = .ok (.istore 7, 2) := by decide +kernel
theorem dX9_addWall_66 : decode cX9_addWall 66 = .ok (.iload 7, 2) := by decide +kernel
theorem dX9_addWall_68 : decode cX9_addWall 68 = .ok (.ifCond .ge 6, 3) := by decide +kernel
theorem dX9_addWall_71 : decode cX9_addWall 71 = .ok (.bipush (-3), 2) := by decide +kernel
theorem dX9_addWall_73 : decode cX9_addWall 73 = .ok (.ireturn, 1) := by decide +kernel
theorem dX9_addWall_74 : decode cX9_addWall 74 = .ok (.aload_n 0, 1) := by decide +kernel
theorem dX9_addWall_75 : decode cX9_addWall 75 = .ok (.invokevirtual 98, 3) := by decide +kernel
theorem dX9_addWall_78 : decode cX9_addWall 78 = .ok (.aload_n 0, 1) := by decide +kernel
theorem dX9_addWall_79 : decode cX9_addWall 79 = .ok (.getfield 12, 3) := by decide +kernel
theorem dX9_addWall_82 : decode cX9_addWall 82 = .ok (.iload 7, 2) := by decide +kernel
theorem dX9_addWall_84 : decode cX9_addWall 84 = .ok (.iload_n 1, 1) := by decide +kernel
theorem dX9_addWall_85 : decode cX9_addWall 85 = .ok (.iload_n 2, 1) := by decide +kernel
theorem dX9_addWall_86 : decode cX9_addWall 86 = .ok (.iload_n 3, 1) := by decide +kernel
theorem dX9_addWall_87 : decode cX9_addWall 87 = .ok (.iload 4, 2) := by decide +kernel
theorem dX9_addWall_89 : decode cX9_addWall 89 = .ok (.iload 5, 2) := by decide +kernel
theorem dX9_addWall_91 : decode cX9_addWall 91 = .ok (.iload 6, 2) := by decide +kernel
theorem dX9_addWall_93 : decode cX9_addWall 93 = .ok (.invokevirtual 101, 3) := by decide +kernel
theorem dX9_addWall_96 : decode cX9_addWall 96 = .ok (.iload 7, 2) := by decide +kernel
theorem dX9_addWall_98 : decode cX9_addWall 98 = .ok (.ireturn, 1) := by decide +kernel
theorem dX9_removeWall_0 : decode cX9_removeWall 0 = .ok (.aload_n 0, 1) := by decide +kernel
theorem dX9_removeWall_1 : decode cX9_removeWall 1 = .ok (.getfield 12, 3) := by decide +kernel
theorem dX9_removeWall_4 : decode cX9_removeWall 4 = .ok (.iload_n 1, 1) := by decide +kernel
theorem dX9_removeWall_5 : decode cX9_removeWall 5 = .ok (.invokevirtual 105, 3) := by decide +kernel
theorem dX9_removeWall_8 : decode cX9_removeWall 8 = .ok (.ifCond .ne 5, 3) := by decide +kernel
theorem dX9_removeWall_11 : decode cX9_removeWall 11 = .ok (.iconst (-1), 1) := by decide +kernel
theorem dX9_removeWall_12 : decode cX9_removeWall 12 = .ok (.ireturn, 1) := by decide +kernel
theorem dX9_removeWall_13 : decode cX9_removeWall 13 = .ok (.aload_n 0, 1) := by decide +kernel
theorem dX9_removeWall_14 : decode cX9_removeWall 14 = .ok (.invokevirtual 98, 3) := by decide +kernel
theorem dX9_removeWall_17 : decode cX9_removeWall 17 = .ok (.aload_n 0, 1) := by decide +kernel
theorem dX9_removeWall_18 : decode cX9_removeWall 18 = .ok (.getfield 12, 3) := by decide +kernel
theorem dX9_removeWall_21 : decode cX9_removeWall 21 = .ok (.iload_n 1, 1) := by decide +kernel
theorem dX9_removeWall_22 : decode cX9_removeWall 22 = .ok (.invokevirtual 109, 3) := by decide +kernel
theorem dX9_removeWall_25 : decode cX9_removeWall 25 = .ok (.aload_n 0, 1) := by decide +kernel
theorem dX9_removeWall_26 : decode cX9_removeWall 26 = .ok (.getfield 12, 3) := by decide +kernel
theorem dX9_removeWall_29 : decode cX9_removeWall 29 = .ok (.invokevirtual 113, 3) := by decide +kernel
theorem dX9_removeWall_32 : decode cX9_removeWall 32 = .ok (.ireturn, 1) := by decide +kernel
theorem dX9_moveWall_0 : decode cX9_moveWall 0 = .ok (.aload_n 0, 1) := by decide +kernel
theorem dX9_moveWall_1 : decode cX9_moveWall 1 = .ok (.getfield 12, 3) := by decide +kernel
theorem dX9_moveWall_4 : decode cX9_moveWall 4 = .ok (.iload_n 1, 1) := by decide +kernel
theorem dX9_moveWall_5 : decode cX9_moveWall 5 = .ok (.invokevirtual 105, 3) := by decide +kernel
theorem dX9_moveWall_8 : decode cX9_moveWall 8 = .ok (.ifCond .ne 5, 3) := by decide +kernel
theorem dX9_moveWall_11 : decode cX9_moveWall 11 = .ok (.iconst (-1), 1) := by decide +kernel
theorem dX9_moveWall_12 : decode cX9_moveWall 12 = .ok (.ireturn, 1) := by decide +kernel
theorem dX9_moveWall_13 : decode cX9_moveWall 13 = .ok (.iload_n 2, 1) := by decide +kernel
