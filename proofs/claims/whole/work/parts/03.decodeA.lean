/-! decode rows, by program (wip/whole/mk02.py) -/
theorem d_F_init_0 : decode c_F_init 0 = .ok (.aload_n 0, 1) := by decide +kernel
theorem d_F_init_1 : decode c_F_init 1 = .ok (.invokespecial 3, 3) := by decide +kernel
theorem d_F_init_4 : decode c_F_init 4 = .ok (.aload_n 0, 1) := by decide +kernel
theorem d_F_init_5 : decode c_F_init 5 = .ok (.iconst 0, 1) := by decide +kernel
theorem d_F_init_6 : decode c_F_init 6 = .ok (.putfield 9, 3) := by decide +kernel
theorem d_F_init_9 : decode c_F_init 9 = .ok (.aload_n 0, 1) := by decide +kernel
theorem d_F_init_10 : decode c_F_init 10 = .ok (.sipush 240, 3) := by decide +kernel
theorem d_F_init_13 : decode c_F_init 13 = .ok (.newarray .int, 2) := by decide +kernel
theorem d_F_init_15 : decode c_F_init 15 = .ok (.putfield 15, 3) := by decide +kernel
theorem d_F_init_18 : decode c_F_init 18 = .ok (.aload_n 0, 1) := by decide +kernel
theorem d_F_init_19 : decode c_F_init 19 = .ok (.sipush 240, 3) := by decide +kernel
theorem d_F_init_22 : decode c_F_init 22 = .ok (.newarray .int, 2) := by decide +kernel
theorem d_F_init_24 : decode c_F_init 24 = .ok (.putfield 19, 3) := by decide +kernel
theorem d_F_init_27 : decode c_F_init 27 = .ok (.aload_n 0, 1) := by decide +kernel
theorem d_F_init_28 : decode c_F_init 28 = .ok (.sipush 240, 3) := by decide +kernel
theorem d_F_init_31 : decode c_F_init 31 = .ok (.newarray .int, 2) := by decide +kernel
theorem d_F_init_33 : decode c_F_init 33 = .ok (.putfield 22, 3) := by decide +kernel
theorem d_F_init_36 : decode c_F_init 36 = .ok (.aload_n 0, 1) := by decide +kernel
theorem d_F_init_37 : decode c_F_init 37 = .ok (.sipush 240, 3) := by decide +kernel
theorem d_F_init_40 : decode c_F_init 40 = .ok (.newarray .boolean, 2) := by decide +kernel
theorem d_F_init_42 : decode c_F_init 42 = .ok (.putfield 25, 3) := by decide +kernel
theorem d_F_init_45 : decode c_F_init 45 = .ok (.aload_n 0, 1) := by decide +kernel
theorem d_F_init_46 : decode c_F_init 46 = .ok (.sipush 240, 3) := by decide +kernel
theorem d_F_init_49 : decode c_F_init 49 = .ok (.newarray .boolean, 2) := by decide +kernel
theorem d_F_init_51 : decode c_F_init 51 = .ok (.putfield 29, 3) := by decide +kernel
theorem d_F_init_54 : decode c_F_init 54 = .ok (.aload_n 0, 1) := by decide +kernel
theorem d_F_init_55 : decode c_F_init 55 = .ok (.sipush 240, 3) := by decide +kernel
theorem d_F_init_58 : decode c_F_init 58 = .ok (.newarray .int, 2) := by decide +kernel
theorem d_F_init_60 : decode c_F_init 60 = .ok (.putfield 32, 3) := by decide +kernel
theorem d_F_init_63 : decode c_F_init 63 = .ok (.aload_n 0, 1) := by decide +kernel
theorem d_F_init_64 : decode c_F_init 64 = .ok (.sipush 240, 3) := by decide +kernel
theorem d_F_init_67 : decode c_F_init 67 = .ok (.newarray .int, 2) := by decide +kernel
theorem d_F_init_69 : decode c_F_init 69 = .ok (.putfield 35, 3) := by decide +kernel
theorem d_F_init_72 : decode c_F_init 72 = .ok (.aload_n 0, 1) := by decide +kernel
theorem d_F_init_73 : decode c_F_init 73 = .ok (.sipush 240, 3) := by decide +kernel
theorem d_F_init_76 : decode c_F_init 76 = .ok (.newarray .int, 2) := by decide +kernel
theorem d_F_init_78 : decode c_F_init 78 = .ok (.putfield 38, 3) := by decide +kernel
theorem d_F_init_81 : decode c_F_init 81 = .ok (.aload_n 0, 1) := by decide +kernel
theorem d_F_init_82 : decode c_F_init 82 = .ok (.sipush 2880, 3) := by decide +kernel
theorem d_F_init_85 : decode c_F_init 85 = .ok (.newarray .int, 2) := by decide +kernel
theorem d_F_init_87 : decode c_F_init 87 = .ok (.putfield 41, 3) := by decide +kernel
theorem d_F_init_90 : decode c_F_init 90 = .ok (.aload_n 0, 1) := by decide +kernel
theorem d_F_init_91 : decode c_F_init 91 = .ok (.sipush 240, 3) := by decide +kernel
theorem d_F_init_94 : decode c_F_init 94 = .ok (.newarray .int, 2) := by decide +kernel
theorem d_F_init_96 : decode c_F_init 96 = .ok (.putfield 44, 3) := by decide +kernel
theorem d_F_init_99 : decode c_F_init 99 = .ok (.aload_n 0, 1) := by decide +kernel
theorem d_F_init_100 : decode c_F_init 100 = .ok (.sipush 720, 3) := by decide +kernel
theorem d_F_init_103 : decode c_F_init 103 = .ok (.newarray .int, 2) := by decide +kernel
theorem d_F_init_105 : decode c_F_init 105 = .ok (.putfield 47, 3) := by decide +kernel
theorem d_F_init_108 : decode c_F_init 108 = .ok (.aload_n 0, 1) := by decide +kernel
theorem d_F_init_109 : decode c_F_init 109 = .ok (.sipush 720, 3) := by decide +kernel
theorem d_F_init_112 : decode c_F_init 112 = .ok (.newarray .int, 2) := by decide +kernel
theorem d_F_init_114 : decode c_F_init 114 = .ok (.putfield 50, 3) := by decide +kernel
theorem d_F_init_117 : decode c_F_init 117 = .ok (.return_, 1) := by decide +kernel
theorem d_F_treeCount_0 : decode c_F_treeCount 0 = .ok (.aload_n 0, 1) := by decide +kernel
theorem d_F_treeCount_1 : decode c_F_treeCount 1 = .ok (.getfield 9, 3) := by decide +kernel
theorem d_F_treeCount_4 : decode c_F_treeCount 4 = .ok (.ireturn, 1) := by decide +kernel
theorem d_F_isFull_0 : decode c_F_isFull 0 = .ok (.aload_n 0, 1) := by decide +kernel
theorem d_F_isFull_1 : decode c_F_isFull 1 = .ok (.getfield 9, 3) := by decide +kernel
theorem d_F_isFull_4 : decode c_F_isFull 4 = .ok (.sipush 240, 3) := by decide +kernel
theorem d_F_isFull_7 : decode c_F_isFull 7 = .ok (.if_icmp .lt 7, 3) := by decide +kernel
theorem d_F_isFull_10 : decode c_F_isFull 10 = .ok (.iconst 1, 1) := by decide +kernel
theorem d_F_isFull_11 : decode c_F_isFull 11 = .ok (.goto 4, 3) := by decide +kernel
theorem d_F_isFull_14 : decode c_F_isFull 14 = .ok (.iconst 0, 1) := by decide +kernel
theorem d_F_isFull_15 : decode c_F_isFull 15 = .ok (.ireturn, 1) := by decide +kernel
theorem d_F_hasTree_0 : decode c_F_hasTree 0 = .ok (.iload_n 1, 1) := by decide +kernel
theorem d_F_hasTree_1 : decode c_F_hasTree 1 = .ok (.ifCond .lt 15, 3) := by decide +kernel
theorem d_F_hasTree_4 : decode c_F_hasTree 4 = .ok (.iload_n 1, 1) := by decide +kernel
theorem d_F_hasTree_5 : decode c_F_hasTree 5 = .ok (.aload_n 0, 1) := by decide +kernel
theorem d_F_hasTree_6 : decode c_F_hasTree 6 = .ok (.getfield 9, 3) := by decide +kernel
theorem d_F_hasTree_9 : decode c_F_hasTree 9 = .ok (.if_icmp .ge 7, 3) := by decide +kernel
theorem d_F_hasTree_12 : decode c_F_hasTree 12 = .ok (.iconst 1, 1) := by decide +kernel
theorem d_F_hasTree_13 : decode c_F_hasTree 13 = .ok (.goto 4, 3) := by decide +kernel
theorem d_F_hasTree_16 : decode c_F_hasTree 16 = .ok (.iconst 0, 1) := by decide +kernel
theorem d_F_hasTree_17 : decode c_F_hasTree 17 = .ok (.ireturn, 1) := by decide +kernel
theorem d_F_add_0 : decode c_F_add 0 = .ok (.aload_n 0, 1) := by decide +kernel
theorem d_F_add_1 : decode c_F_add 1 = .ok (.getfield 9, 3) := by decide +kernel
theorem d_F_add_4 : decode c_F_add 4 = .ok (.istore 4, 2) := by decide +kernel
theorem d_F_add_6 : decode c_F_add 6 = .ok (.aload_n 0, 1) := by decide +kernel
theorem d_F_add_7 : decode c_F_add 7 = .ok (.getfield 15, 3) := by decide +kernel
theorem d_F_add_10 : decode c_F_add 10 = .ok (.iload 4, 2) := by decide +kernel
theorem d_F_add_12 : decode c_F_add 12 = .ok (.iload_n 1, 1) := by decide +kernel
theorem d_F_add_13 : decode c_F_add 13 = .ok (.iastore, 1) := by decide +kernel
theorem d_F_add_14 : decode c_F_add 14 = .ok (.aload_n 0, 1) := by decide +kernel
theorem d_F_add_15 : decode c_F_add 15 = .ok (.getfield 19, 3) := by decide +kernel
theorem d_F_add_18 : decode c_F_add 18 = .ok (.iload 4, 2) := by decide +kernel
theorem d_F_add_20 : decode c_F_add 20 = .ok (.iload_n 2, 1) := by decide +kernel
theorem d_F_add_21 : decode c_F_add 21 = .ok (.iastore, 1) := by decide +kernel
theorem d_F_add_22 : decode c_F_add 22 = .ok (.aload_n 0, 1) := by decide +kernel
theorem d_F_add_23 : decode c_F_add 23 = .ok (.getfield 22, 3) := by decide +kernel
theorem d_F_add_26 : decode c_F_add 26 = .ok (.iload 4, 2) := by decide +kernel
theorem d_F_add_28 : decode c_F_add 28 = .ok (.iload_n 3, 1) := by decide +kernel
theorem d_F_add_29 : decode c_F_add 29 = .ok (.iastore, 1) := by decide +kernel
theorem d_F_add_30 : decode c_F_add 30 = .ok (.aload_n 0, 1) := by decide +kernel
theorem d_F_add_31 : decode c_F_add 31 = .ok (.getfield 25, 3) := by decide +kernel
theorem d_F_add_34 : decode c_F_add 34 = .ok (.iload 4, 2) := by decide +kernel
theorem d_F_add_36 : decode c_F_add 36 = .ok (.iload_n 1, 1) := by decide +kernel
theorem d_F_add_37 : decode c_F_add 37 = .ok (.iconst 2, 1) := by decide +kernel
theorem d_F_add_38 : decode c_F_add 38 = .ok (.if_icmp .eq 7, 3) := by decide +kernel
theorem d_F_add_41 : decode c_F_add 41 = .ok (.iconst 1, 1) := by decide +kernel
theorem d_F_add_42 : decode c_F_add 42 = .ok (.goto 4, 3) := by decide +kernel
theorem d_F_add_45 : decode c_F_add 45 = .ok (.iconst 0, 1) := by decide +kernel
theorem d_F_add_46 : decode c_F_add 46 = .ok (.bastore, 1) := by decide +kernel
theorem d_F_add_47 : decode c_F_add 47 = .ok (.aload_n 0, 1) := by decide +kernel
theorem d_F_add_48 : decode c_F_add 48 = .ok (.getfield 35, 3) := by decide +kernel
theorem d_F_add_51 : decode c_F_add 51 = .ok (.iload 4, 2) := by decide +kernel
theorem d_F_add_53 : decode c_F_add 53 = .ok (.iconst 1, 1) := by decide +kernel
theorem d_F_add_54 : decode c_F_add 54 = .ok (.iastore, 1) := by decide +kernel
theorem d_F_add_55 : decode c_F_add 55 = .ok (.aload_n 0, 1) := by decide +kernel
theorem d_F_add_56 : decode c_F_add 56 = .ok (.dup, 1) := by decide +kernel
theorem d_F_add_57 : decode c_F_add 57 = .ok (.getfield 9, 3) := by decide +kernel
theorem d_F_add_60 : decode c_F_add 60 = .ok (.iconst 1, 1) := by decide +kernel
theorem d_F_add_61 : decode c_F_add 61 = .ok (.iadd, 1) := by decide +kernel
theorem d_F_add_62 : decode c_F_add 62 = .ok (.putfield 9, 3) := by decide +kernel
theorem d_F_add_65 : decode c_F_add 65 = .ok (.iload 4, 2) := by decide +kernel
theorem d_F_add_67 : decode c_F_add 67 = .ok (.ireturn, 1) := by decide +kernel
theorem d_F_close_0 : decode c_F_close 0 = .ok (.aload_n 0, 1) := by decide +kernel
theorem d_F_close_1 : decode c_F_close 1 = .ok (.getfield 29, 3) := by decide +kernel
theorem d_F_close_4 : decode c_F_close 4 = .ok (.iload_n 1, 1) := by decide +kernel
theorem d_F_close_5 : decode c_F_close 5 = .ok (.iconst 1, 1) := by decide +kernel
theorem d_F_close_6 : decode c_F_close 6 = .ok (.bastore, 1) := by decide +kernel
theorem d_F_close_7 : decode c_F_close 7 = .ok (.return_, 1) := by decide +kernel
theorem d_F_isPlain_0 : decode c_F_isPlain 0 = .ok (.aload_n 0, 1) := by decide +kernel
theorem d_F_isPlain_1 : decode c_F_isPlain 1 = .ok (.getfield 25, 3) := by decide +kernel
theorem d_F_isPlain_4 : decode c_F_isPlain 4 = .ok (.iload_n 1, 1) := by decide +kernel
theorem d_F_isPlain_5 : decode c_F_isPlain 5 = .ok (.baload, 1) := by decide +kernel
theorem d_F_isPlain_6 : decode c_F_isPlain 6 = .ok (.ireturn, 1) := by decide +kernel
theorem d_F_isLeaf_0 : decode c_F_isLeaf 0 = .ok (.aload_n 0, 1) := by decide +kernel
theorem d_F_isLeaf_1 : decode c_F_isLeaf 1 = .ok (.getfield 15, 3) := by decide +kernel
theorem d_F_isLeaf_4 : decode c_F_isLeaf 4 = .ok (.iload_n 1, 1) := by decide +kernel
theorem d_F_isLeaf_5 : decode c_F_isLeaf 5 = .ok (.iaload, 1) := by decide +kernel
theorem d_F_isLeaf_6 : decode c_F_isLeaf 6 = .ok (.ifCond .ne 7, 3) := by decide +kernel
theorem d_F_isLeaf_9 : decode c_F_isLeaf 9 = .ok (.iconst 1, 1) := by decide +kernel
theorem d_F_isLeaf_10 : decode c_F_isLeaf 10 = .ok (.goto 4, 3) := by decide +kernel
theorem d_F_isLeaf_13 : decode c_F_isLeaf 13 = .ok (.iconst 0, 1) := by decide +kernel
theorem d_F_isLeaf_14 : decode c_F_isLeaf 14 = .ok (.ireturn, 1) := by decide +kernel
theorem d_F_isNode_0 : decode c_F_isNode 0 = .ok (.aload_n 0, 1) := by decide +kernel
theorem d_F_isNode_1 : decode c_F_isNode 1 = .ok (.getfield 15, 3) := by decide +kernel
theorem d_F_isNode_4 : decode c_F_isNode 4 = .ok (.iload_n 1, 1) := by decide +kernel
theorem d_F_isNode_5 : decode c_F_isNode 5 = .ok (.iaload, 1) := by decide +kernel
theorem d_F_isNode_6 : decode c_F_isNode 6 = .ok (.iconst 1, 1) := by decide +kernel
theorem d_F_isNode_7 : decode c_F_isNode 7 = .ok (.if_icmp .ne 7, 3) := by decide +kernel
theorem d_F_isNode_10 : decode c_F_isNode 10 = .ok (.iconst 1, 1) := by decide +kernel
theorem d_F_isNode_11 : decode c_F_isNode 11 = .ok (.goto 4, 3) := by decide +kernel
theorem d_F_isNode_14 : decode c_F_isNode 14 = .ok (.iconst 0, 1) := by decide +kernel
theorem d_F_isNode_15 : decode c_F_isNode 15 = .ok (.ireturn, 1) := by decide +kernel
theorem d_F_isHole_0 : decode c_F_isHole 0 = .ok (.aload_n 0, 1) := by decide +kernel
theorem d_F_isHole_1 : decode c_F_isHole 1 = .ok (.getfield 15, 3) := by decide +kernel
theorem d_F_isHole_4 : decode c_F_isHole 4 = .ok (.iload_n 1, 1) := by decide +kernel
theorem d_F_isHole_5 : decode c_F_isHole 5 = .ok (.iaload, 1) := by decide +kernel
theorem d_F_isHole_6 : decode c_F_isHole 6 = .ok (.iconst 2, 1) := by decide +kernel
theorem d_F_isHole_7 : decode c_F_isHole 7 = .ok (.if_icmp .ne 7, 3) := by decide +kernel
theorem d_F_isHole_10 : decode c_F_isHole 10 = .ok (.iconst 1, 1) := by decide +kernel
theorem d_F_isHole_11 : decode c_F_isHole 11 = .ok (.goto 4, 3) := by decide +kernel
theorem d_F_isHole_14 : decode c_F_isHole 14 = .ok (.iconst 0, 1) := by decide +kernel
theorem d_F_isHole_15 : decode c_F_isHole 15 = .ok (.ireturn, 1) := by decide +kernel
theorem d_F_isHoleOfKind_0 : decode c_F_isHoleOfKind 0 = .ok (.aload_n 0, 1) := by decide +kernel
theorem d_F_isHoleOfKind_1 : decode c_F_isHoleOfKind 1 = .ok (.getfield 15, 3) := by decide +kernel
theorem d_F_isHoleOfKind_4 : decode c_F_isHoleOfKind 4 = .ok (.iload_n 1, 1) := by decide +kernel
theorem d_F_isHoleOfKind_5 : decode c_F_isHoleOfKind 5 = .ok (.iaload, 1) := by decide +kernel
theorem d_F_isHoleOfKind_6 : decode c_F_isHoleOfKind 6 = .ok (.iconst 2, 1) := by decide +kernel
theorem d_F_isHoleOfKind_7 : decode c_F_isHoleOfKind 7 = .ok (.if_icmp .ne 17, 3) := by decide +kernel
theorem d_F_isHoleOfKind_10 : decode c_F_isHoleOfKind 10 = .ok (.aload_n 0, 1) := by decide +kernel
theorem d_F_isHoleOfKind_11 : decode c_F_isHoleOfKind 11 = .ok (.getfield 22, 3) := by decide +kernel
theorem d_F_isHoleOfKind_14 : decode c_F_isHoleOfKind 14 = .ok (.iload_n 1, 1) := by decide +kernel
theorem d_F_isHoleOfKind_15 : decode c_F_isHoleOfKind 15 = .ok (.iaload, 1) := by decide +kernel
theorem d_F_isHoleOfKind_16 : decode c_F_isHoleOfKind 16 = .ok (.iload_n 2, 1) := by decide +kernel
theorem d_F_isHoleOfKind_17 : decode c_F_isHoleOfKind 17 = .ok (.if_icmp .ne 7, 3) := by decide +kernel
theorem d_F_isHoleOfKind_20 : decode c_F_isHoleOfKind 20 = .ok (.iconst 1, 1) := by decide +kernel
theorem d_F_isHoleOfKind_21 : decode c_F_isHoleOfKind 21 = .ok (.goto 4, 3) := by decide +kernel
theorem d_F_isHoleOfKind_24 : decode c_F_isHoleOfKind 24 = .ok (.iconst 0, 1) := by decide +kernel
theorem d_F_isHoleOfKind_25 : decode c_F_isHoleOfKind 25 = .ok (.ireturn, 1) := by decide +kernel
theorem d_F_takesSeveral_0 : decode c_F_takesSeveral 0 = .ok (.aload_n 0, 1) := by decide +kernel
theorem d_F_takesSeveral_1 : decode c_F_takesSeveral 1 = .ok (.iload_n 1, 1) := by decide +kernel
theorem d_F_takesSeveral_2 : decode c_F_takesSeveral 2 = .ok (.iconst 2, 1) := by decide +kernel
theorem d_F_takesSeveral_3 : decode c_F_takesSeveral 3 = .ok (.invokevirtual 53, 3) := by decide +kernel
theorem d_F_takesSeveral_6 : decode c_F_takesSeveral 6 = .ok (.ifCond .ne 12, 3) := by decide +kernel
theorem d_F_takesSeveral_9 : decode c_F_takesSeveral 9 = .ok (.aload_n 0, 1) := by decide +kernel
theorem d_F_takesSeveral_10 : decode c_F_takesSeveral 10 = .ok (.iload_n 1, 1) := by decide +kernel
theorem d_F_takesSeveral_11 : decode c_F_takesSeveral 11 = .ok (.iconst 3, 1) := by decide +kernel
theorem d_F_takesSeveral_12 : decode c_F_takesSeveral 12 = .ok (.invokevirtual 53, 3) := by decide +kernel
theorem d_F_takesSeveral_15 : decode c_F_takesSeveral 15 = .ok (.ifCond .eq 7, 3) := by decide +kernel
theorem d_F_takesSeveral_18 : decode c_F_takesSeveral 18 = .ok (.iconst 1, 1) := by decide +kernel
theorem d_F_takesSeveral_19 : decode c_F_takesSeveral 19 = .ok (.goto 4, 3) := by decide +kernel
theorem d_F_takesSeveral_22 : decode c_F_takesSeveral 22 = .ok (.iconst 0, 1) := by decide +kernel
theorem d_F_takesSeveral_23 : decode c_F_takesSeveral 23 = .ok (.ireturn, 1) := by decide +kernel
theorem d_F_isAnyOrder_0 : decode c_F_isAnyOrder 0 = .ok (.aload_n 0, 1) := by decide +kernel
theorem d_F_isAnyOrder_1 : decode c_F_isAnyOrder 1 = .ok (.getfield 15, 3) := by decide +kernel
theorem d_F_isAnyOrder_4 : decode c_F_isAnyOrder 4 = .ok (.iload_n 1, 1) := by decide +kernel
theorem d_F_isAnyOrder_5 : decode c_F_isAnyOrder 5 = .ok (.iaload, 1) := by decide +kernel
theorem d_F_isAnyOrder_6 : decode c_F_isAnyOrder 6 = .ok (.iconst 1, 1) := by decide +kernel
theorem d_F_isAnyOrder_7 : decode c_F_isAnyOrder 7 = .ok (.if_icmp .ne 17, 3) := by decide +kernel
theorem d_F_isAnyOrder_10 : decode c_F_isAnyOrder 10 = .ok (.aload_n 0, 1) := by decide +kernel
theorem d_F_isAnyOrder_11 : decode c_F_isAnyOrder 11 = .ok (.getfield 19, 3) := by decide +kernel
theorem d_F_isAnyOrder_14 : decode c_F_isAnyOrder 14 = .ok (.iload_n 1, 1) := by decide +kernel
theorem d_F_isAnyOrder_15 : decode c_F_isAnyOrder 15 = .ok (.iaload, 1) := by decide +kernel
theorem d_F_isAnyOrder_16 : decode c_F_isAnyOrder 16 = .ok (.iconst 5, 1) := by decide +kernel
theorem d_F_isAnyOrder_17 : decode c_F_isAnyOrder 17 = .ok (.if_icmp .lt 7, 3) := by decide +kernel
theorem d_F_isAnyOrder_20 : decode c_F_isAnyOrder 20 = .ok (.iconst 1, 1) := by decide +kernel
theorem d_F_isAnyOrder_21 : decode c_F_isAnyOrder 21 = .ok (.goto 4, 3) := by decide +kernel
theorem d_F_isAnyOrder_24 : decode c_F_isAnyOrder 24 = .ok (.iconst 0, 1) := by decide +kernel
theorem d_F_isAnyOrder_25 : decode c_F_isAnyOrder 25 = .ok (.ireturn, 1) := by decide +kernel
theorem d_F_nameOf_0 : decode c_F_nameOf 0 = .ok (.aload_n 0, 1) := by decide +kernel
theorem d_F_nameOf_1 : decode c_F_nameOf 1 = .ok (.getfield 19, 3) := by decide +kernel
theorem d_F_nameOf_4 : decode c_F_nameOf 4 = .ok (.iload_n 1, 1) := by decide +kernel
theorem d_F_nameOf_5 : decode c_F_nameOf 5 = .ok (.iaload, 1) := by decide +kernel
theorem d_F_nameOf_6 : decode c_F_nameOf 6 = .ok (.ireturn, 1) := by decide +kernel
theorem d_F_partCount_0 : decode c_F_partCount 0 = .ok (.aload_n 0, 1) := by decide +kernel
theorem d_F_partCount_1 : decode c_F_partCount 1 = .ok (.getfield 38, 3) := by decide +kernel
theorem d_F_partCount_4 : decode c_F_partCount 4 = .ok (.iload_n 1, 1) := by decide +kernel
theorem d_F_partCount_5 : decode c_F_partCount 5 = .ok (.iaload, 1) := by decide +kernel
theorem d_F_partCount_6 : decode c_F_partCount 6 = .ok (.ireturn, 1) := by decide +kernel
theorem d_F_partAt_0 : decode c_F_partAt 0 = .ok (.aload_n 0, 1) := by decide +kernel
theorem d_F_partAt_1 : decode c_F_partAt 1 = .ok (.getfield 41, 3) := by decide +kernel
theorem d_F_partAt_4 : decode c_F_partAt 4 = .ok (.iload_n 1, 1) := by decide +kernel
theorem d_F_partAt_5 : decode c_F_partAt 5 = .ok (.bipush 12, 2) := by decide +kernel
theorem d_F_partAt_7 : decode c_F_partAt 7 = .ok (.imul, 1) := by decide +kernel
theorem d_F_partAt_8 : decode c_F_partAt 8 = .ok (.iload_n 2, 1) := by decide +kernel
theorem d_F_partAt_9 : decode c_F_partAt 9 = .ok (.iadd, 1) := by decide +kernel
theorem d_F_partAt_10 : decode c_F_partAt 10 = .ok (.iaload, 1) := by decide +kernel
theorem d_F_partAt_11 : decode c_F_partAt 11 = .ok (.ireturn, 1) := by decide +kernel
theorem d_F_looksLike_0 : decode c_F_looksLike 0 = .ok (.aload_n 0, 1) := by decide +kernel
theorem d_F_looksLike_1 : decode c_F_looksLike 1 = .ok (.getfield 15, 3) := by decide +kernel
theorem d_F_looksLike_4 : decode c_F_looksLike 4 = .ok (.iload_n 1, 1) := by decide +kernel
theorem d_F_looksLike_5 : decode c_F_looksLike 5 = .ok (.iaload, 1) := by decide +kernel
theorem d_F_looksLike_6 : decode c_F_looksLike 6 = .ok (.aload_n 0, 1) := by decide +kernel
theorem d_F_looksLike_7 : decode c_F_looksLike 7 = .ok (.getfield 15, 3) := by decide +kernel
theorem d_F_looksLike_10 : decode c_F_looksLike 10 = .ok (.iload_n 2, 1) := by decide +kernel
theorem d_F_looksLike_11 : decode c_F_looksLike 11 = .ok (.iaload, 1) := by decide +kernel
theorem d_F_looksLike_12 : decode c_F_looksLike 12 = .ok (.if_icmp .ne 22, 3) := by decide +kernel
theorem d_F_looksLike_15 : decode c_F_looksLike 15 = .ok (.aload_n 0, 1) := by decide +kernel
theorem d_F_looksLike_16 : decode c_F_looksLike 16 = .ok (.getfield 19, 3) := by decide +kernel
theorem d_F_looksLike_19 : decode c_F_looksLike 19 = .ok (.iload_n 1, 1) := by decide +kernel
theorem d_F_looksLike_20 : decode c_F_looksLike 20 = .ok (.iaload, 1) := by decide +kernel
theorem d_F_looksLike_21 : decode c_F_looksLike 21 = .ok (.aload_n 0, 1) := by decide +kernel
theorem d_F_looksLike_22 : decode c_F_looksLike 22 = .ok (.getfield 19, 3) := by decide +kernel
theorem d_F_looksLike_25 : decode c_F_looksLike 25 = .ok (.iload_n 2, 1) := by decide +kernel
theorem d_F_looksLike_26 : decode c_F_looksLike 26 = .ok (.iaload, 1) := by decide +kernel
theorem d_F_looksLike_27 : decode c_F_looksLike 27 = .ok (.if_icmp .ne 7, 3) := by decide +kernel
theorem d_F_looksLike_30 : decode c_F_looksLike 30 = .ok (.iconst 1, 1) := by decide +kernel
theorem d_F_looksLike_31 : decode c_F_looksLike 31 = .ok (.goto 4, 3) := by decide +kernel
theorem d_F_looksLike_34 : decode c_F_looksLike 34 = .ok (.iconst 0, 1) := by decide +kernel
theorem d_F_looksLike_35 : decode c_F_looksLike 35 = .ok (.ireturn, 1) := by decide +kernel
theorem d_F_mayTake_0 : decode c_F_mayTake 0 = .ok (.aload_n 0, 1) := by decide +kernel
theorem d_F_mayTake_1 : decode c_F_mayTake 1 = .ok (.getfield 15, 3) := by decide +kernel
theorem d_F_mayTake_4 : decode c_F_mayTake 4 = .ok (.iload_n 1, 1) := by decide +kernel
theorem d_F_mayTake_5 : decode c_F_mayTake 5 = .ok (.iaload, 1) := by decide +kernel
theorem d_F_mayTake_6 : decode c_F_mayTake 6 = .ok (.iconst 1, 1) := by decide +kernel
theorem d_F_mayTake_7 : decode c_F_mayTake 7 = .ok (.if_icmp .ne 50, 3) := by decide +kernel
theorem d_F_mayTake_10 : decode c_F_mayTake 10 = .ok (.aload_n 0, 1) := by decide +kernel
theorem d_F_mayTake_11 : decode c_F_mayTake 11 = .ok (.getfield 29, 3) := by decide +kernel
theorem d_F_mayTake_14 : decode c_F_mayTake 14 = .ok (.iload_n 1, 1) := by decide +kernel
theorem d_F_mayTake_15 : decode c_F_mayTake 15 = .ok (.baload, 1) := by decide +kernel
theorem d_F_mayTake_16 : decode c_F_mayTake 16 = .ok (.ifCond .ne 41, 3) := by decide +kernel
theorem d_F_mayTake_19 : decode c_F_mayTake 19 = .ok (.iload_n 2, 1) := by decide +kernel
theorem d_F_mayTake_20 : decode c_F_mayTake 20 = .ok (.iload_n 1, 1) := by decide +kernel
theorem d_F_mayTake_21 : decode c_F_mayTake 21 = .ok (.if_icmp .eq 36, 3) := by decide +kernel
theorem d_F_mayTake_24 : decode c_F_mayTake 24 = .ok (.aload_n 0, 1) := by decide +kernel
theorem d_F_mayTake_25 : decode c_F_mayTake 25 = .ok (.getfield 32, 3) := by decide +kernel
theorem d_F_mayTake_28 : decode c_F_mayTake 28 = .ok (.iload_n 2, 1) := by decide +kernel
theorem d_F_mayTake_29 : decode c_F_mayTake 29 = .ok (.iaload, 1) := by decide +kernel
theorem d_F_mayTake_30 : decode c_F_mayTake 30 = .ok (.bipush 20, 2) := by decide +kernel
theorem d_F_mayTake_32 : decode c_F_mayTake 32 = .ok (.if_icmp .ge 25, 3) := by decide +kernel
theorem d_F_mayTake_35 : decode c_F_mayTake 35 = .ok (.aload_n 0, 1) := by decide +kernel
theorem d_F_mayTake_36 : decode c_F_mayTake 36 = .ok (.getfield 35, 3) := by decide +kernel
theorem d_F_mayTake_39 : decode c_F_mayTake 39 = .ok (.iload_n 1, 1) := by decide +kernel
theorem d_F_mayTake_40 : decode c_F_mayTake 40 = .ok (.iaload, 1) := by decide +kernel
theorem d_F_mayTake_41 : decode c_F_mayTake 41 = .ok (.aload_n 0, 1) := by decide +kernel
theorem d_F_mayTake_42 : decode c_F_mayTake 42 = .ok (.getfield 35, 3) := by decide +kernel
theorem d_F_mayTake_45 : decode c_F_mayTake 45 = .ok (.iload_n 2, 1) := by decide +kernel
theorem d_F_mayTake_46 : decode c_F_mayTake 46 = .ok (.iaload, 1) := by decide +kernel
theorem d_F_mayTake_47 : decode c_F_mayTake 47 = .ok (.iadd, 1) := by decide +kernel
theorem d_F_mayTake_48 : decode c_F_mayTake 48 = .ok (.bipush 70, 2) := by decide +kernel
theorem d_F_mayTake_50 : decode c_F_mayTake 50 = .ok (.if_icmp .gt 7, 3) := by decide +kernel
theorem d_F_mayTake_53 : decode c_F_mayTake 53 = .ok (.iconst 1, 1) := by decide +kernel
theorem d_F_mayTake_54 : decode c_F_mayTake 54 = .ok (.goto 4, 3) := by decide +kernel
theorem d_F_mayTake_57 : decode c_F_mayTake 57 = .ok (.iconst 0, 1) := by decide +kernel
theorem d_F_mayTake_58 : decode c_F_mayTake 58 = .ok (.ireturn, 1) := by decide +kernel
theorem d_F_addPart_0 : decode c_F_addPart 0 = .ok (.aload_n 0, 1) := by decide +kernel
theorem d_F_addPart_1 : decode c_F_addPart 1 = .ok (.getfield 38, 3) := by decide +kernel
theorem d_F_addPart_4 : decode c_F_addPart 4 = .ok (.iload_n 1, 1) := by decide +kernel
theorem d_F_addPart_5 : decode c_F_addPart 5 = .ok (.iaload, 1) := by decide +kernel
theorem d_F_addPart_6 : decode c_F_addPart 6 = .ok (.istore_n 3, 1) := by decide +kernel
theorem d_F_addPart_7 : decode c_F_addPart 7 = .ok (.iload_n 3, 1) := by decide +kernel
theorem d_F_addPart_8 : decode c_F_addPart 8 = .ok (.bipush 12, 2) := by decide +kernel
theorem d_F_addPart_10 : decode c_F_addPart 10 = .ok (.if_icmp .lt 5, 3) := by decide +kernel
theorem d_F_addPart_13 : decode c_F_addPart 13 = .ok (.iconst 0, 1) := by decide +kernel
theorem d_F_addPart_14 : decode c_F_addPart 14 = .ok (.ireturn, 1) := by decide +kernel
theorem d_F_addPart_15 : decode c_F_addPart 15 = .ok (.iload_n 1, 1) := by decide +kernel
theorem d_F_addPart_16 : decode c_F_addPart 16 = .ok (.bipush 12, 2) := by decide +kernel
theorem d_F_addPart_18 : decode c_F_addPart 18 = .ok (.imul, 1) := by decide +kernel
theorem d_F_addPart_19 : decode c_F_addPart 19 = .ok (.istore 4, 2) := by decide +kernel
theorem d_F_addPart_21 : decode c_F_addPart 21 = .ok (.aload_n 0, 1) := by decide +kernel
theorem d_F_addPart_22 : decode c_F_addPart 22 = .ok (.iload_n 1, 1) := by decide +kernel
theorem d_F_addPart_23 : decode c_F_addPart 23 = .ok (.iload_n 2, 1) := by decide +kernel
theorem d_F_addPart_24 : decode c_F_addPart 24 = .ok (.invokevirtual 57, 3) := by decide +kernel
theorem d_F_addPart_27 : decode c_F_addPart 27 = .ok (.istore 5, 2) := by decide +kernel
theorem d_F_addPart_29 : decode c_F_addPart 29 = .ok (.iload_n 3, 1) := by decide +kernel
theorem d_F_addPart_30 : decode c_F_addPart 30 = .ok (.istore 6, 2) := by decide +kernel
theorem d_F_addPart_32 : decode c_F_addPart 32 = .ok (.iload 6, 2) := by decide +kernel
theorem d_F_addPart_34 : decode c_F_addPart 34 = .ok (.iload 5, 2) := by decide +kernel
theorem d_F_addPart_36 : decode c_F_addPart 36 = .ok (.if_icmp .le 31, 3) := by decide +kernel
theorem d_F_addPart_39 : decode c_F_addPart 39 = .ok (.aload_n 0, 1) := by decide +kernel
theorem d_F_addPart_40 : decode c_F_addPart 40 = .ok (.getfield 41, 3) := by decide +kernel
theorem d_F_addPart_43 : decode c_F_addPart 43 = .ok (.iload 4, 2) := by decide +kernel
theorem d_F_addPart_45 : decode c_F_addPart 45 = .ok (.iload 6, 2) := by decide +kernel
theorem d_F_addPart_47 : decode c_F_addPart 47 = .ok (.iadd, 1) := by decide +kernel
theorem d_F_addPart_48 : decode c_F_addPart 48 = .ok (.aload_n 0, 1) := by decide +kernel
theorem d_F_addPart_49 : decode c_F_addPart 49 = .ok (.getfield 41, 3) := by decide +kernel
theorem d_F_addPart_52 : decode c_F_addPart 52 = .ok (.iload 4, 2) := by decide +kernel
theorem d_F_addPart_54 : decode c_F_addPart 54 = .ok (.iload 6, 2) := by decide +kernel
theorem d_F_addPart_56 : decode c_F_addPart 56 = .ok (.iadd, 1) := by decide +kernel
theorem d_F_addPart_57 : decode c_F_addPart 57 = .ok (.iconst 1, 1) := by decide +kernel
theorem d_F_addPart_58 : decode c_F_addPart 58 = .ok (.isub, 1) := by decide +kernel
theorem d_F_addPart_59 : decode c_F_addPart 59 = .ok (.iaload, 1) := by decide +kernel
theorem d_F_addPart_60 : decode c_F_addPart 60 = .ok (.iastore, 1) := by decide +kernel
theorem d_F_addPart_61 : decode c_F_addPart 61 = .ok (.iinc 6 (-1), 3) := by decide +kernel
theorem d_F_addPart_64 : decode c_F_addPart 64 = .ok (.goto (-32), 3) := by decide +kernel
theorem d_F_addPart_67 : decode c_F_addPart 67 = .ok (.aload_n 0, 1) := by decide +kernel
theorem d_F_addPart_68 : decode c_F_addPart 68 = .ok (.getfield 41, 3) := by decide +kernel
theorem d_F_addPart_71 : decode c_F_addPart 71 = .ok (.iload 4, 2) := by decide +kernel
theorem d_F_addPart_73 : decode c_F_addPart 73 = .ok (.iload 5, 2) := by decide +kernel
theorem d_F_addPart_75 : decode c_F_addPart 75 = .ok (.iadd, 1) := by decide +kernel
theorem d_F_addPart_76 : decode c_F_addPart 76 = .ok (.iload_n 2, 1) := by decide +kernel
theorem d_F_addPart_77 : decode c_F_addPart 77 = .ok (.iastore, 1) := by decide +kernel
theorem d_F_addPart_78 : decode c_F_addPart 78 = .ok (.aload_n 0, 1) := by decide +kernel
theorem d_F_addPart_79 : decode c_F_addPart 79 = .ok (.getfield 38, 3) := by decide +kernel
theorem d_F_addPart_82 : decode c_F_addPart 82 = .ok (.iload_n 1, 1) := by decide +kernel
theorem d_F_addPart_83 : decode c_F_addPart 83 = .ok (.iload_n 3, 1) := by decide +kernel
theorem d_F_addPart_84 : decode c_F_addPart 84 = .ok (.iconst 1, 1) := by decide +kernel
theorem d_F_addPart_85 : decode c_F_addPart 85 = .ok (.iadd, 1) := by decide +kernel
theorem d_F_addPart_86 : decode c_F_addPart 86 = .ok (.iastore, 1) := by decide +kernel
theorem d_F_addPart_87 : decode c_F_addPart 87 = .ok (.aload_n 0, 1) := by decide +kernel
theorem d_F_addPart_88 : decode c_F_addPart 88 = .ok (.getfield 25, 3) := by decide +kernel
theorem d_F_addPart_91 : decode c_F_addPart 91 = .ok (.iload_n 1, 1) := by decide +kernel
theorem d_F_addPart_92 : decode c_F_addPart 92 = .ok (.aload_n 0, 1) := by decide +kernel
theorem d_F_addPart_93 : decode c_F_addPart 93 = .ok (.getfield 25, 3) := by decide +kernel
theorem d_F_addPart_96 : decode c_F_addPart 96 = .ok (.iload_n 1, 1) := by decide +kernel
theorem d_F_addPart_97 : decode c_F_addPart 97 = .ok (.baload, 1) := by decide +kernel
theorem d_F_addPart_98 : decode c_F_addPart 98 = .ok (.ifCond .eq 16, 3) := by decide +kernel
theorem d_F_addPart_101 : decode c_F_addPart 101 = .ok (.aload_n 0, 1) := by decide +kernel
theorem d_F_addPart_102 : decode c_F_addPart 102 = .ok (.getfield 25, 3) := by decide +kernel
theorem d_F_addPart_105 : decode c_F_addPart 105 = .ok (.iload_n 2, 1) := by decide +kernel
theorem d_F_addPart_106 : decode c_F_addPart 106 = .ok (.baload, 1) := by decide +kernel
theorem d_F_addPart_107 : decode c_F_addPart 107 = .ok (.ifCond .eq 7, 3) := by decide +kernel
theorem d_F_addPart_110 : decode c_F_addPart 110 = .ok (.iconst 1, 1) := by decide +kernel
theorem d_F_addPart_111 : decode c_F_addPart 111 = .ok (.goto 4, 3) := by decide +kernel
theorem d_F_addPart_114 : decode c_F_addPart 114 = .ok (.iconst 0, 1) := by decide +kernel
theorem d_F_addPart_115 : decode c_F_addPart 115 = .ok (.bastore, 1) := by decide +kernel
theorem d_F_addPart_116 : decode c_F_addPart 116 = .ok (.aload_n 0, 1) := by decide +kernel
theorem d_F_addPart_117 : decode c_F_addPart 117 = .ok (.getfield 32, 3) := by decide +kernel
theorem d_F_addPart_120 : decode c_F_addPart 120 = .ok (.iload_n 1, 1) := by decide +kernel
theorem d_F_addPart_121 : decode c_F_addPart 121 = .ok (.aload_n 0, 1) := by decide +kernel
theorem d_F_addPart_122 : decode c_F_addPart 122 = .ok (.getfield 32, 3) := by decide +kernel
theorem d_F_addPart_125 : decode c_F_addPart 125 = .ok (.iload_n 1, 1) := by decide +kernel
theorem d_F_addPart_126 : decode c_F_addPart 126 = .ok (.iaload, 1) := by decide +kernel
theorem d_F_addPart_127 : decode c_F_addPart 127 = .ok (.aload_n 0, 1) := by decide +kernel
theorem d_F_addPart_128 : decode c_F_addPart 128 = .ok (.getfield 32, 3) := by decide +kernel
theorem d_F_addPart_131 : decode c_F_addPart 131 = .ok (.iload_n 2, 1) := by decide +kernel
theorem d_F_addPart_132 : decode c_F_addPart 132 = .ok (.iaload, 1) := by decide +kernel
theorem d_F_addPart_133 : decode c_F_addPart 133 = .ok (.iconst 1, 1) := by decide +kernel
theorem d_F_addPart_134 : decode c_F_addPart 134 = .ok (.iadd, 1) := by decide +kernel
theorem d_F_addPart_135 : decode c_F_addPart 135 = .ok (.invokestatic 61, 3) := by decide +kernel
theorem d_F_addPart_138 : decode c_F_addPart 138 = .ok (.iastore, 1) := by decide +kernel
theorem d_F_addPart_139 : decode c_F_addPart 139 = .ok (.aload_n 0, 1) := by decide +kernel
theorem d_F_addPart_140 : decode c_F_addPart 140 = .ok (.getfield 35, 3) := by decide +kernel
theorem d_F_addPart_143 : decode c_F_addPart 143 = .ok (.iload_n 1, 1) := by decide +kernel
theorem d_F_addPart_144 : decode c_F_addPart 144 = .ok (.dup2, 1) := by decide +kernel
theorem d_F_addPart_145 : decode c_F_addPart 145 = .ok (.iaload, 1) := by decide +kernel
theorem d_F_addPart_146 : decode c_F_addPart 146 = .ok (.aload_n 0, 1) := by decide +kernel
theorem d_F_addPart_147 : decode c_F_addPart 147 = .ok (.getfield 35, 3) := by decide +kernel
theorem d_F_addPart_150 : decode c_F_addPart 150 = .ok (.iload_n 2, 1) := by decide +kernel
theorem d_F_addPart_151 : decode c_F_addPart 151 = .ok (.iaload, 1) := by decide +kernel
theorem d_F_addPart_152 : decode c_F_addPart 152 = .ok (.iadd, 1) := by decide +kernel
theorem d_F_addPart_153 : decode c_F_addPart 153 = .ok (.iastore, 1) := by decide +kernel
theorem d_F_addPart_154 : decode c_F_addPart 154 = .ok (.aload_n 0, 1) := by decide +kernel
theorem d_F_addPart_155 : decode c_F_addPart 155 = .ok (.getfield 29, 3) := by decide +kernel
theorem d_F_addPart_158 : decode c_F_addPart 158 = .ok (.iload_n 2, 1) := by decide +kernel
theorem d_F_addPart_159 : decode c_F_addPart 159 = .ok (.iconst 1, 1) := by decide +kernel
theorem d_F_addPart_160 : decode c_F_addPart 160 = .ok (.bastore, 1) := by decide +kernel
theorem d_F_addPart_161 : decode c_F_addPart 161 = .ok (.iconst 1, 1) := by decide +kernel
theorem d_F_addPart_162 : decode c_F_addPart 162 = .ok (.ireturn, 1) := by decide +kernel
theorem d_F_placeFor_0 : decode c_F_placeFor 0 = .ok (.aload_n 0, 1) := by decide +kernel
theorem d_F_placeFor_1 : decode c_F_placeFor 1 = .ok (.getfield 38, 3) := by decide +kernel
theorem d_F_placeFor_4 : decode c_F_placeFor 4 = .ok (.iload_n 1, 1) := by decide +kernel
theorem d_F_placeFor_5 : decode c_F_placeFor 5 = .ok (.iaload, 1) := by decide +kernel
theorem d_F_placeFor_6 : decode c_F_placeFor 6 = .ok (.istore_n 3, 1) := by decide +kernel
theorem d_F_placeFor_7 : decode c_F_placeFor 7 = .ok (.aload_n 0, 1) := by decide +kernel
theorem d_F_placeFor_8 : decode c_F_placeFor 8 = .ok (.iload_n 1, 1) := by decide +kernel
theorem d_F_placeFor_9 : decode c_F_placeFor 9 = .ok (.invokevirtual 66, 3) := by decide +kernel
theorem d_F_placeFor_12 : decode c_F_placeFor 12 = .ok (.ifCond .eq 21, 3) := by decide +kernel
theorem d_F_placeFor_15 : decode c_F_placeFor 15 = .ok (.aload_n 0, 1) := by decide +kernel
theorem d_F_placeFor_16 : decode c_F_placeFor 16 = .ok (.getfield 25, 3) := by decide +kernel
theorem d_F_placeFor_19 : decode c_F_placeFor 19 = .ok (.iload_n 1, 1) := by decide +kernel
theorem d_F_placeFor_20 : decode c_F_placeFor 20 = .ok (.baload, 1) := by decide +kernel
theorem d_F_placeFor_21 : decode c_F_placeFor 21 = .ok (.ifCond .eq 12, 3) := by decide +kernel
theorem d_F_placeFor_24 : decode c_F_placeFor 24 = .ok (.aload_n 0, 1) := by decide +kernel
theorem d_F_placeFor_25 : decode c_F_placeFor 25 = .ok (.getfield 25, 3) := by decide +kernel
theorem d_F_placeFor_28 : decode c_F_placeFor 28 = .ok (.iload_n 2, 1) := by decide +kernel
theorem d_F_placeFor_29 : decode c_F_placeFor 29 = .ok (.baload, 1) := by decide +kernel
theorem d_F_placeFor_30 : decode c_F_placeFor 30 = .ok (.ifCond .ne 5, 3) := by decide +kernel
theorem d_F_placeFor_33 : decode c_F_placeFor 33 = .ok (.iload_n 3, 1) := by decide +kernel
theorem d_F_placeFor_34 : decode c_F_placeFor 34 = .ok (.ireturn, 1) := by decide +kernel
theorem d_F_placeFor_35 : decode c_F_placeFor 35 = .ok (.iload_n 3, 1) := by decide +kernel
theorem d_F_placeFor_36 : decode c_F_placeFor 36 = .ok (.ifCond .le 25, 3) := by decide +kernel
theorem d_F_placeFor_39 : decode c_F_placeFor 39 = .ok (.aload_n 0, 1) := by decide +kernel
theorem d_F_placeFor_40 : decode c_F_placeFor 40 = .ok (.aload_n 0, 1) := by decide +kernel
theorem d_F_placeFor_41 : decode c_F_placeFor 41 = .ok (.iload_n 1, 1) := by decide +kernel
theorem d_F_placeFor_42 : decode c_F_placeFor 42 = .ok (.iload_n 3, 1) := by decide +kernel
theorem d_F_placeFor_43 : decode c_F_placeFor 43 = .ok (.iconst 1, 1) := by decide +kernel
theorem d_F_placeFor_44 : decode c_F_placeFor 44 = .ok (.isub, 1) := by decide +kernel
theorem d_F_placeFor_45 : decode c_F_placeFor 45 = .ok (.invokevirtual 70, 3) := by decide +kernel
theorem d_F_placeFor_48 : decode c_F_placeFor 48 = .ok (.iload_n 2, 1) := by decide +kernel
theorem d_F_placeFor_49 : decode c_F_placeFor 49 = .ok (.invokevirtual 73, 3) := by decide +kernel
theorem d_F_placeFor_52 : decode c_F_placeFor 52 = .ok (.ifCond .le 9, 3) := by decide +kernel
theorem d_F_placeFor_55 : decode c_F_placeFor 55 = .ok (.iinc 3 (-1), 3) := by decide +kernel
theorem d_F_placeFor_58 : decode c_F_placeFor 58 = .ok (.goto (-23), 3) := by decide +kernel
theorem d_F_placeFor_61 : decode c_F_placeFor 61 = .ok (.iload_n 3, 1) := by decide +kernel
theorem d_F_placeFor_62 : decode c_F_placeFor 62 = .ok (.ireturn, 1) := by decide +kernel
theorem d_F_compare_0 : decode c_F_compare 0 = .ok (.aload_n 0, 1) := by decide +kernel
theorem d_F_compare_1 : decode c_F_compare 1 = .ok (.iload_n 1, 1) := by decide +kernel
theorem d_F_compare_2 : decode c_F_compare 2 = .ok (.iload_n 2, 1) := by decide +kernel
theorem d_F_compare_3 : decode c_F_compare 3 = .ok (.iconst 0, 1) := by decide +kernel
theorem d_F_compare_4 : decode c_F_compare 4 = .ok (.invokestatic 76, 3) := by decide +kernel
theorem d_F_compare_7 : decode c_F_compare 7 = .ok (.ireturn, 1) := by decide +kernel
theorem d_F_compareFrom_0 : decode c_F_compareFrom 0 = .ok (.iload_n 1, 1) := by decide +kernel
theorem d_F_compareFrom_1 : decode c_F_compareFrom 1 = .ok (.iload_n 2, 1) := by decide +kernel
theorem d_F_compareFrom_2 : decode c_F_compareFrom 2 = .ok (.if_icmp .eq 9, 3) := by decide +kernel
theorem d_F_compareFrom_5 : decode c_F_compareFrom 5 = .ok (.iload_n 3, 1) := by decide +kernel
theorem d_F_compareFrom_6 : decode c_F_compareFrom 6 = .ok (.bipush 20, 2) := by decide +kernel
theorem d_F_compareFrom_8 : decode c_F_compareFrom 8 = .ok (.if_icmp .le 5, 3) := by decide +kernel
theorem d_F_compareFrom_11 : decode c_F_compareFrom 11 = .ok (.iconst 0, 1) := by decide +kernel
theorem d_F_compareFrom_12 : decode c_F_compareFrom 12 = .ok (.ireturn, 1) := by decide +kernel
theorem d_F_compareFrom_13 : decode c_F_compareFrom 13 = .ok (.aload_n 0, 1) := by decide +kernel
theorem d_F_compareFrom_14 : decode c_F_compareFrom 14 = .ok (.getfield 15, 3) := by decide +kernel
theorem d_F_compareFrom_17 : decode c_F_compareFrom 17 = .ok (.iload_n 1, 1) := by decide +kernel
theorem d_F_compareFrom_18 : decode c_F_compareFrom 18 = .ok (.iaload, 1) := by decide +kernel
theorem d_F_compareFrom_19 : decode c_F_compareFrom 19 = .ok (.aload_n 0, 1) := by decide +kernel
theorem d_F_compareFrom_20 : decode c_F_compareFrom 20 = .ok (.getfield 15, 3) := by decide +kernel
theorem d_F_compareFrom_23 : decode c_F_compareFrom 23 = .ok (.iload_n 2, 1) := by decide +kernel
theorem d_F_compareFrom_24 : decode c_F_compareFrom 24 = .ok (.iaload, 1) := by decide +kernel
theorem d_F_compareFrom_25 : decode c_F_compareFrom 25 = .ok (.if_icmp .eq 24, 3) := by decide +kernel
theorem d_F_compareFrom_28 : decode c_F_compareFrom 28 = .ok (.aload_n 0, 1) := by decide +kernel
theorem d_F_compareFrom_29 : decode c_F_compareFrom 29 = .ok (.getfield 15, 3) := by decide +kernel
theorem d_F_compareFrom_32 : decode c_F_compareFrom 32 = .ok (.iload_n 1, 1) := by decide +kernel
theorem d_F_compareFrom_33 : decode c_F_compareFrom 33 = .ok (.iaload, 1) := by decide +kernel
theorem d_F_compareFrom_34 : decode c_F_compareFrom 34 = .ok (.aload_n 0, 1) := by decide +kernel
theorem d_F_compareFrom_35 : decode c_F_compareFrom 35 = .ok (.getfield 15, 3) := by decide +kernel
theorem d_F_compareFrom_38 : decode c_F_compareFrom 38 = .ok (.iload_n 2, 1) := by decide +kernel
theorem d_F_compareFrom_39 : decode c_F_compareFrom 39 = .ok (.iaload, 1) := by decide +kernel
theorem d_F_compareFrom_40 : decode c_F_compareFrom 40 = .ok (.if_icmp .ge 7, 3) := by decide +kernel
theorem d_F_compareFrom_43 : decode c_F_compareFrom 43 = .ok (.iconst (-1), 1) := by decide +kernel
theorem d_F_compareFrom_44 : decode c_F_compareFrom 44 = .ok (.goto 4, 3) := by decide +kernel
theorem d_F_compareFrom_47 : decode c_F_compareFrom 47 = .ok (.iconst 1, 1) := by decide +kernel
theorem d_F_compareFrom_48 : decode c_F_compareFrom 48 = .ok (.ireturn, 1) := by decide +kernel
theorem d_F_compareFrom_49 : decode c_F_compareFrom 49 = .ok (.aload_n 0, 1) := by decide +kernel
theorem d_F_compareFrom_50 : decode c_F_compareFrom 50 = .ok (.getfield 19, 3) := by decide +kernel
theorem d_F_compareFrom_53 : decode c_F_compareFrom 53 = .ok (.iload_n 1, 1) := by decide +kernel
theorem d_F_compareFrom_54 : decode c_F_compareFrom 54 = .ok (.iaload, 1) := by decide +kernel
theorem d_F_compareFrom_55 : decode c_F_compareFrom 55 = .ok (.aload_n 0, 1) := by decide +kernel
theorem d_F_compareFrom_56 : decode c_F_compareFrom 56 = .ok (.getfield 19, 3) := by decide +kernel
theorem d_F_compareFrom_59 : decode c_F_compareFrom 59 = .ok (.iload_n 2, 1) := by decide +kernel
theorem d_F_compareFrom_60 : decode c_F_compareFrom 60 = .ok (.iaload, 1) := by decide +kernel
theorem d_F_compareFrom_61 : decode c_F_compareFrom 61 = .ok (.if_icmp .eq 24, 3) := by decide +kernel
theorem d_F_compareFrom_64 : decode c_F_compareFrom 64 = .ok (.aload_n 0, 1) := by decide +kernel
theorem d_F_compareFrom_65 : decode c_F_compareFrom 65 = .ok (.getfield 19, 3) := by decide +kernel
theorem d_F_compareFrom_68 : decode c_F_compareFrom 68 = .ok (.iload_n 1, 1) := by decide +kernel
theorem d_F_compareFrom_69 : decode c_F_compareFrom 69 = .ok (.iaload, 1) := by decide +kernel
theorem d_F_compareFrom_70 : decode c_F_compareFrom 70 = .ok (.aload_n 0, 1) := by decide +kernel
theorem d_F_compareFrom_71 : decode c_F_compareFrom 71 = .ok (.getfield 19, 3) := by decide +kernel
theorem d_F_compareFrom_74 : decode c_F_compareFrom 74 = .ok (.iload_n 2, 1) := by decide +kernel
theorem d_F_compareFrom_75 : decode c_F_compareFrom 75 = .ok (.iaload, 1) := by decide +kernel
theorem d_F_compareFrom_76 : decode c_F_compareFrom 76 = .ok (.if_icmp .ge 7, 3) := by decide +kernel
theorem d_F_compareFrom_79 : decode c_F_compareFrom 79 = .ok (.iconst (-1), 1) := by decide +kernel
theorem d_F_compareFrom_80 : decode c_F_compareFrom 80 = .ok (.goto 4, 3) := by decide +kernel
theorem d_F_compareFrom_83 : decode c_F_compareFrom 83 = .ok (.iconst 1, 1) := by decide +kernel
theorem d_F_compareFrom_84 : decode c_F_compareFrom 84 = .ok (.ireturn, 1) := by decide +kernel
theorem d_F_compareFrom_85 : decode c_F_compareFrom 85 = .ok (.aload_n 0, 1) := by decide +kernel
theorem d_F_compareFrom_86 : decode c_F_compareFrom 86 = .ok (.getfield 38, 3) := by decide +kernel
theorem d_F_compareFrom_89 : decode c_F_compareFrom 89 = .ok (.iload_n 1, 1) := by decide +kernel
theorem d_F_compareFrom_90 : decode c_F_compareFrom 90 = .ok (.iaload, 1) := by decide +kernel
theorem d_F_compareFrom_91 : decode c_F_compareFrom 91 = .ok (.istore 4, 2) := by decide +kernel
theorem d_F_compareFrom_93 : decode c_F_compareFrom 93 = .ok (.iload 4, 2) := by decide +kernel
theorem d_F_compareFrom_95 : decode c_F_compareFrom 95 = .ok (.aload_n 0, 1) := by decide +kernel
theorem d_F_compareFrom_96 : decode c_F_compareFrom 96 = .ok (.getfield 38, 3) := by decide +kernel
theorem d_F_compareFrom_99 : decode c_F_compareFrom 99 = .ok (.iload_n 2, 1) := by decide +kernel
theorem d_F_compareFrom_100 : decode c_F_compareFrom 100 = .ok (.iaload, 1) := by decide +kernel
theorem d_F_compareFrom_101 : decode c_F_compareFrom 101 = .ok (.if_icmp .eq 20, 3) := by decide +kernel
theorem d_F_compareFrom_104 : decode c_F_compareFrom 104 = .ok (.iload 4, 2) := by decide +kernel
theorem d_F_compareFrom_106 : decode c_F_compareFrom 106 = .ok (.aload_n 0, 1) := by decide +kernel
theorem d_F_compareFrom_107 : decode c_F_compareFrom 107 = .ok (.getfield 38, 3) := by decide +kernel
theorem d_F_compareFrom_110 : decode c_F_compareFrom 110 = .ok (.iload_n 2, 1) := by decide +kernel
theorem d_F_compareFrom_111 : decode c_F_compareFrom 111 = .ok (.iaload, 1) := by decide +kernel
theorem d_F_compareFrom_112 : decode c_F_compareFrom 112 = .ok (.if_icmp .ge 7, 3) := by decide +kernel
theorem d_F_compareFrom_115 : decode c_F_compareFrom 115 = .ok (.iconst (-1), 1) := by decide +kernel
theorem d_F_compareFrom_116 : decode c_F_compareFrom 116 = .ok (.goto 4, 3) := by decide +kernel
theorem d_F_compareFrom_119 : decode c_F_compareFrom 119 = .ok (.iconst 1, 1) := by decide +kernel
theorem d_F_compareFrom_120 : decode c_F_compareFrom 120 = .ok (.ireturn, 1) := by decide +kernel
theorem d_F_compareFrom_121 : decode c_F_compareFrom 121 = .ok (.iconst 0, 1) := by decide +kernel
theorem d_F_compareFrom_122 : decode c_F_compareFrom 122 = .ok (.istore 5, 2) := by decide +kernel
theorem d_F_compareFrom_124 : decode c_F_compareFrom 124 = .ok (.iload 5, 2) := by decide +kernel
theorem d_F_compareFrom_126 : decode c_F_compareFrom 126 = .ok (.iload 4, 2) := by decide +kernel
theorem d_F_compareFrom_128 : decode c_F_compareFrom 128 = .ok (.if_icmp .ge 58, 3) := by decide +kernel
theorem d_F_compareFrom_131 : decode c_F_compareFrom 131 = .ok (.aload_n 0, 1) := by decide +kernel
theorem d_F_compareFrom_132 : decode c_F_compareFrom 132 = .ok (.getfield 41, 3) := by decide +kernel
theorem d_F_compareFrom_135 : decode c_F_compareFrom 135 = .ok (.iload_n 1, 1) := by decide +kernel
theorem d_F_compareFrom_136 : decode c_F_compareFrom 136 = .ok (.bipush 12, 2) := by decide +kernel
theorem d_F_compareFrom_138 : decode c_F_compareFrom 138 = .ok (.imul, 1) := by decide +kernel
theorem d_F_compareFrom_139 : decode c_F_compareFrom 139 = .ok (.iload 5, 2) := by decide +kernel
theorem d_F_compareFrom_141 : decode c_F_compareFrom 141 = .ok (.iadd, 1) := by decide +kernel
theorem d_F_compareFrom_142 : decode c_F_compareFrom 142 = .ok (.iaload, 1) := by decide +kernel
theorem d_F_compareFrom_143 : decode c_F_compareFrom 143 = .ok (.istore 6, 2) := by decide +kernel
theorem d_F_compareFrom_145 : decode c_F_compareFrom 145 = .ok (.aload_n 0, 1) := by decide +kernel
theorem d_F_compareFrom_146 : decode c_F_compareFrom 146 = .ok (.getfield 41, 3) := by decide +kernel
theorem d_F_compareFrom_149 : decode c_F_compareFrom 149 = .ok (.iload_n 2, 1) := by decide +kernel
theorem d_F_compareFrom_150 : decode c_F_compareFrom 150 = .ok (.bipush 12, 2) := by decide +kernel
theorem d_F_compareFrom_152 : decode c_F_compareFrom 152 = .ok (.imul, 1) := by decide +kernel
theorem d_F_compareFrom_153 : decode c_F_compareFrom 153 = .ok (.iload 5, 2) := by decide +kernel
theorem d_F_compareFrom_155 : decode c_F_compareFrom 155 = .ok (.iadd, 1) := by decide +kernel
theorem d_F_compareFrom_156 : decode c_F_compareFrom 156 = .ok (.iaload, 1) := by decide +kernel
theorem d_F_compareFrom_157 : decode c_F_compareFrom 157 = .ok (.istore 7, 2) := by decide +kernel
theorem d_F_compareFrom_159 : decode c_F_compareFrom 159 = .ok (.aload_n 0, 1) := by decide +kernel
theorem d_F_compareFrom_160 : decode c_F_compareFrom 160 = .ok (.iload 6, 2) := by decide +kernel
theorem d_F_compareFrom_162 : decode c_F_compareFrom 162 = .ok (.iload 7, 2) := by decide +kernel
theorem d_F_compareFrom_164 : decode c_F_compareFrom 164 = .ok (.iload_n 3, 1) := by decide +kernel
theorem d_F_compareFrom_165 : decode c_F_compareFrom 165 = .ok (.iconst 1, 1) := by decide +kernel
theorem d_F_compareFrom_166 : decode c_F_compareFrom 166 = .ok (.iadd, 1) := by decide +kernel
theorem d_F_compareFrom_167 : decode c_F_compareFrom 167 = .ok (.invokestatic 76, 3) := by decide +kernel
theorem d_F_compareFrom_170 : decode c_F_compareFrom 170 = .ok (.istore 8, 2) := by decide +kernel
theorem d_F_compareFrom_172 : decode c_F_compareFrom 172 = .ok (.iload 8, 2) := by decide +kernel
theorem d_F_compareFrom_174 : decode c_F_compareFrom 174 = .ok (.ifCond .eq 6, 3) := by decide +kernel
theorem d_F_compareFrom_177 : decode c_F_compareFrom 177 = .ok (.iload 8, 2) := by decide +kernel
theorem d_F_compareFrom_179 : decode c_F_compareFrom 179 = .ok (.ireturn, 1) := by decide +kernel
theorem d_F_compareFrom_180 : decode c_F_compareFrom 180 = .ok (.iinc 5 1, 3) := by decide +kernel
theorem d_F_compareFrom_183 : decode c_F_compareFrom 183 = .ok (.goto (-59), 3) := by decide +kernel
theorem d_F_compareFrom_186 : decode c_F_compareFrom 186 = .ok (.iconst 0, 1) := by decide +kernel
theorem d_F_compareFrom_187 : decode c_F_compareFrom 187 = .ok (.ireturn, 1) := by decide +kernel
theorem d_F_addTest_0 : decode c_F_addTest 0 = .ok (.aload_n 0, 1) := by decide +kernel
theorem d_F_addTest_1 : decode c_F_addTest 1 = .ok (.getfield 44, 3) := by decide +kernel
theorem d_F_addTest_4 : decode c_F_addTest 4 = .ok (.iload_n 1, 1) := by decide +kernel
theorem d_F_addTest_5 : decode c_F_addTest 5 = .ok (.iaload, 1) := by decide +kernel
theorem d_F_addTest_6 : decode c_F_addTest 6 = .ok (.istore 4, 2) := by decide +kernel
theorem d_F_addTest_8 : decode c_F_addTest 8 = .ok (.iload 4, 2) := by decide +kernel
theorem d_F_addTest_10 : decode c_F_addTest 10 = .ok (.iconst 3, 1) := by decide +kernel
theorem d_F_addTest_11 : decode c_F_addTest 11 = .ok (.if_icmp .lt 5, 3) := by decide +kernel
theorem d_F_addTest_14 : decode c_F_addTest 14 = .ok (.iconst 0, 1) := by decide +kernel
theorem d_F_addTest_15 : decode c_F_addTest 15 = .ok (.ireturn, 1) := by decide +kernel
theorem d_F_addTest_16 : decode c_F_addTest 16 = .ok (.aload_n 0, 1) := by decide +kernel
theorem d_F_addTest_17 : decode c_F_addTest 17 = .ok (.getfield 47, 3) := by decide +kernel
theorem d_F_addTest_20 : decode c_F_addTest 20 = .ok (.iload_n 1, 1) := by decide +kernel
theorem d_F_addTest_21 : decode c_F_addTest 21 = .ok (.iconst 3, 1) := by decide +kernel
theorem d_F_addTest_22 : decode c_F_addTest 22 = .ok (.imul, 1) := by decide +kernel
theorem d_F_addTest_23 : decode c_F_addTest 23 = .ok (.iload 4, 2) := by decide +kernel
theorem d_F_addTest_25 : decode c_F_addTest 25 = .ok (.iadd, 1) := by decide +kernel
theorem d_F_addTest_26 : decode c_F_addTest 26 = .ok (.iload_n 2, 1) := by decide +kernel
theorem d_F_addTest_27 : decode c_F_addTest 27 = .ok (.iastore, 1) := by decide +kernel
theorem d_F_addTest_28 : decode c_F_addTest 28 = .ok (.aload_n 0, 1) := by decide +kernel
theorem d_F_addTest_29 : decode c_F_addTest 29 = .ok (.getfield 50, 3) := by decide +kernel
theorem d_F_addTest_32 : decode c_F_addTest 32 = .ok (.iload_n 1, 1) := by decide +kernel
theorem d_F_addTest_33 : decode c_F_addTest 33 = .ok (.iconst 3, 1) := by decide +kernel
theorem d_F_addTest_34 : decode c_F_addTest 34 = .ok (.imul, 1) := by decide +kernel
theorem d_F_addTest_35 : decode c_F_addTest 35 = .ok (.iload 4, 2) := by decide +kernel
theorem d_F_addTest_37 : decode c_F_addTest 37 = .ok (.iadd, 1) := by decide +kernel
theorem d_F_addTest_38 : decode c_F_addTest 38 = .ok (.iload_n 3, 1) := by decide +kernel
theorem d_F_addTest_39 : decode c_F_addTest 39 = .ok (.iastore, 1) := by decide +kernel
theorem d_F_addTest_40 : decode c_F_addTest 40 = .ok (.aload_n 0, 1) := by decide +kernel
theorem d_F_addTest_41 : decode c_F_addTest 41 = .ok (.getfield 44, 3) := by decide +kernel
theorem d_F_addTest_44 : decode c_F_addTest 44 = .ok (.iload_n 1, 1) := by decide +kernel
theorem d_F_addTest_45 : decode c_F_addTest 45 = .ok (.iload 4, 2) := by decide +kernel
theorem d_F_addTest_47 : decode c_F_addTest 47 = .ok (.iconst 1, 1) := by decide +kernel
theorem d_F_addTest_48 : decode c_F_addTest 48 = .ok (.iadd, 1) := by decide +kernel
theorem d_F_addTest_49 : decode c_F_addTest 49 = .ok (.iastore, 1) := by decide +kernel
theorem d_F_addTest_50 : decode c_F_addTest 50 = .ok (.iconst 1, 1) := by decide +kernel
theorem d_F_addTest_51 : decode c_F_addTest 51 = .ok (.ireturn, 1) := by decide +kernel
theorem d_F_passesTests_0 : decode c_F_passesTests 0 = .ok (.iconst 0, 1) := by decide +kernel
theorem d_F_passesTests_1 : decode c_F_passesTests 1 = .ok (.istore 4, 2) := by decide +kernel
theorem d_F_passesTests_3 : decode c_F_passesTests 3 = .ok (.iload 4, 2) := by decide +kernel
theorem d_F_passesTests_5 : decode c_F_passesTests 5 = .ok (.aload_n 0, 1) := by decide +kernel
theorem d_F_passesTests_6 : decode c_F_passesTests 6 = .ok (.getfield 44, 3) := by decide +kernel
theorem d_F_passesTests_9 : decode c_F_passesTests 9 = .ok (.iload_n 1, 1) := by decide +kernel
theorem d_F_passesTests_10 : decode c_F_passesTests 10 = .ok (.iaload, 1) := by decide +kernel
theorem d_F_passesTests_11 : decode c_F_passesTests 11 = .ok (.if_icmp .ge 42, 3) := by decide +kernel
theorem d_F_passesTests_14 : decode c_F_passesTests 14 = .ok (.iload_n 1, 1) := by decide +kernel
theorem d_F_passesTests_15 : decode c_F_passesTests 15 = .ok (.iconst 3, 1) := by decide +kernel
theorem d_F_passesTests_16 : decode c_F_passesTests 16 = .ok (.imul, 1) := by decide +kernel
theorem d_F_passesTests_17 : decode c_F_passesTests 17 = .ok (.iload 4, 2) := by decide +kernel
theorem d_F_passesTests_19 : decode c_F_passesTests 19 = .ok (.iadd, 1) := by decide +kernel
theorem d_F_passesTests_20 : decode c_F_passesTests 20 = .ok (.istore 5, 2) := by decide +kernel
theorem d_F_passesTests_22 : decode c_F_passesTests 22 = .ok (.aload_n 0, 1) := by decide +kernel
theorem d_F_passesTests_23 : decode c_F_passesTests 23 = .ok (.aload_n 0, 1) := by decide +kernel
theorem d_F_passesTests_24 : decode c_F_passesTests 24 = .ok (.getfield 47, 3) := by decide +kernel
theorem d_F_passesTests_27 : decode c_F_passesTests 27 = .ok (.iload 5, 2) := by decide +kernel
theorem d_F_passesTests_29 : decode c_F_passesTests 29 = .ok (.iaload, 1) := by decide +kernel
theorem d_F_passesTests_30 : decode c_F_passesTests 30 = .ok (.aload_n 0, 1) := by decide +kernel
theorem d_F_passesTests_31 : decode c_F_passesTests 31 = .ok (.getfield 50, 3) := by decide +kernel
theorem d_F_passesTests_34 : decode c_F_passesTests 34 = .ok (.iload 5, 2) := by decide +kernel
theorem d_F_passesTests_36 : decode c_F_passesTests 36 = .ok (.iaload, 1) := by decide +kernel
theorem d_F_passesTests_37 : decode c_F_passesTests 37 = .ok (.aload_n 2, 1) := by decide +kernel
theorem d_F_passesTests_38 : decode c_F_passesTests 38 = .ok (.iload_n 3, 1) := by decide +kernel
theorem d_F_passesTests_39 : decode c_F_passesTests 39 = .ok (.invokevirtual 80, 3) := by decide +kernel
theorem d_F_passesTests_42 : decode c_F_passesTests 42 = .ok (.ifCond .ne 5, 3) := by decide +kernel
theorem d_F_passesTests_45 : decode c_F_passesTests 45 = .ok (.iconst 0, 1) := by decide +kernel
theorem d_F_passesTests_46 : decode c_F_passesTests 46 = .ok (.ireturn, 1) := by decide +kernel
theorem d_F_passesTests_47 : decode c_F_passesTests 47 = .ok (.iinc 4 1, 3) := by decide +kernel
theorem d_F_passesTests_50 : decode c_F_passesTests 50 = .ok (.goto (-47), 3) := by decide +kernel
theorem d_F_passesTests_53 : decode c_F_passesTests 53 = .ok (.iconst 1, 1) := by decide +kernel
theorem d_F_passesTests_54 : decode c_F_passesTests 54 = .ok (.ireturn, 1) := by decide +kernel
theorem d_F_passes_0 : decode c_F_passes 0 = .ok (.iload_n 1, 1) := by decide +kernel
theorem d_F_passes_1 : decode c_F_passes 1 = .ok (.iconst 2, 1) := by decide +kernel
theorem d_F_passes_2 : decode c_F_passes 2 = .ok (.if_icmp .ne 15, 3) := by decide +kernel
theorem d_F_passes_5 : decode c_F_passes 5 = .ok (.iload 4, 2) := by decide +kernel
theorem d_F_passes_7 : decode c_F_passes 7 = .ok (.iload_n 2, 1) := by decide +kernel
theorem d_F_passes_8 : decode c_F_passes 8 = .ok (.if_icmp .lt 7, 3) := by decide +kernel
theorem d_F_passes_11 : decode c_F_passes 11 = .ok (.iconst 1, 1) := by decide +kernel
theorem d_F_passes_12 : decode c_F_passes 12 = .ok (.goto 4, 3) := by decide +kernel
theorem d_F_passes_15 : decode c_F_passes 15 = .ok (.iconst 0, 1) := by decide +kernel
theorem d_F_passes_16 : decode c_F_passes 16 = .ok (.ireturn, 1) := by decide +kernel
theorem d_F_passes_17 : decode c_F_passes 17 = .ok (.iload 4, 2) := by decide +kernel
theorem d_F_passes_19 : decode c_F_passes 19 = .ok (.iconst 1, 1) := by decide +kernel
theorem d_F_passes_20 : decode c_F_passes 20 = .ok (.if_icmp .eq 5, 3) := by decide +kernel
theorem d_F_passes_23 : decode c_F_passes 23 = .ok (.iconst 0, 1) := by decide +kernel
theorem d_F_passes_24 : decode c_F_passes 24 = .ok (.ireturn, 1) := by decide +kernel
theorem d_F_passes_25 : decode c_F_passes 25 = .ok (.aload_n 3, 1) := by decide +kernel
theorem d_F_passes_26 : decode c_F_passes 26 = .ok (.iconst 0, 1) := by decide +kernel
theorem d_F_passes_27 : decode c_F_passes 27 = .ok (.iaload, 1) := by decide +kernel
theorem d_F_passes_28 : decode c_F_passes 28 = .ok (.istore 5, 2) := by decide +kernel
theorem d_F_passes_30 : decode c_F_passes 30 = .ok (.iload_n 1, 1) := by decide +kernel
theorem d_F_passes_31 : decode c_F_passes 31 = .ok (.tableswitch 107 0 3 #[29, 55, 107, 81], 29) := by decide +kernel
theorem d_F_passes_60 : decode c_F_passes 60 = .ok (.aload_n 0, 1) := by decide +kernel
theorem d_F_passes_61 : decode c_F_passes 61 = .ok (.iload 5, 2) := by decide +kernel
theorem d_F_passes_63 : decode c_F_passes 63 = .ok (.invokevirtual 84, 3) := by decide +kernel
theorem d_F_passes_66 : decode c_F_passes 66 = .ok (.ifCond .eq 18, 3) := by decide +kernel
theorem d_F_passes_69 : decode c_F_passes 69 = .ok (.aload_n 0, 1) := by decide +kernel
theorem d_F_passes_70 : decode c_F_passes 70 = .ok (.getfield 19, 3) := by decide +kernel
theorem d_F_passes_73 : decode c_F_passes 73 = .ok (.iload 5, 2) := by decide +kernel
theorem d_F_passes_75 : decode c_F_passes 75 = .ok (.iaload, 1) := by decide +kernel
theorem d_F_passes_76 : decode c_F_passes 76 = .ok (.iload_n 2, 1) := by decide +kernel
theorem d_F_passes_77 : decode c_F_passes 77 = .ok (.if_icmp .le 7, 3) := by decide +kernel
theorem d_F_passes_80 : decode c_F_passes 80 = .ok (.iconst 1, 1) := by decide +kernel
theorem d_F_passes_81 : decode c_F_passes 81 = .ok (.goto 4, 3) := by decide +kernel
theorem d_F_passes_84 : decode c_F_passes 84 = .ok (.iconst 0, 1) := by decide +kernel
theorem d_F_passes_85 : decode c_F_passes 85 = .ok (.ireturn, 1) := by decide +kernel
theorem d_F_passes_86 : decode c_F_passes 86 = .ok (.aload_n 0, 1) := by decide +kernel
theorem d_F_passes_87 : decode c_F_passes 87 = .ok (.iload 5, 2) := by decide +kernel
theorem d_F_passes_89 : decode c_F_passes 89 = .ok (.invokevirtual 84, 3) := by decide +kernel
theorem d_F_passes_92 : decode c_F_passes 92 = .ok (.ifCond .eq 18, 3) := by decide +kernel
theorem d_F_passes_95 : decode c_F_passes 95 = .ok (.aload_n 0, 1) := by decide +kernel
theorem d_F_passes_96 : decode c_F_passes 96 = .ok (.getfield 19, 3) := by decide +kernel
theorem d_F_passes_99 : decode c_F_passes 99 = .ok (.iload 5, 2) := by decide +kernel
theorem d_F_passes_101 : decode c_F_passes 101 = .ok (.iaload, 1) := by decide +kernel
theorem d_F_passes_102 : decode c_F_passes 102 = .ok (.iload_n 2, 1) := by decide +kernel
theorem d_F_passes_103 : decode c_F_passes 103 = .ok (.if_icmp .ge 7, 3) := by decide +kernel
theorem d_F_passes_106 : decode c_F_passes 106 = .ok (.iconst 1, 1) := by decide +kernel
theorem d_F_passes_107 : decode c_F_passes 107 = .ok (.goto 4, 3) := by decide +kernel
theorem d_F_passes_110 : decode c_F_passes 110 = .ok (.iconst 0, 1) := by decide +kernel
theorem d_F_passes_111 : decode c_F_passes 111 = .ok (.ireturn, 1) := by decide +kernel
theorem d_F_passes_112 : decode c_F_passes 112 = .ok (.aload_n 0, 1) := by decide +kernel
theorem d_F_passes_113 : decode c_F_passes 113 = .ok (.iload 5, 2) := by decide +kernel
theorem d_F_passes_115 : decode c_F_passes 115 = .ok (.invokevirtual 87, 3) := by decide +kernel
theorem d_F_passes_118 : decode c_F_passes 118 = .ok (.ifCond .eq 18, 3) := by decide +kernel
theorem d_F_passes_121 : decode c_F_passes 121 = .ok (.aload_n 0, 1) := by decide +kernel
theorem d_F_passes_122 : decode c_F_passes 122 = .ok (.getfield 19, 3) := by decide +kernel
theorem d_F_passes_125 : decode c_F_passes 125 = .ok (.iload 5, 2) := by decide +kernel
theorem d_F_passes_127 : decode c_F_passes 127 = .ok (.iaload, 1) := by decide +kernel
theorem d_F_passes_128 : decode c_F_passes 128 = .ok (.iload_n 2, 1) := by decide +kernel
theorem d_F_passes_129 : decode c_F_passes 129 = .ok (.if_icmp .ne 7, 3) := by decide +kernel
theorem d_F_passes_132 : decode c_F_passes 132 = .ok (.iconst 1, 1) := by decide +kernel
theorem d_F_passes_133 : decode c_F_passes 133 = .ok (.goto 4, 3) := by decide +kernel
theorem d_F_passes_136 : decode c_F_passes 136 = .ok (.iconst 0, 1) := by decide +kernel
theorem d_F_passes_137 : decode c_F_passes 137 = .ok (.ireturn, 1) := by decide +kernel
theorem d_F_passes_138 : decode c_F_passes 138 = .ok (.aload_n 0, 1) := by decide +kernel
theorem d_F_passes_139 : decode c_F_passes 139 = .ok (.iload 5, 2) := by decide +kernel
theorem d_F_passes_141 : decode c_F_passes 141 = .ok (.invokevirtual 84, 3) := by decide +kernel
theorem d_F_passes_144 : decode c_F_passes 144 = .ok (.ifCond .ne 7, 3) := by decide +kernel
theorem d_F_passes_147 : decode c_F_passes 147 = .ok (.iconst 1, 1) := by decide +kernel
theorem d_F_passes_148 : decode c_F_passes 148 = .ok (.goto 4, 3) := by decide +kernel
theorem d_F_passes_151 : decode c_F_passes 151 = .ok (.iconst 0, 1) := by decide +kernel
theorem d_F_passes_152 : decode c_F_passes 152 = .ok (.ireturn, 1) := by decide +kernel
theorem d_F_mayMatch_0 : decode c_F_mayMatch 0 = .ok (.aload_n 0, 1) := by decide +kernel
theorem d_F_mayMatch_1 : decode c_F_mayMatch 1 = .ok (.iload_n 1, 1) := by decide +kernel
theorem d_F_mayMatch_2 : decode c_F_mayMatch 2 = .ok (.invokevirtual 90, 3) := by decide +kernel
theorem d_F_mayMatch_5 : decode c_F_mayMatch 5 = .ok (.ifCond .eq 27, 3) := by decide +kernel
theorem d_F_mayMatch_8 : decode c_F_mayMatch 8 = .ok (.aload_n 0, 1) := by decide +kernel
theorem d_F_mayMatch_9 : decode c_F_mayMatch 9 = .ok (.getfield 22, 3) := by decide +kernel
theorem d_F_mayMatch_12 : decode c_F_mayMatch 12 = .ok (.iload_n 1, 1) := by decide +kernel
theorem d_F_mayMatch_13 : decode c_F_mayMatch 13 = .ok (.iaload, 1) := by decide +kernel
theorem d_F_mayMatch_14 : decode c_F_mayMatch 14 = .ok (.iconst 1, 1) := by decide +kernel
theorem d_F_mayMatch_15 : decode c_F_mayMatch 15 = .ok (.if_icmp .ne 11, 3) := by decide +kernel
theorem d_F_mayMatch_18 : decode c_F_mayMatch 18 = .ok (.aload_n 0, 1) := by decide +kernel
theorem d_F_mayMatch_19 : decode c_F_mayMatch 19 = .ok (.iload_n 2, 1) := by decide +kernel
theorem d_F_mayMatch_20 : decode c_F_mayMatch 20 = .ok (.invokevirtual 84, 3) := by decide +kernel
theorem d_F_mayMatch_23 : decode c_F_mayMatch 23 = .ok (.ifCond .eq 7, 3) := by decide +kernel
theorem d_F_mayMatch_26 : decode c_F_mayMatch 26 = .ok (.iconst 1, 1) := by decide +kernel
theorem d_F_mayMatch_27 : decode c_F_mayMatch 27 = .ok (.goto 4, 3) := by decide +kernel
theorem d_F_mayMatch_30 : decode c_F_mayMatch 30 = .ok (.iconst 0, 1) := by decide +kernel
theorem d_F_mayMatch_31 : decode c_F_mayMatch 31 = .ok (.ireturn, 1) := by decide +kernel
theorem d_F_mayMatch_32 : decode c_F_mayMatch 32 = .ok (.aload_n 0, 1) := by decide +kernel
theorem d_F_mayMatch_33 : decode c_F_mayMatch 33 = .ok (.iload_n 1, 1) := by decide +kernel
theorem d_F_mayMatch_34 : decode c_F_mayMatch 34 = .ok (.iload_n 2, 1) := by decide +kernel
theorem d_F_mayMatch_35 : decode c_F_mayMatch 35 = .ok (.invokevirtual 93, 3) := by decide +kernel
theorem d_F_mayMatch_38 : decode c_F_mayMatch 38 = .ok (.ifCond .ne 5, 3) := by decide +kernel
theorem d_F_mayMatch_41 : decode c_F_mayMatch 41 = .ok (.iconst 0, 1) := by decide +kernel
theorem d_F_mayMatch_42 : decode c_F_mayMatch 42 = .ok (.ireturn, 1) := by decide +kernel
theorem d_F_mayMatch_43 : decode c_F_mayMatch 43 = .ok (.aload_n 0, 1) := by decide +kernel
theorem d_F_mayMatch_44 : decode c_F_mayMatch 44 = .ok (.iload_n 1, 1) := by decide +kernel
theorem d_F_mayMatch_45 : decode c_F_mayMatch 45 = .ok (.invokevirtual 84, 3) := by decide +kernel
theorem d_F_mayMatch_48 : decode c_F_mayMatch 48 = .ok (.ifCond .ne 21, 3) := by decide +kernel
theorem d_F_mayMatch_51 : decode c_F_mayMatch 51 = .ok (.aload_n 0, 1) := by decide +kernel
theorem d_F_mayMatch_52 : decode c_F_mayMatch 52 = .ok (.iload_n 1, 1) := by decide +kernel
theorem d_F_mayMatch_53 : decode c_F_mayMatch 53 = .ok (.iload_n 2, 1) := by decide +kernel
theorem d_F_mayMatch_54 : decode c_F_mayMatch 54 = .ok (.invokevirtual 96, 3) := by decide +kernel
theorem d_F_mayMatch_57 : decode c_F_mayMatch 57 = .ok (.ifCond .eq 16, 3) := by decide +kernel
theorem d_F_mayMatch_60 : decode c_F_mayMatch 60 = .ok (.aload_n 0, 1) := by decide +kernel
theorem d_F_mayMatch_61 : decode c_F_mayMatch 61 = .ok (.iload_n 1, 1) := by decide +kernel
theorem d_F_mayMatch_62 : decode c_F_mayMatch 62 = .ok (.iload_n 2, 1) := by decide +kernel
theorem d_F_mayMatch_63 : decode c_F_mayMatch 63 = .ok (.invokevirtual 99, 3) := by decide +kernel
theorem d_F_mayMatch_66 : decode c_F_mayMatch 66 = .ok (.ifCond .eq 7, 3) := by decide +kernel
theorem d_F_mayMatch_69 : decode c_F_mayMatch 69 = .ok (.iconst 1, 1) := by decide +kernel
theorem d_F_mayMatch_70 : decode c_F_mayMatch 70 = .ok (.goto 4, 3) := by decide +kernel
theorem d_F_mayMatch_73 : decode c_F_mayMatch 73 = .ok (.iconst 0, 1) := by decide +kernel
theorem d_F_mayMatch_74 : decode c_F_mayMatch 74 = .ok (.ireturn, 1) := by decide +kernel
theorem d_F_hasFittingCount_0 : decode c_F_hasFittingCount 0 = .ok (.iconst 0, 1) := by decide +kernel
theorem d_F_hasFittingCount_1 : decode c_F_hasFittingCount 1 = .ok (.istore_n 3, 1) := by decide +kernel
theorem d_F_hasFittingCount_2 : decode c_F_hasFittingCount 2 = .ok (.iconst 0, 1) := by decide +kernel
theorem d_F_hasFittingCount_3 : decode c_F_hasFittingCount 3 = .ok (.istore 4, 2) := by decide +kernel
theorem d_F_hasFittingCount_5 : decode c_F_hasFittingCount 5 = .ok (.iconst 0, 1) := by decide +kernel
theorem d_F_hasFittingCount_6 : decode c_F_hasFittingCount 6 = .ok (.istore 5, 2) := by decide +kernel
theorem d_F_hasFittingCount_8 : decode c_F_hasFittingCount 8 = .ok (.iload 5, 2) := by decide +kernel
theorem d_F_hasFittingCount_10 : decode c_F_hasFittingCount 10 = .ok (.aload_n 0, 1) := by decide +kernel
theorem d_F_hasFittingCount_11 : decode c_F_hasFittingCount 11 = .ok (.getfield 38, 3) := by decide +kernel
theorem d_F_hasFittingCount_14 : decode c_F_hasFittingCount 14 = .ok (.iload_n 1, 1) := by decide +kernel
theorem d_F_hasFittingCount_15 : decode c_F_hasFittingCount 15 = .ok (.iaload, 1) := by decide +kernel
theorem d_F_hasFittingCount_16 : decode c_F_hasFittingCount 16 = .ok (.if_icmp .ge 52, 3) := by decide +kernel
theorem d_F_hasFittingCount_19 : decode c_F_hasFittingCount 19 = .ok (.aload_n 0, 1) := by decide +kernel
theorem d_F_hasFittingCount_20 : decode c_F_hasFittingCount 20 = .ok (.iload_n 1, 1) := by decide +kernel
theorem d_F_hasFittingCount_21 : decode c_F_hasFittingCount 21 = .ok (.iload 5, 2) := by decide +kernel
theorem d_F_hasFittingCount_23 : decode c_F_hasFittingCount 23 = .ok (.invokevirtual 70, 3) := by decide +kernel
theorem d_F_hasFittingCount_26 : decode c_F_hasFittingCount 26 = .ok (.istore 6, 2) := by decide +kernel
theorem d_F_hasFittingCount_28 : decode c_F_hasFittingCount 28 = .ok (.aload_n 0, 1) := by decide +kernel
theorem d_F_hasFittingCount_29 : decode c_F_hasFittingCount 29 = .ok (.iload 6, 2) := by decide +kernel
theorem d_F_hasFittingCount_31 : decode c_F_hasFittingCount 31 = .ok (.iconst 3, 1) := by decide +kernel
theorem d_F_hasFittingCount_32 : decode c_F_hasFittingCount 32 = .ok (.invokevirtual 53, 3) := by decide +kernel
theorem d_F_hasFittingCount_35 : decode c_F_hasFittingCount 35 = .ok (.ifCond .ne 6, 3) := by decide +kernel
theorem d_F_hasFittingCount_38 : decode c_F_hasFittingCount 38 = .ok (.iinc 3 1, 3) := by decide +kernel
theorem d_F_hasFittingCount_41 : decode c_F_hasFittingCount 41 = .ok (.iload 4, 2) := by decide +kernel
theorem d_F_hasFittingCount_43 : decode c_F_hasFittingCount 43 = .ok (.ifCond .ne 12, 3) := by decide +kernel
theorem d_F_hasFittingCount_46 : decode c_F_hasFittingCount 46 = .ok (.aload_n 0, 1) := by decide +kernel
theorem d_F_hasFittingCount_47 : decode c_F_hasFittingCount 47 = .ok (.iload 6, 2) := by decide +kernel
theorem d_F_hasFittingCount_49 : decode c_F_hasFittingCount 49 = .ok (.invokevirtual 102, 3) := by decide +kernel
theorem d_F_hasFittingCount_52 : decode c_F_hasFittingCount 52 = .ok (.ifCond .eq 7, 3) := by decide +kernel
theorem d_F_hasFittingCount_55 : decode c_F_hasFittingCount 55 = .ok (.iconst 1, 1) := by decide +kernel
theorem d_F_hasFittingCount_56 : decode c_F_hasFittingCount 56 = .ok (.goto 4, 3) := by decide +kernel
theorem d_F_hasFittingCount_59 : decode c_F_hasFittingCount 59 = .ok (.iconst 0, 1) := by decide +kernel
theorem d_F_hasFittingCount_60 : decode c_F_hasFittingCount 60 = .ok (.istore 4, 2) := by decide +kernel
theorem d_F_hasFittingCount_62 : decode c_F_hasFittingCount 62 = .ok (.iinc 5 1, 3) := by decide +kernel
theorem d_F_hasFittingCount_65 : decode c_F_hasFittingCount 65 = .ok (.goto (-57), 3) := by decide +kernel
theorem d_F_hasFittingCount_68 : decode c_F_hasFittingCount 68 = .ok (.aload_n 0, 1) := by decide +kernel
theorem d_F_hasFittingCount_69 : decode c_F_hasFittingCount 69 = .ok (.getfield 38, 3) := by decide +kernel
theorem d_F_hasFittingCount_72 : decode c_F_hasFittingCount 72 = .ok (.iload_n 2, 1) := by decide +kernel
theorem d_F_hasFittingCount_73 : decode c_F_hasFittingCount 73 = .ok (.iaload, 1) := by decide +kernel
theorem d_F_hasFittingCount_74 : decode c_F_hasFittingCount 74 = .ok (.iload_n 3, 1) := by decide +kernel
theorem d_F_hasFittingCount_75 : decode c_F_hasFittingCount 75 = .ok (.if_icmp .lt 27, 3) := by decide +kernel
theorem d_F_hasFittingCount_78 : decode c_F_hasFittingCount 78 = .ok (.iload 4, 2) := by decide +kernel
theorem d_F_hasFittingCount_80 : decode c_F_hasFittingCount 80 = .ok (.ifCond .ne 18, 3) := by decide +kernel
theorem d_F_hasFittingCount_83 : decode c_F_hasFittingCount 83 = .ok (.aload_n 0, 1) := by decide +kernel
theorem d_F_hasFittingCount_84 : decode c_F_hasFittingCount 84 = .ok (.getfield 38, 3) := by decide +kernel
theorem d_F_hasFittingCount_87 : decode c_F_hasFittingCount 87 = .ok (.iload_n 2, 1) := by decide +kernel
theorem d_F_hasFittingCount_88 : decode c_F_hasFittingCount 88 = .ok (.iaload, 1) := by decide +kernel
theorem d_F_hasFittingCount_89 : decode c_F_hasFittingCount 89 = .ok (.aload_n 0, 1) := by decide +kernel
theorem d_F_hasFittingCount_90 : decode c_F_hasFittingCount 90 = .ok (.getfield 38, 3) := by decide +kernel
theorem d_F_hasFittingCount_93 : decode c_F_hasFittingCount 93 = .ok (.iload_n 1, 1) := by decide +kernel
theorem d_F_hasFittingCount_94 : decode c_F_hasFittingCount 94 = .ok (.iaload, 1) := by decide +kernel
theorem d_F_hasFittingCount_95 : decode c_F_hasFittingCount 95 = .ok (.if_icmp .gt 7, 3) := by decide +kernel
theorem d_F_hasFittingCount_98 : decode c_F_hasFittingCount 98 = .ok (.iconst 1, 1) := by decide +kernel
theorem d_F_hasFittingCount_99 : decode c_F_hasFittingCount 99 = .ok (.goto 4, 3) := by decide +kernel
theorem d_F_hasFittingCount_102 : decode c_F_hasFittingCount 102 = .ok (.iconst 0, 1) := by decide +kernel
theorem d_F_hasFittingCount_103 : decode c_F_hasFittingCount 103 = .ok (.ireturn, 1) := by decide +kernel
theorem d_F_hasFittingStart_0 : decode c_F_hasFittingStart 0 = .ok (.aload_n 0, 1) := by decide +kernel
theorem d_F_hasFittingStart_1 : decode c_F_hasFittingStart 1 = .ok (.iload_n 1, 1) := by decide +kernel
theorem d_F_hasFittingStart_2 : decode c_F_hasFittingStart 2 = .ok (.invokevirtual 66, 3) := by decide +kernel
theorem d_F_hasFittingStart_5 : decode c_F_hasFittingStart 5 = .ok (.ifCond .ne 25, 3) := by decide +kernel
theorem d_F_hasFittingStart_8 : decode c_F_hasFittingStart 8 = .ok (.aload_n 0, 1) := by decide +kernel
theorem d_F_hasFittingStart_9 : decode c_F_hasFittingStart 9 = .ok (.getfield 38, 3) := by decide +kernel
theorem d_F_hasFittingStart_12 : decode c_F_hasFittingStart 12 = .ok (.iload_n 1, 1) := by decide +kernel
theorem d_F_hasFittingStart_13 : decode c_F_hasFittingStart 13 = .ok (.iaload, 1) := by decide +kernel
theorem d_F_hasFittingStart_14 : decode c_F_hasFittingStart 14 = .ok (.ifCond .eq 16, 3) := by decide +kernel
theorem d_F_hasFittingStart_17 : decode c_F_hasFittingStart 17 = .ok (.aload_n 0, 1) := by decide +kernel
theorem d_F_hasFittingStart_18 : decode c_F_hasFittingStart 18 = .ok (.aload_n 0, 1) := by decide +kernel
theorem d_F_hasFittingStart_19 : decode c_F_hasFittingStart 19 = .ok (.iload_n 1, 1) := by decide +kernel
theorem d_F_hasFittingStart_20 : decode c_F_hasFittingStart 20 = .ok (.iconst 0, 1) := by decide +kernel
theorem d_F_hasFittingStart_21 : decode c_F_hasFittingStart 21 = .ok (.invokevirtual 70, 3) := by decide +kernel
theorem d_F_hasFittingStart_24 : decode c_F_hasFittingStart 24 = .ok (.invokevirtual 90, 3) := by decide +kernel
theorem d_F_hasFittingStart_27 : decode c_F_hasFittingStart 27 = .ok (.ifCond .eq 5, 3) := by decide +kernel
theorem d_F_hasFittingStart_30 : decode c_F_hasFittingStart 30 = .ok (.iconst 1, 1) := by decide +kernel
theorem d_F_hasFittingStart_31 : decode c_F_hasFittingStart 31 = .ok (.ireturn, 1) := by decide +kernel
theorem d_F_hasFittingStart_32 : decode c_F_hasFittingStart 32 = .ok (.aload_n 0, 1) := by decide +kernel
theorem d_F_hasFittingStart_33 : decode c_F_hasFittingStart 33 = .ok (.getfield 38, 3) := by decide +kernel
theorem d_F_hasFittingStart_36 : decode c_F_hasFittingStart 36 = .ok (.iload_n 2, 1) := by decide +kernel
theorem d_F_hasFittingStart_37 : decode c_F_hasFittingStart 37 = .ok (.iaload, 1) := by decide +kernel
theorem d_F_hasFittingStart_38 : decode c_F_hasFittingStart 38 = .ok (.ifCond .le 26, 3) := by decide +kernel
theorem d_F_hasFittingStart_41 : decode c_F_hasFittingStart 41 = .ok (.aload_n 0, 1) := by decide +kernel
theorem d_F_hasFittingStart_42 : decode c_F_hasFittingStart 42 = .ok (.aload_n 0, 1) := by decide +kernel
theorem d_F_hasFittingStart_43 : decode c_F_hasFittingStart 43 = .ok (.iload_n 1, 1) := by decide +kernel
theorem d_F_hasFittingStart_44 : decode c_F_hasFittingStart 44 = .ok (.iconst 0, 1) := by decide +kernel
theorem d_F_hasFittingStart_45 : decode c_F_hasFittingStart 45 = .ok (.invokevirtual 70, 3) := by decide +kernel
theorem d_F_hasFittingStart_48 : decode c_F_hasFittingStart 48 = .ok (.aload_n 0, 1) := by decide +kernel
theorem d_F_hasFittingStart_49 : decode c_F_hasFittingStart 49 = .ok (.iload_n 2, 1) := by decide +kernel
theorem d_F_hasFittingStart_50 : decode c_F_hasFittingStart 50 = .ok (.iconst 0, 1) := by decide +kernel
theorem d_F_hasFittingStart_51 : decode c_F_hasFittingStart 51 = .ok (.invokevirtual 70, 3) := by decide +kernel
theorem d_F_hasFittingStart_54 : decode c_F_hasFittingStart 54 = .ok (.invokevirtual 93, 3) := by decide +kernel
theorem d_F_hasFittingStart_57 : decode c_F_hasFittingStart 57 = .ok (.ifCond .eq 7, 3) := by decide +kernel
theorem d_F_hasFittingStart_60 : decode c_F_hasFittingStart 60 = .ok (.iconst 1, 1) := by decide +kernel
theorem d_F_hasFittingStart_61 : decode c_F_hasFittingStart 61 = .ok (.goto 4, 3) := by decide +kernel
theorem d_F_hasFittingStart_64 : decode c_F_hasFittingStart 64 = .ok (.iconst 0, 1) := by decide +kernel
theorem d_F_hasFittingStart_65 : decode c_F_hasFittingStart 65 = .ok (.ireturn, 1) := by decide +kernel
theorem d_Mt_init_0 : decode c_Mt_init 0 = .ok (.aload_n 0, 1) := by decide +kernel
theorem d_Mt_init_1 : decode c_Mt_init 1 = .ok (.invokespecial 3, 3) := by decide +kernel
theorem d_Mt_init_4 : decode c_Mt_init 4 = .ok (.aload_n 0, 1) := by decide +kernel
theorem d_Mt_init_5 : decode c_Mt_init 5 = .ok (.iconst 0, 1) := by decide +kernel
theorem d_Mt_init_6 : decode c_Mt_init 6 = .ok (.putfield 9, 3) := by decide +kernel
theorem d_Mt_init_9 : decode c_Mt_init 9 = .ok (.aload_n 0, 1) := by decide +kernel
theorem d_Mt_init_10 : decode c_Mt_init 10 = .ok (.sipush 160, 3) := by decide +kernel
theorem d_Mt_init_13 : decode c_Mt_init 13 = .ok (.newarray .int, 2) := by decide +kernel
theorem d_Mt_init_15 : decode c_Mt_init 15 = .ok (.putfield 15, 3) := by decide +kernel
theorem d_Mt_init_18 : decode c_Mt_init 18 = .ok (.aload_n 0, 1) := by decide +kernel
theorem d_Mt_init_19 : decode c_Mt_init 19 = .ok (.sipush 1920, 3) := by decide +kernel
theorem d_Mt_init_22 : decode c_Mt_init 22 = .ok (.newarray .int, 2) := by decide +kernel
theorem d_Mt_init_24 : decode c_Mt_init 24 = .ok (.putfield 19, 3) := by decide +kernel
theorem d_Mt_init_27 : decode c_Mt_init 27 = .ok (.return_, 1) := by decide +kernel
theorem d_Mt_clear_0 : decode c_Mt_clear 0 = .ok (.aload_n 0, 1) := by decide +kernel
theorem d_Mt_clear_1 : decode c_Mt_clear 1 = .ok (.iconst 0, 1) := by decide +kernel
theorem d_Mt_clear_2 : decode c_Mt_clear 2 = .ok (.putfield 9, 3) := by decide +kernel
theorem d_Mt_clear_5 : decode c_Mt_clear 5 = .ok (.return_, 1) := by decide +kernel
theorem d_Mt_keep_0 : decode c_Mt_keep 0 = .ok (.aload_n 0, 1) := by decide +kernel
theorem d_Mt_keep_1 : decode c_Mt_keep 1 = .ok (.getfield 9, 3) := by decide +kernel
theorem d_Mt_keep_4 : decode c_Mt_keep 4 = .ok (.bipush 20, 2) := by decide +kernel
theorem d_Mt_keep_6 : decode c_Mt_keep 6 = .ok (.if_icmp .ge 55, 3) := by decide +kernel
theorem d_Mt_keep_9 : decode c_Mt_keep 9 = .ok (.aload_n 1, 1) := by decide +kernel
theorem d_Mt_keep_10 : decode c_Mt_keep 10 = .ok (.getfield 22, 3) := by decide +kernel
theorem d_Mt_keep_13 : decode c_Mt_keep 13 = .ok (.iconst 0, 1) := by decide +kernel
theorem d_Mt_keep_14 : decode c_Mt_keep 14 = .ok (.aload_n 0, 1) := by decide +kernel
theorem d_Mt_keep_15 : decode c_Mt_keep 15 = .ok (.getfield 15, 3) := by decide +kernel
theorem d_Mt_keep_18 : decode c_Mt_keep 18 = .ok (.aload_n 0, 1) := by decide +kernel
theorem d_Mt_keep_19 : decode c_Mt_keep 19 = .ok (.getfield 9, 3) := by decide +kernel
theorem d_Mt_keep_22 : decode c_Mt_keep 22 = .ok (.bipush 8, 2) := by decide +kernel
theorem d_Mt_keep_24 : decode c_Mt_keep 24 = .ok (.imul, 1) := by decide +kernel
theorem d_Mt_keep_25 : decode c_Mt_keep 25 = .ok (.bipush 8, 2) := by decide +kernel
theorem d_Mt_keep_27 : decode c_Mt_keep 27 = .ok (.invokestatic 25, 3) := by decide +kernel
theorem d_Mt_keep_30 : decode c_Mt_keep 30 = .ok (.aload_n 1, 1) := by decide +kernel
theorem d_Mt_keep_31 : decode c_Mt_keep 31 = .ok (.getfield 31, 3) := by decide +kernel
theorem d_Mt_keep_34 : decode c_Mt_keep 34 = .ok (.iconst 0, 1) := by decide +kernel
theorem d_Mt_keep_35 : decode c_Mt_keep 35 = .ok (.aload_n 0, 1) := by decide +kernel
theorem d_Mt_keep_36 : decode c_Mt_keep 36 = .ok (.getfield 19, 3) := by decide +kernel
theorem d_Mt_keep_39 : decode c_Mt_keep 39 = .ok (.aload_n 0, 1) := by decide +kernel
theorem d_Mt_keep_40 : decode c_Mt_keep 40 = .ok (.getfield 9, 3) := by decide +kernel
theorem d_Mt_keep_43 : decode c_Mt_keep 43 = .ok (.bipush 96, 2) := by decide +kernel
theorem d_Mt_keep_45 : decode c_Mt_keep 45 = .ok (.imul, 1) := by decide +kernel
theorem d_Mt_keep_46 : decode c_Mt_keep 46 = .ok (.bipush 96, 2) := by decide +kernel
theorem d_Mt_keep_48 : decode c_Mt_keep 48 = .ok (.invokestatic 25, 3) := by decide +kernel
theorem d_Mt_keep_51 : decode c_Mt_keep 51 = .ok (.aload_n 0, 1) := by decide +kernel
theorem d_Mt_keep_52 : decode c_Mt_keep 52 = .ok (.dup, 1) := by decide +kernel
theorem d_Mt_keep_53 : decode c_Mt_keep 53 = .ok (.getfield 9, 3) := by decide +kernel
theorem d_Mt_keep_56 : decode c_Mt_keep 56 = .ok (.iconst 1, 1) := by decide +kernel
theorem d_Mt_keep_57 : decode c_Mt_keep 57 = .ok (.iadd, 1) := by decide +kernel
theorem d_Mt_keep_58 : decode c_Mt_keep 58 = .ok (.putfield 9, 3) := by decide +kernel
theorem d_Mt_keep_61 : decode c_Mt_keep 61 = .ok (.return_, 1) := by decide +kernel
theorem d_Mt_keptCount_0 : decode c_Mt_keptCount 0 = .ok (.aload_n 0, 1) := by decide +kernel
theorem d_Mt_keptCount_1 : decode c_Mt_keptCount 1 = .ok (.getfield 9, 3) := by decide +kernel
theorem d_Mt_keptCount_4 : decode c_Mt_keptCount 4 = .ok (.ireturn, 1) := by decide +kernel
theorem d_Mt_lengthOf_0 : decode c_Mt_lengthOf 0 = .ok (.aload_n 0, 1) := by decide +kernel
theorem d_Mt_lengthOf_1 : decode c_Mt_lengthOf 1 = .ok (.getfield 15, 3) := by decide +kernel
theorem d_Mt_lengthOf_4 : decode c_Mt_lengthOf 4 = .ok (.iload_n 1, 1) := by decide +kernel
theorem d_Mt_lengthOf_5 : decode c_Mt_lengthOf 5 = .ok (.bipush 8, 2) := by decide +kernel
theorem d_Mt_lengthOf_7 : decode c_Mt_lengthOf 7 = .ok (.imul, 1) := by decide +kernel
theorem d_Mt_lengthOf_8 : decode c_Mt_lengthOf 8 = .ok (.iload_n 2, 1) := by decide +kernel
theorem d_Mt_lengthOf_9 : decode c_Mt_lengthOf 9 = .ok (.iadd, 1) := by decide +kernel
theorem d_Mt_lengthOf_10 : decode c_Mt_lengthOf 10 = .ok (.iaload, 1) := by decide +kernel
theorem d_Mt_lengthOf_11 : decode c_Mt_lengthOf 11 = .ok (.ireturn, 1) := by decide +kernel
theorem d_Mt_treeOf_0 : decode c_Mt_treeOf 0 = .ok (.iload_n 3, 1) := by decide +kernel
theorem d_Mt_treeOf_1 : decode c_Mt_treeOf 1 = .ok (.ifCond .lt 13, 3) := by decide +kernel
theorem d_Mt_treeOf_4 : decode c_Mt_treeOf 4 = .ok (.iload_n 3, 1) := by decide +kernel
theorem d_Mt_treeOf_5 : decode c_Mt_treeOf 5 = .ok (.aload_n 0, 1) := by decide +kernel
theorem d_Mt_treeOf_6 : decode c_Mt_treeOf 6 = .ok (.iload_n 1, 1) := by decide +kernel
theorem d_Mt_treeOf_7 : decode c_Mt_treeOf 7 = .ok (.iload_n 2, 1) := by decide +kernel
theorem d_Mt_treeOf_8 : decode c_Mt_treeOf 8 = .ok (.invokevirtual 32, 3) := by decide +kernel
theorem d_Mt_treeOf_11 : decode c_Mt_treeOf 11 = .ok (.if_icmp .lt 5, 3) := by decide +kernel
theorem d_Mt_treeOf_14 : decode c_Mt_treeOf 14 = .ok (.iconst (-1), 1) := by decide +kernel
theorem d_Mt_treeOf_15 : decode c_Mt_treeOf 15 = .ok (.ireturn, 1) := by decide +kernel
theorem d_Mt_treeOf_16 : decode c_Mt_treeOf 16 = .ok (.aload_n 0, 1) := by decide +kernel
theorem d_Mt_treeOf_17 : decode c_Mt_treeOf 17 = .ok (.getfield 19, 3) := by decide +kernel
theorem d_Mt_treeOf_20 : decode c_Mt_treeOf 20 = .ok (.iload_n 1, 1) := by decide +kernel
theorem d_Mt_treeOf_21 : decode c_Mt_treeOf 21 = .ok (.bipush 96, 2) := by decide +kernel
theorem d_Mt_treeOf_23 : decode c_Mt_treeOf 23 = .ok (.imul, 1) := by decide +kernel
theorem d_Mt_treeOf_24 : decode c_Mt_treeOf 24 = .ok (.iload_n 2, 1) := by decide +kernel
theorem d_Mt_treeOf_25 : decode c_Mt_treeOf 25 = .ok (.bipush 12, 2) := by decide +kernel
theorem d_Mt_treeOf_27 : decode c_Mt_treeOf 27 = .ok (.imul, 1) := by decide +kernel
theorem d_Mt_treeOf_28 : decode c_Mt_treeOf 28 = .ok (.iadd, 1) := by decide +kernel
theorem d_Mt_treeOf_29 : decode c_Mt_treeOf 29 = .ok (.iload_n 3, 1) := by decide +kernel
theorem d_Mt_treeOf_30 : decode c_Mt_treeOf 30 = .ok (.iadd, 1) := by decide +kernel
theorem d_Mt_treeOf_31 : decode c_Mt_treeOf 31 = .ok (.iaload, 1) := by decide +kernel
theorem d_Mt_treeOf_32 : decode c_Mt_treeOf 32 = .ok (.ireturn, 1) := by decide +kernel
theorem d_Nm_init_0 : decode c_Nm_init 0 = .ok (.aload_n 0, 1) := by decide +kernel
theorem d_Nm_init_1 : decode c_Nm_init 1 = .ok (.invokespecial 3, 3) := by decide +kernel
theorem d_Nm_init_4 : decode c_Nm_init 4 = .ok (.aload_n 0, 1) := by decide +kernel
theorem d_Nm_init_5 : decode c_Nm_init 5 = .ok (.bipush 8, 2) := by decide +kernel
theorem d_Nm_init_7 : decode c_Nm_init 7 = .ok (.newarray .int, 2) := by decide +kernel
theorem d_Nm_init_9 : decode c_Nm_init 9 = .ok (.putfield 9, 3) := by decide +kernel
theorem d_Nm_init_12 : decode c_Nm_init 12 = .ok (.aload_n 0, 1) := by decide +kernel
theorem d_Nm_init_13 : decode c_Nm_init 13 = .ok (.bipush 96, 2) := by decide +kernel
theorem d_Nm_init_15 : decode c_Nm_init 15 = .ok (.newarray .int, 2) := by decide +kernel
theorem d_Nm_init_17 : decode c_Nm_init 17 = .ok (.putfield 15, 3) := by decide +kernel
theorem d_Nm_init_20 : decode c_Nm_init 20 = .ok (.aload_n 0, 1) := by decide +kernel
theorem d_Nm_init_21 : decode c_Nm_init 21 = .ok (.bipush 8, 2) := by decide +kernel
theorem d_Nm_init_23 : decode c_Nm_init 23 = .ok (.newarray .int, 2) := by decide +kernel
theorem d_Nm_init_25 : decode c_Nm_init 25 = .ok (.putfield 18, 3) := by decide +kernel
theorem d_Nm_init_28 : decode c_Nm_init 28 = .ok (.return_, 1) := by decide +kernel
theorem d_Nm_clear_0 : decode c_Nm_clear 0 = .ok (.aload_n 0, 1) := by decide +kernel
theorem d_Nm_clear_1 : decode c_Nm_clear 1 = .ok (.getfield 9, 3) := by decide +kernel
theorem d_Nm_clear_4 : decode c_Nm_clear 4 = .ok (.iconst (-1), 1) := by decide +kernel
theorem d_Nm_clear_5 : decode c_Nm_clear 5 = .ok (.invokestatic 21, 3) := by decide +kernel
theorem d_Nm_clear_8 : decode c_Nm_clear 8 = .ok (.aload_n 0, 1) := by decide +kernel
theorem d_Nm_clear_9 : decode c_Nm_clear 9 = .ok (.getfield 18, 3) := by decide +kernel
theorem d_Nm_clear_12 : decode c_Nm_clear 12 = .ok (.iconst (-1), 1) := by decide +kernel
theorem d_Nm_clear_13 : decode c_Nm_clear 13 = .ok (.invokestatic 21, 3) := by decide +kernel
theorem d_Nm_clear_16 : decode c_Nm_clear 16 = .ok (.return_, 1) := by decide +kernel
theorem d_Nm_hasNothing_0 : decode c_Nm_hasNothing 0 = .ok (.aload_n 0, 1) := by decide +kernel
theorem d_Nm_hasNothing_1 : decode c_Nm_hasNothing 1 = .ok (.getfield 9, 3) := by decide +kernel
theorem d_Nm_hasNothing_4 : decode c_Nm_hasNothing 4 = .ok (.iload_n 1, 1) := by decide +kernel
theorem d_Nm_hasNothing_5 : decode c_Nm_hasNothing 5 = .ok (.iaload, 1) := by decide +kernel
theorem d_Nm_hasNothing_6 : decode c_Nm_hasNothing 6 = .ok (.ifCond .ge 7, 3) := by decide +kernel
theorem d_Nm_hasNothing_9 : decode c_Nm_hasNothing 9 = .ok (.iconst 1, 1) := by decide +kernel
theorem d_Nm_hasNothing_10 : decode c_Nm_hasNothing 10 = .ok (.goto 4, 3) := by decide +kernel
theorem d_Nm_hasNothing_13 : decode c_Nm_hasNothing 13 = .ok (.iconst 0, 1) := by decide +kernel
theorem d_Nm_hasNothing_14 : decode c_Nm_hasNothing 14 = .ok (.ireturn, 1) := by decide +kernel
theorem d_Nm_give_0 : decode c_Nm_give 0 = .ok (.aload_n 2, 1) := by decide +kernel
theorem d_Nm_give_1 : decode c_Nm_give 1 = .ok (.iconst 0, 1) := by decide +kernel
theorem d_Nm_give_2 : decode c_Nm_give 2 = .ok (.aload_n 0, 1) := by decide +kernel
theorem d_Nm_give_3 : decode c_Nm_give 3 = .ok (.getfield 15, 3) := by decide +kernel
theorem d_Nm_give_6 : decode c_Nm_give 6 = .ok (.iload_n 1, 1) := by decide +kernel
theorem d_Nm_give_7 : decode c_Nm_give 7 = .ok (.bipush 12, 2) := by decide +kernel
theorem d_Nm_give_9 : decode c_Nm_give 9 = .ok (.imul, 1) := by decide +kernel
theorem d_Nm_give_10 : decode c_Nm_give 10 = .ok (.iload_n 3, 1) := by decide +kernel
theorem d_Nm_give_11 : decode c_Nm_give 11 = .ok (.invokestatic 27, 3) := by decide +kernel
theorem d_Nm_give_14 : decode c_Nm_give 14 = .ok (.aload_n 0, 1) := by decide +kernel
theorem d_Nm_give_15 : decode c_Nm_give 15 = .ok (.getfield 9, 3) := by decide +kernel
theorem d_Nm_give_18 : decode c_Nm_give 18 = .ok (.iload_n 1, 1) := by decide +kernel
theorem d_Nm_give_19 : decode c_Nm_give 19 = .ok (.iload_n 3, 1) := by decide +kernel
theorem d_Nm_give_20 : decode c_Nm_give 20 = .ok (.iastore, 1) := by decide +kernel
theorem d_Nm_give_21 : decode c_Nm_give 21 = .ok (.aload_n 0, 1) := by decide +kernel
theorem d_Nm_give_22 : decode c_Nm_give 22 = .ok (.getfield 18, 3) := by decide +kernel
theorem d_Nm_give_25 : decode c_Nm_give 25 = .ok (.iload_n 1, 1) := by decide +kernel
theorem d_Nm_give_26 : decode c_Nm_give 26 = .ok (.iload 4, 2) := by decide +kernel
theorem d_Nm_give_28 : decode c_Nm_give 28 = .ok (.iastore, 1) := by decide +kernel
theorem d_Nm_give_29 : decode c_Nm_give 29 = .ok (.return_, 1) := by decide +kernel
theorem d_Nm_takeBack_0 : decode c_Nm_takeBack 0 = .ok (.aload_n 0, 1) := by decide +kernel
theorem d_Nm_takeBack_1 : decode c_Nm_takeBack 1 = .ok (.getfield 18, 3) := by decide +kernel
theorem d_Nm_takeBack_4 : decode c_Nm_takeBack 4 = .ok (.iload_n 1, 1) := by decide +kernel
theorem d_Nm_takeBack_5 : decode c_Nm_takeBack 5 = .ok (.iaload, 1) := by decide +kernel
theorem d_Nm_takeBack_6 : decode c_Nm_takeBack 6 = .ok (.iload_n 2, 1) := by decide +kernel
theorem d_Nm_takeBack_7 : decode c_Nm_takeBack 7 = .ok (.if_icmp .ne 17, 3) := by decide +kernel
theorem d_Nm_takeBack_10 : decode c_Nm_takeBack 10 = .ok (.aload_n 0, 1) := by decide +kernel
theorem d_Nm_takeBack_11 : decode c_Nm_takeBack 11 = .ok (.getfield 9, 3) := by decide +kernel
theorem d_Nm_takeBack_14 : decode c_Nm_takeBack 14 = .ok (.iload_n 1, 1) := by decide +kernel
theorem d_Nm_takeBack_15 : decode c_Nm_takeBack 15 = .ok (.iconst (-1), 1) := by decide +kernel
theorem d_Nm_takeBack_16 : decode c_Nm_takeBack 16 = .ok (.iastore, 1) := by decide +kernel
theorem d_Nm_takeBack_17 : decode c_Nm_takeBack 17 = .ok (.aload_n 0, 1) := by decide +kernel
theorem d_Nm_takeBack_18 : decode c_Nm_takeBack 18 = .ok (.getfield 18, 3) := by decide +kernel
theorem d_Nm_takeBack_21 : decode c_Nm_takeBack 21 = .ok (.iload_n 1, 1) := by decide +kernel
theorem d_Nm_takeBack_22 : decode c_Nm_takeBack 22 = .ok (.iconst (-1), 1) := by decide +kernel
theorem d_Nm_takeBack_23 : decode c_Nm_takeBack 23 = .ok (.iastore, 1) := by decide +kernel
theorem d_Nm_takeBack_24 : decode c_Nm_takeBack 24 = .ok (.return_, 1) := by decide +kernel
theorem d_Nm_hasSame_0 : decode c_Nm_hasSame 0 = .ok (.aload_n 0, 1) := by decide +kernel
theorem d_Nm_hasSame_1 : decode c_Nm_hasSame 1 = .ok (.getfield 9, 3) := by decide +kernel
theorem d_Nm_hasSame_4 : decode c_Nm_hasSame 4 = .ok (.iload_n 2, 1) := by decide +kernel
theorem d_Nm_hasSame_5 : decode c_Nm_hasSame 5 = .ok (.iaload, 1) := by decide +kernel
theorem d_Nm_hasSame_6 : decode c_Nm_hasSame 6 = .ok (.iload 4, 2) := by decide +kernel
theorem d_Nm_hasSame_8 : decode c_Nm_hasSame 8 = .ok (.if_icmp .eq 5, 3) := by decide +kernel
theorem d_Nm_hasSame_11 : decode c_Nm_hasSame 11 = .ok (.iconst 0, 1) := by decide +kernel
theorem d_Nm_hasSame_12 : decode c_Nm_hasSame 12 = .ok (.ireturn, 1) := by decide +kernel
theorem d_Nm_hasSame_13 : decode c_Nm_hasSame 13 = .ok (.iconst 0, 1) := by decide +kernel
theorem d_Nm_hasSame_14 : decode c_Nm_hasSame 14 = .ok (.istore 5, 2) := by decide +kernel
theorem d_Nm_hasSame_16 : decode c_Nm_hasSame 16 = .ok (.iload 5, 2) := by decide +kernel
theorem d_Nm_hasSame_18 : decode c_Nm_hasSame 18 = .ok (.iload 4, 2) := by decide +kernel
theorem d_Nm_hasSame_20 : decode c_Nm_hasSame 20 = .ok (.if_icmp .ge 34, 3) := by decide +kernel
theorem d_Nm_hasSame_23 : decode c_Nm_hasSame 23 = .ok (.aload_n 1, 1) := by decide +kernel
theorem d_Nm_hasSame_24 : decode c_Nm_hasSame 24 = .ok (.aload_n 0, 1) := by decide +kernel
theorem d_Nm_hasSame_25 : decode c_Nm_hasSame 25 = .ok (.getfield 15, 3) := by decide +kernel
theorem d_Nm_hasSame_28 : decode c_Nm_hasSame 28 = .ok (.iload_n 2, 1) := by decide +kernel
theorem d_Nm_hasSame_29 : decode c_Nm_hasSame 29 = .ok (.bipush 12, 2) := by decide +kernel
theorem d_Nm_hasSame_31 : decode c_Nm_hasSame 31 = .ok (.imul, 1) := by decide +kernel
theorem d_Nm_hasSame_32 : decode c_Nm_hasSame 32 = .ok (.iload 5, 2) := by decide +kernel
theorem d_Nm_hasSame_34 : decode c_Nm_hasSame 34 = .ok (.iadd, 1) := by decide +kernel
theorem d_Nm_hasSame_35 : decode c_Nm_hasSame 35 = .ok (.iaload, 1) := by decide +kernel
theorem d_Nm_hasSame_36 : decode c_Nm_hasSame 36 = .ok (.aload_n 3, 1) := by decide +kernel
theorem d_Nm_hasSame_37 : decode c_Nm_hasSame 37 = .ok (.iload 5, 2) := by decide +kernel
theorem d_Nm_hasSame_39 : decode c_Nm_hasSame 39 = .ok (.iaload, 1) := by decide +kernel
theorem d_Nm_hasSame_40 : decode c_Nm_hasSame 40 = .ok (.invokevirtual 33, 3) := by decide +kernel
theorem d_Nm_hasSame_43 : decode c_Nm_hasSame 43 = .ok (.ifCond .eq 5, 3) := by decide +kernel
theorem d_Nm_hasSame_46 : decode c_Nm_hasSame 46 = .ok (.iconst 0, 1) := by decide +kernel
theorem d_Nm_hasSame_47 : decode c_Nm_hasSame 47 = .ok (.ireturn, 1) := by decide +kernel
theorem d_Nm_hasSame_48 : decode c_Nm_hasSame 48 = .ok (.iinc 5 1, 3) := by decide +kernel
theorem d_Nm_hasSame_51 : decode c_Nm_hasSame 51 = .ok (.goto (-35), 3) := by decide +kernel
theorem d_Nm_hasSame_54 : decode c_Nm_hasSame 54 = .ok (.iconst 1, 1) := by decide +kernel
theorem d_Nm_hasSame_55 : decode c_Nm_hasSame 55 = .ok (.ireturn, 1) := by decide +kernel
theorem d_Pc_all_0 : decode c_Pc_all 0 = .ok (.iconst 1, 1) := by decide +kernel
theorem d_Pc_all_1 : decode c_Pc_all 1 = .ok (.iload_n 0, 1) := by decide +kernel
theorem d_Pc_all_2 : decode c_Pc_all 2 = .ok (.ishl, 1) := by decide +kernel
theorem d_Pc_all_3 : decode c_Pc_all 3 = .ok (.iconst 1, 1) := by decide +kernel
theorem d_Pc_all_4 : decode c_Pc_all 4 = .ok (.isub, 1) := by decide +kernel
theorem d_Pc_all_5 : decode c_Pc_all 5 = .ok (.ireturn, 1) := by decide +kernel
theorem d_Pc_lowest_0 : decode c_Pc_lowest 0 = .ok (.iconst 0, 1) := by decide +kernel
theorem d_Pc_lowest_1 : decode c_Pc_lowest 1 = .ok (.istore_n 2, 1) := by decide +kernel
theorem d_Pc_lowest_2 : decode c_Pc_lowest 2 = .ok (.iload_n 1, 1) := by decide +kernel
theorem d_Pc_lowest_3 : decode c_Pc_lowest 3 = .ok (.istore_n 3, 1) := by decide +kernel
theorem d_Pc_lowest_4 : decode c_Pc_lowest 4 = .ok (.iconst 0, 1) := by decide +kernel
theorem d_Pc_lowest_5 : decode c_Pc_lowest 5 = .ok (.istore 4, 2) := by decide +kernel
theorem d_Pc_lowest_7 : decode c_Pc_lowest 7 = .ok (.iload 4, 2) := by decide +kernel
theorem d_Pc_lowest_9 : decode c_Pc_lowest 9 = .ok (.bipush 12, 2) := by decide +kernel
theorem d_Pc_lowest_11 : decode c_Pc_lowest 11 = .ok (.if_icmp .ge 34, 3) := by decide +kernel
theorem d_Pc_lowest_14 : decode c_Pc_lowest 14 = .ok (.iload_n 3, 1) := by decide +kernel
theorem d_Pc_lowest_15 : decode c_Pc_lowest 15 = .ok (.ifCond .le 30, 3) := by decide +kernel
theorem d_Pc_lowest_18 : decode c_Pc_lowest 18 = .ok (.iconst 1, 1) := by decide +kernel
theorem d_Pc_lowest_19 : decode c_Pc_lowest 19 = .ok (.iload 4, 2) := by decide +kernel
theorem d_Pc_lowest_21 : decode c_Pc_lowest 21 = .ok (.ishl, 1) := by decide +kernel
theorem d_Pc_lowest_22 : decode c_Pc_lowest 22 = .ok (.istore 5, 2) := by decide +kernel
theorem d_Pc_lowest_24 : decode c_Pc_lowest 24 = .ok (.iload_n 0, 1) := by decide +kernel
theorem d_Pc_lowest_25 : decode c_Pc_lowest 25 = .ok (.iload 5, 2) := by decide +kernel
theorem d_Pc_lowest_27 : decode c_Pc_lowest 27 = .ok (.iand, 1) := by decide +kernel
theorem d_Pc_lowest_28 : decode c_Pc_lowest 28 = .ok (.ifCond .eq 11, 3) := by decide +kernel
theorem d_Pc_lowest_31 : decode c_Pc_lowest 31 = .ok (.iload_n 2, 1) := by decide +kernel
theorem d_Pc_lowest_32 : decode c_Pc_lowest 32 = .ok (.iload 5, 2) := by decide +kernel
theorem d_Pc_lowest_34 : decode c_Pc_lowest 34 = .ok (.ior, 1) := by decide +kernel
theorem d_Pc_lowest_35 : decode c_Pc_lowest 35 = .ok (.istore_n 2, 1) := by decide +kernel
theorem d_Pc_lowest_36 : decode c_Pc_lowest 36 = .ok (.iinc 3 (-1), 3) := by decide +kernel
theorem d_Pc_lowest_39 : decode c_Pc_lowest 39 = .ok (.iinc 4 1, 3) := by decide +kernel
theorem d_Pc_lowest_42 : decode c_Pc_lowest 42 = .ok (.goto (-35), 3) := by decide +kernel
theorem d_Pc_lowest_45 : decode c_Pc_lowest 45 = .ok (.iload_n 3, 1) := by decide +kernel
theorem d_Pc_lowest_46 : decode c_Pc_lowest 46 = .ok (.ifCond .ne 7, 3) := by decide +kernel
theorem d_Pc_lowest_49 : decode c_Pc_lowest 49 = .ok (.iload_n 2, 1) := by decide +kernel
theorem d_Pc_lowest_50 : decode c_Pc_lowest 50 = .ok (.goto 4, 3) := by decide +kernel
theorem d_Pc_lowest_53 : decode c_Pc_lowest 53 = .ok (.iconst (-1), 1) := by decide +kernel
theorem d_Pc_lowest_54 : decode c_Pc_lowest 54 = .ok (.ireturn, 1) := by decide +kernel
theorem d_Pc_behind_0 : decode c_Pc_behind 0 = .ok (.iload_n 0, 1) := by decide +kernel
theorem d_Pc_behind_1 : decode c_Pc_behind 1 = .ok (.iload_n 1, 1) := by decide +kernel
theorem d_Pc_behind_2 : decode c_Pc_behind 2 = .ok (.iload_n 1, 1) := by decide +kernel
theorem d_Pc_behind_3 : decode c_Pc_behind 3 = .ok (.iconst 1, 1) := by decide +kernel
theorem d_Pc_behind_4 : decode c_Pc_behind 4 = .ok (.isub, 1) := by decide +kernel
theorem d_Pc_behind_5 : decode c_Pc_behind 5 = .ok (.ior, 1) := by decide +kernel
theorem d_Pc_behind_6 : decode c_Pc_behind 6 = .ok (.iconst (-1), 1) := by decide +kernel
theorem d_Pc_behind_7 : decode c_Pc_behind 7 = .ok (.ixor, 1) := by decide +kernel
theorem d_Pc_behind_8 : decode c_Pc_behind 8 = .ok (.iand, 1) := by decide +kernel
theorem d_Pc_behind_9 : decode c_Pc_behind 9 = .ok (.ireturn, 1) := by decide +kernel
theorem d_Pc_nextChoice_0 : decode c_Pc_nextChoice 0 = .ok (.iconst 0, 1) := by decide +kernel
theorem d_Pc_nextChoice_1 : decode c_Pc_nextChoice 1 = .ok (.istore_n 2, 1) := by decide +kernel
theorem d_Pc_nextChoice_2 : decode c_Pc_nextChoice 2 = .ok (.iconst 0, 1) := by decide +kernel
theorem d_Pc_nextChoice_3 : decode c_Pc_nextChoice 3 = .ok (.istore_n 3, 1) := by decide +kernel
theorem d_Pc_nextChoice_4 : decode c_Pc_nextChoice 4 = .ok (.bipush 11, 2) := by decide +kernel
theorem d_Pc_nextChoice_6 : decode c_Pc_nextChoice 6 = .ok (.istore 4, 2) := by decide +kernel
theorem d_Pc_nextChoice_8 : decode c_Pc_nextChoice 8 = .ok (.iload 4, 2) := by decide +kernel
theorem d_Pc_nextChoice_10 : decode c_Pc_nextChoice 10 = .ok (.ifCond .lt 69, 3) := by decide +kernel
theorem d_Pc_nextChoice_13 : decode c_Pc_nextChoice 13 = .ok (.iconst 1, 1) := by decide +kernel
theorem d_Pc_nextChoice_14 : decode c_Pc_nextChoice 14 = .ok (.iload 4, 2) := by decide +kernel
theorem d_Pc_nextChoice_16 : decode c_Pc_nextChoice 16 = .ok (.ishl, 1) := by decide +kernel
theorem d_Pc_nextChoice_17 : decode c_Pc_nextChoice 17 = .ok (.istore 5, 2) := by decide +kernel
theorem d_Pc_nextChoice_19 : decode c_Pc_nextChoice 19 = .ok (.iload_n 1, 1) := by decide +kernel
theorem d_Pc_nextChoice_20 : decode c_Pc_nextChoice 20 = .ok (.iload 5, 2) := by decide +kernel
theorem d_Pc_nextChoice_22 : decode c_Pc_nextChoice 22 = .ok (.iand, 1) := by decide +kernel
theorem d_Pc_nextChoice_23 : decode c_Pc_nextChoice 23 = .ok (.ifCond .ne 23, 3) := by decide +kernel
theorem d_Pc_nextChoice_26 : decode c_Pc_nextChoice 26 = .ok (.iload_n 3, 1) := by decide +kernel
theorem d_Pc_nextChoice_27 : decode c_Pc_nextChoice 27 = .ok (.ifCond .ne 10, 3) := by decide +kernel
theorem d_Pc_nextChoice_30 : decode c_Pc_nextChoice 30 = .ok (.iload_n 0, 1) := by decide +kernel
theorem d_Pc_nextChoice_31 : decode c_Pc_nextChoice 31 = .ok (.iload 5, 2) := by decide +kernel
theorem d_Pc_nextChoice_33 : decode c_Pc_nextChoice 33 = .ok (.iand, 1) := by decide +kernel
theorem d_Pc_nextChoice_34 : decode c_Pc_nextChoice 34 = .ok (.ifCond .eq 7, 3) := by decide +kernel
theorem d_Pc_nextChoice_37 : decode c_Pc_nextChoice 37 = .ok (.iconst 1, 1) := by decide +kernel
theorem d_Pc_nextChoice_38 : decode c_Pc_nextChoice 38 = .ok (.goto 4, 3) := by decide +kernel
theorem d_Pc_nextChoice_41 : decode c_Pc_nextChoice 41 = .ok (.iconst 0, 1) := by decide +kernel
theorem d_Pc_nextChoice_42 : decode c_Pc_nextChoice 42 = .ok (.istore_n 3, 1) := by decide +kernel
theorem d_Pc_nextChoice_43 : decode c_Pc_nextChoice 43 = .ok (.goto 30, 3) := by decide +kernel
theorem d_Pc_nextChoice_46 : decode c_Pc_nextChoice 46 = .ok (.iload_n 3, 1) := by decide +kernel
theorem d_Pc_nextChoice_47 : decode c_Pc_nextChoice 47 = .ok (.ifCond .eq 23, 3) := by decide +kernel
theorem d_Pc_nextChoice_50 : decode c_Pc_nextChoice 50 = .ok (.iload_n 1, 1) := by decide +kernel
theorem d_Pc_nextChoice_51 : decode c_Pc_nextChoice 51 = .ok (.iload 5, 2) := by decide +kernel
theorem d_Pc_nextChoice_53 : decode c_Pc_nextChoice 53 = .ok (.iconst 1, 1) := by decide +kernel
theorem d_Pc_nextChoice_54 : decode c_Pc_nextChoice 54 = .ok (.isub, 1) := by decide +kernel
theorem d_Pc_nextChoice_55 : decode c_Pc_nextChoice 55 = .ok (.iand, 1) := by decide +kernel
theorem d_Pc_nextChoice_56 : decode c_Pc_nextChoice 56 = .ok (.iload_n 0, 1) := by decide +kernel
theorem d_Pc_nextChoice_57 : decode c_Pc_nextChoice 57 = .ok (.iload 5, 2) := by decide +kernel
theorem d_Pc_nextChoice_59 : decode c_Pc_nextChoice 59 = .ok (.invokestatic 9, 3) := by decide +kernel
theorem d_Pc_nextChoice_62 : decode c_Pc_nextChoice 62 = .ok (.iload_n 2, 1) := by decide +kernel
theorem d_Pc_nextChoice_63 : decode c_Pc_nextChoice 63 = .ok (.iconst 1, 1) := by decide +kernel
theorem d_Pc_nextChoice_64 : decode c_Pc_nextChoice 64 = .ok (.iadd, 1) := by decide +kernel
theorem d_Pc_nextChoice_65 : decode c_Pc_nextChoice 65 = .ok (.invokestatic 15, 3) := by decide +kernel
theorem d_Pc_nextChoice_68 : decode c_Pc_nextChoice 68 = .ok (.ior, 1) := by decide +kernel
theorem d_Pc_nextChoice_69 : decode c_Pc_nextChoice 69 = .ok (.ireturn, 1) := by decide +kernel
theorem d_Pc_nextChoice_70 : decode c_Pc_nextChoice 70 = .ok (.iinc 2 1, 3) := by decide +kernel
theorem d_Pc_nextChoice_73 : decode c_Pc_nextChoice 73 = .ok (.iinc 4 (-1), 3) := by decide +kernel
theorem d_Pc_nextChoice_76 : decode c_Pc_nextChoice 76 = .ok (.goto (-68), 3) := by decide +kernel
theorem d_Pc_nextChoice_79 : decode c_Pc_nextChoice 79 = .ok (.iload_n 0, 1) := by decide +kernel
theorem d_Pc_nextChoice_80 : decode c_Pc_nextChoice 80 = .ok (.iload_n 2, 1) := by decide +kernel
theorem d_Pc_nextChoice_81 : decode c_Pc_nextChoice 81 = .ok (.iconst 1, 1) := by decide +kernel
theorem d_Pc_nextChoice_82 : decode c_Pc_nextChoice 82 = .ok (.iadd, 1) := by decide +kernel
theorem d_Pc_nextChoice_83 : decode c_Pc_nextChoice 83 = .ok (.invokestatic 15, 3) := by decide +kernel
theorem d_Pc_nextChoice_86 : decode c_Pc_nextChoice 86 = .ok (.ireturn, 1) := by decide +kernel
theorem d_Pl_init_0 : decode c_Pl_init 0 = .ok (.aload_n 0, 1) := by decide +kernel
theorem d_Pl_init_1 : decode c_Pl_init 1 = .ok (.invokespecial 3, 3) := by decide +kernel
theorem d_Pl_init_4 : decode c_Pl_init 4 = .ok (.aload_n 0, 1) := by decide +kernel
theorem d_Pl_init_5 : decode c_Pl_init 5 = .ok (.iconst 0, 1) := by decide +kernel
theorem d_Pl_init_6 : decode c_Pl_init 6 = .ok (.putfield 9, 3) := by decide +kernel
theorem d_Pl_init_9 : decode c_Pl_init 9 = .ok (.aload_n 0, 1) := by decide +kernel
theorem d_Pl_init_10 : decode c_Pl_init 10 = .ok (.bipush 70, 2) := by decide +kernel
theorem d_Pl_init_12 : decode c_Pl_init 12 = .ok (.newarray .int, 2) := by decide +kernel
theorem d_Pl_init_14 : decode c_Pl_init 14 = .ok (.putfield 15, 3) := by decide +kernel
theorem d_Pl_init_17 : decode c_Pl_init 17 = .ok (.aload_n 0, 1) := by decide +kernel
theorem d_Pl_init_18 : decode c_Pl_init 18 = .ok (.bipush 70, 2) := by decide +kernel
theorem d_Pl_init_20 : decode c_Pl_init 20 = .ok (.newarray .int, 2) := by decide +kernel
theorem d_Pl_init_22 : decode c_Pl_init 22 = .ok (.putfield 19, 3) := by decide +kernel
theorem d_Pl_init_25 : decode c_Pl_init 25 = .ok (.aload_n 0, 1) := by decide +kernel
theorem d_Pl_init_26 : decode c_Pl_init 26 = .ok (.bipush 70, 2) := by decide +kernel
theorem d_Pl_init_28 : decode c_Pl_init 28 = .ok (.newarray .boolean, 2) := by decide +kernel
theorem d_Pl_init_30 : decode c_Pl_init 30 = .ok (.putfield 22, 3) := by decide +kernel
theorem d_Pl_init_33 : decode c_Pl_init 33 = .ok (.return_, 1) := by decide +kernel
theorem d_Pl_lay_0 : decode c_Pl_lay 0 = .ok (.aload_n 0, 1) := by decide +kernel
theorem d_Pl_lay_1 : decode c_Pl_lay 1 = .ok (.iconst 1, 1) := by decide +kernel
theorem d_Pl_lay_2 : decode c_Pl_lay 2 = .ok (.putfield 9, 3) := by decide +kernel
theorem d_Pl_lay_5 : decode c_Pl_lay 5 = .ok (.aload_n 0, 1) := by decide +kernel
theorem d_Pl_lay_6 : decode c_Pl_lay 6 = .ok (.getfield 15, 3) := by decide +kernel
theorem d_Pl_lay_9 : decode c_Pl_lay 9 = .ok (.iconst 0, 1) := by decide +kernel
theorem d_Pl_lay_10 : decode c_Pl_lay 10 = .ok (.iload_n 2, 1) := by decide +kernel
theorem d_Pl_lay_11 : decode c_Pl_lay 11 = .ok (.iastore, 1) := by decide +kernel
theorem d_Pl_lay_12 : decode c_Pl_lay 12 = .ok (.aload_n 0, 1) := by decide +kernel
theorem d_Pl_lay_13 : decode c_Pl_lay 13 = .ok (.getfield 19, 3) := by decide +kernel
theorem d_Pl_lay_16 : decode c_Pl_lay 16 = .ok (.iconst 0, 1) := by decide +kernel
theorem d_Pl_lay_17 : decode c_Pl_lay 17 = .ok (.iconst (-1), 1) := by decide +kernel
theorem d_Pl_lay_18 : decode c_Pl_lay 18 = .ok (.iastore, 1) := by decide +kernel
theorem d_Pl_lay_19 : decode c_Pl_lay 19 = .ok (.aload_n 0, 1) := by decide +kernel
theorem d_Pl_lay_20 : decode c_Pl_lay 20 = .ok (.getfield 22, 3) := by decide +kernel
theorem d_Pl_lay_23 : decode c_Pl_lay 23 = .ok (.iconst 0, 1) := by decide +kernel
theorem d_Pl_lay_24 : decode c_Pl_lay 24 = .ok (.iconst 1, 1) := by decide +kernel
theorem d_Pl_lay_25 : decode c_Pl_lay 25 = .ok (.bastore, 1) := by decide +kernel
theorem d_Pl_lay_26 : decode c_Pl_lay 26 = .ok (.aload_n 0, 1) := by decide +kernel
theorem d_Pl_lay_27 : decode c_Pl_lay 27 = .ok (.aload_n 1, 1) := by decide +kernel
theorem d_Pl_lay_28 : decode c_Pl_lay 28 = .ok (.iconst 0, 1) := by decide +kernel
theorem d_Pl_lay_29 : decode c_Pl_lay 29 = .ok (.iconst 0, 1) := by decide +kernel
theorem d_Pl_lay_30 : decode c_Pl_lay 30 = .ok (.invokestatic 26, 3) := by decide +kernel
theorem d_Pl_lay_33 : decode c_Pl_lay 33 = .ok (.return_, 1) := by decide +kernel
theorem d_Pl_layParts_0 : decode c_Pl_layParts 0 = .ok (.iload_n 3, 1) := by decide +kernel
theorem d_Pl_layParts_1 : decode c_Pl_layParts 1 = .ok (.bipush 20, 2) := by decide +kernel
theorem d_Pl_layParts_3 : decode c_Pl_layParts 3 = .ok (.if_icmp .le 4, 3) := by decide +kernel
theorem d_Pl_layParts_6 : decode c_Pl_layParts 6 = .ok (.return_, 1) := by decide +kernel
theorem d_Pl_layParts_7 : decode c_Pl_layParts 7 = .ok (.aload_n 0, 1) := by decide +kernel
theorem d_Pl_layParts_8 : decode c_Pl_layParts 8 = .ok (.getfield 15, 3) := by decide +kernel
theorem d_Pl_layParts_11 : decode c_Pl_layParts 11 = .ok (.iload_n 2, 1) := by decide +kernel
theorem d_Pl_layParts_12 : decode c_Pl_layParts 12 = .ok (.iaload, 1) := by decide +kernel
theorem d_Pl_layParts_13 : decode c_Pl_layParts 13 = .ok (.istore 4, 2) := by decide +kernel
theorem d_Pl_layParts_15 : decode c_Pl_layParts 15 = .ok (.aload_n 1, 1) := by decide +kernel
theorem d_Pl_layParts_16 : decode c_Pl_layParts 16 = .ok (.iload 4, 2) := by decide +kernel
theorem d_Pl_layParts_18 : decode c_Pl_layParts 18 = .ok (.invokevirtual 30, 3) := by decide +kernel
theorem d_Pl_layParts_21 : decode c_Pl_layParts 21 = .ok (.istore 5, 2) := by decide +kernel
theorem d_Pl_layParts_23 : decode c_Pl_layParts 23 = .ok (.iconst 0, 1) := by decide +kernel
theorem d_Pl_layParts_24 : decode c_Pl_layParts 24 = .ok (.istore 6, 2) := by decide +kernel
theorem d_Pl_layParts_26 : decode c_Pl_layParts 26 = .ok (.iload 6, 2) := by decide +kernel
theorem d_Pl_layParts_28 : decode c_Pl_layParts 28 = .ok (.iload 5, 2) := by decide +kernel
theorem d_Pl_layParts_30 : decode c_Pl_layParts 30 = .ok (.if_icmp .ge 88, 3) := by decide +kernel
theorem d_Pl_layParts_33 : decode c_Pl_layParts 33 = .ok (.aload_n 0, 1) := by decide +kernel
theorem d_Pl_layParts_34 : decode c_Pl_layParts 34 = .ok (.getfield 9, 3) := by decide +kernel
theorem d_Pl_layParts_37 : decode c_Pl_layParts 37 = .ok (.bipush 70, 2) := by decide +kernel
theorem d_Pl_layParts_39 : decode c_Pl_layParts 39 = .ok (.if_icmp .ge 79, 3) := by decide +kernel
theorem d_Pl_layParts_42 : decode c_Pl_layParts 42 = .ok (.aload_n 0, 1) := by decide +kernel
theorem d_Pl_layParts_43 : decode c_Pl_layParts 43 = .ok (.getfield 9, 3) := by decide +kernel
theorem d_Pl_layParts_46 : decode c_Pl_layParts 46 = .ok (.istore 7, 2) := by decide +kernel
theorem d_Pl_layParts_48 : decode c_Pl_layParts 48 = .ok (.aload_n 0, 1) := by decide +kernel
theorem d_Pl_layParts_49 : decode c_Pl_layParts 49 = .ok (.getfield 15, 3) := by decide +kernel
theorem d_Pl_layParts_52 : decode c_Pl_layParts 52 = .ok (.iload 7, 2) := by decide +kernel
theorem d_Pl_layParts_54 : decode c_Pl_layParts 54 = .ok (.aload_n 1, 1) := by decide +kernel
theorem d_Pl_layParts_55 : decode c_Pl_layParts 55 = .ok (.iload 4, 2) := by decide +kernel
theorem d_Pl_layParts_57 : decode c_Pl_layParts 57 = .ok (.iload 6, 2) := by decide +kernel
theorem d_Pl_layParts_59 : decode c_Pl_layParts 59 = .ok (.invokevirtual 36, 3) := by decide +kernel
theorem d_Pl_layParts_62 : decode c_Pl_layParts 62 = .ok (.iastore, 1) := by decide +kernel
theorem d_Pl_layParts_63 : decode c_Pl_layParts 63 = .ok (.aload_n 0, 1) := by decide +kernel
theorem d_Pl_layParts_64 : decode c_Pl_layParts 64 = .ok (.getfield 19, 3) := by decide +kernel
theorem d_Pl_layParts_67 : decode c_Pl_layParts 67 = .ok (.iload 7, 2) := by decide +kernel
theorem d_Pl_layParts_69 : decode c_Pl_layParts 69 = .ok (.iload_n 2, 1) := by decide +kernel
theorem d_Pl_layParts_70 : decode c_Pl_layParts 70 = .ok (.iastore, 1) := by decide +kernel
theorem d_Pl_layParts_71 : decode c_Pl_layParts 71 = .ok (.aload_n 0, 1) := by decide +kernel
theorem d_Pl_layParts_72 : decode c_Pl_layParts 72 = .ok (.getfield 22, 3) := by decide +kernel
theorem d_Pl_layParts_75 : decode c_Pl_layParts 75 = .ok (.iload 7, 2) := by decide +kernel
theorem d_Pl_layParts_77 : decode c_Pl_layParts 77 = .ok (.iload 6, 2) := by decide +kernel
theorem d_Pl_layParts_79 : decode c_Pl_layParts 79 = .ok (.iload 5, 2) := by decide +kernel
theorem d_Pl_layParts_81 : decode c_Pl_layParts 81 = .ok (.iconst 1, 1) := by decide +kernel
theorem d_Pl_layParts_82 : decode c_Pl_layParts 82 = .ok (.isub, 1) := by decide +kernel
theorem d_Pl_layParts_83 : decode c_Pl_layParts 83 = .ok (.if_icmp .ne 7, 3) := by decide +kernel
theorem d_Pl_layParts_86 : decode c_Pl_layParts 86 = .ok (.iconst 1, 1) := by decide +kernel
theorem d_Pl_layParts_87 : decode c_Pl_layParts 87 = .ok (.goto 4, 3) := by decide +kernel
theorem d_Pl_layParts_90 : decode c_Pl_layParts 90 = .ok (.iconst 0, 1) := by decide +kernel
theorem d_Pl_layParts_91 : decode c_Pl_layParts 91 = .ok (.bastore, 1) := by decide +kernel
theorem d_Pl_layParts_92 : decode c_Pl_layParts 92 = .ok (.aload_n 0, 1) := by decide +kernel
theorem d_Pl_layParts_93 : decode c_Pl_layParts 93 = .ok (.dup, 1) := by decide +kernel
theorem d_Pl_layParts_94 : decode c_Pl_layParts 94 = .ok (.getfield 9, 3) := by decide +kernel
theorem d_Pl_layParts_97 : decode c_Pl_layParts 97 = .ok (.iconst 1, 1) := by decide +kernel
theorem d_Pl_layParts_98 : decode c_Pl_layParts 98 = .ok (.iadd, 1) := by decide +kernel
theorem d_Pl_layParts_99 : decode c_Pl_layParts 99 = .ok (.putfield 9, 3) := by decide +kernel
theorem d_Pl_layParts_102 : decode c_Pl_layParts 102 = .ok (.aload_n 0, 1) := by decide +kernel
theorem d_Pl_layParts_103 : decode c_Pl_layParts 103 = .ok (.aload_n 1, 1) := by decide +kernel
theorem d_Pl_layParts_104 : decode c_Pl_layParts 104 = .ok (.iload 7, 2) := by decide +kernel
theorem d_Pl_layParts_106 : decode c_Pl_layParts 106 = .ok (.iload_n 3, 1) := by decide +kernel
theorem d_Pl_layParts_107 : decode c_Pl_layParts 107 = .ok (.iconst 1, 1) := by decide +kernel
theorem d_Pl_layParts_108 : decode c_Pl_layParts 108 = .ok (.iadd, 1) := by decide +kernel
theorem d_Pl_layParts_109 : decode c_Pl_layParts 109 = .ok (.invokestatic 26, 3) := by decide +kernel
theorem d_Pl_layParts_112 : decode c_Pl_layParts 112 = .ok (.iinc 6 1, 3) := by decide +kernel
theorem d_Pl_layParts_115 : decode c_Pl_layParts 115 = .ok (.goto (-89), 3) := by decide +kernel
theorem d_Pl_layParts_118 : decode c_Pl_layParts 118 = .ok (.return_, 1) := by decide +kernel
theorem d_Pl_slotCount_0 : decode c_Pl_slotCount 0 = .ok (.aload_n 0, 1) := by decide +kernel
theorem d_Pl_slotCount_1 : decode c_Pl_slotCount 1 = .ok (.getfield 9, 3) := by decide +kernel
theorem d_Pl_slotCount_4 : decode c_Pl_slotCount 4 = .ok (.ireturn, 1) := by decide +kernel
theorem d_Pl_treeAt_0 : decode c_Pl_treeAt 0 = .ok (.aload_n 0, 1) := by decide +kernel
theorem d_Pl_treeAt_1 : decode c_Pl_treeAt 1 = .ok (.getfield 15, 3) := by decide +kernel
theorem d_Pl_treeAt_4 : decode c_Pl_treeAt 4 = .ok (.iload_n 1, 1) := by decide +kernel
theorem d_Pl_treeAt_5 : decode c_Pl_treeAt 5 = .ok (.iaload, 1) := by decide +kernel
theorem d_Pl_treeAt_6 : decode c_Pl_treeAt 6 = .ok (.ireturn, 1) := by decide +kernel
theorem d_Pl_parentOf_0 : decode c_Pl_parentOf 0 = .ok (.aload_n 0, 1) := by decide +kernel
theorem d_Pl_parentOf_1 : decode c_Pl_parentOf 1 = .ok (.getfield 19, 3) := by decide +kernel
theorem d_Pl_parentOf_4 : decode c_Pl_parentOf 4 = .ok (.iload_n 1, 1) := by decide +kernel
theorem d_Pl_parentOf_5 : decode c_Pl_parentOf 5 = .ok (.iaload, 1) := by decide +kernel
theorem d_Pl_parentOf_6 : decode c_Pl_parentOf 6 = .ok (.ireturn, 1) := by decide +kernel
theorem d_Pl_isLastInRow_0 : decode c_Pl_isLastInRow 0 = .ok (.aload_n 0, 1) := by decide +kernel
theorem d_Pl_isLastInRow_1 : decode c_Pl_isLastInRow 1 = .ok (.getfield 22, 3) := by decide +kernel
theorem d_Pl_isLastInRow_4 : decode c_Pl_isLastInRow 4 = .ok (.iload_n 1, 1) := by decide +kernel
theorem d_Pl_isLastInRow_5 : decode c_Pl_isLastInRow 5 = .ok (.baload, 1) := by decide +kernel
theorem d_Pl_isLastInRow_6 : decode c_Pl_isLastInRow 6 = .ok (.ireturn, 1) := by decide +kernel
theorem d_In_bitCount_0 : decode c_In_bitCount 0 = .ok (.iload_n 0, 1) := by decide +kernel
theorem d_In_bitCount_1 : decode c_In_bitCount 1 = .ok (.iload_n 0, 1) := by decide +kernel
theorem d_In_bitCount_2 : decode c_In_bitCount 2 = .ok (.iconst 1, 1) := by decide +kernel
theorem d_In_bitCount_3 : decode c_In_bitCount 3 = .ok (.iushr, 1) := by decide +kernel
theorem d_In_bitCount_4 : decode c_In_bitCount 4 = .ok (.ldc_w 265, 3) := by decide +kernel
theorem d_In_bitCount_7 : decode c_In_bitCount 7 = .ok (.iand, 1) := by decide +kernel
theorem d_In_bitCount_8 : decode c_In_bitCount 8 = .ok (.isub, 1) := by decide +kernel
theorem d_In_bitCount_9 : decode c_In_bitCount 9 = .ok (.istore_n 0, 1) := by decide +kernel
theorem d_In_bitCount_10 : decode c_In_bitCount 10 = .ok (.iload_n 0, 1) := by decide +kernel
theorem d_In_bitCount_11 : decode c_In_bitCount 11 = .ok (.ldc_w 266, 3) := by decide +kernel
theorem d_In_bitCount_14 : decode c_In_bitCount 14 = .ok (.iand, 1) := by decide +kernel
theorem d_In_bitCount_15 : decode c_In_bitCount 15 = .ok (.iload_n 0, 1) := by decide +kernel
theorem d_In_bitCount_16 : decode c_In_bitCount 16 = .ok (.iconst 2, 1) := by decide +kernel
theorem d_In_bitCount_17 : decode c_In_bitCount 17 = .ok (.iushr, 1) := by decide +kernel
theorem d_In_bitCount_18 : decode c_In_bitCount 18 = .ok (.ldc_w 266, 3) := by decide +kernel
theorem d_In_bitCount_21 : decode c_In_bitCount 21 = .ok (.iand, 1) := by decide +kernel
theorem d_In_bitCount_22 : decode c_In_bitCount 22 = .ok (.iadd, 1) := by decide +kernel
theorem d_In_bitCount_23 : decode c_In_bitCount 23 = .ok (.istore_n 0, 1) := by decide +kernel
theorem d_In_bitCount_24 : decode c_In_bitCount 24 = .ok (.iload_n 0, 1) := by decide +kernel
theorem d_In_bitCount_25 : decode c_In_bitCount 25 = .ok (.iload_n 0, 1) := by decide +kernel
theorem d_In_bitCount_26 : decode c_In_bitCount 26 = .ok (.iconst 4, 1) := by decide +kernel
theorem d_In_bitCount_27 : decode c_In_bitCount 27 = .ok (.iushr, 1) := by decide +kernel
theorem d_In_bitCount_28 : decode c_In_bitCount 28 = .ok (.iadd, 1) := by decide +kernel
theorem d_In_bitCount_29 : decode c_In_bitCount 29 = .ok (.ldc_w 267, 3) := by decide +kernel
theorem d_In_bitCount_32 : decode c_In_bitCount 32 = .ok (.iand, 1) := by decide +kernel
theorem d_In_bitCount_33 : decode c_In_bitCount 33 = .ok (.istore_n 0, 1) := by decide +kernel
theorem d_In_bitCount_34 : decode c_In_bitCount 34 = .ok (.iload_n 0, 1) := by decide +kernel
theorem d_In_bitCount_35 : decode c_In_bitCount 35 = .ok (.iload_n 0, 1) := by decide +kernel
theorem d_In_bitCount_36 : decode c_In_bitCount 36 = .ok (.bipush 8, 2) := by decide +kernel
theorem d_In_bitCount_38 : decode c_In_bitCount 38 = .ok (.iushr, 1) := by decide +kernel
theorem d_In_bitCount_39 : decode c_In_bitCount 39 = .ok (.iadd, 1) := by decide +kernel
theorem d_In_bitCount_40 : decode c_In_bitCount 40 = .ok (.istore_n 0, 1) := by decide +kernel
theorem d_In_bitCount_41 : decode c_In_bitCount 41 = .ok (.iload_n 0, 1) := by decide +kernel
theorem d_In_bitCount_42 : decode c_In_bitCount 42 = .ok (.iload_n 0, 1) := by decide +kernel
theorem d_In_bitCount_43 : decode c_In_bitCount 43 = .ok (.bipush 16, 2) := by decide +kernel
theorem d_In_bitCount_45 : decode c_In_bitCount 45 = .ok (.iushr, 1) := by decide +kernel
theorem d_In_bitCount_46 : decode c_In_bitCount 46 = .ok (.iadd, 1) := by decide +kernel
theorem d_In_bitCount_47 : decode c_In_bitCount 47 = .ok (.istore_n 0, 1) := by decide +kernel
theorem d_In_bitCount_48 : decode c_In_bitCount 48 = .ok (.iload_n 0, 1) := by decide +kernel
theorem d_In_bitCount_49 : decode c_In_bitCount 49 = .ok (.bipush 63, 2) := by decide +kernel
theorem d_In_bitCount_51 : decode c_In_bitCount 51 = .ok (.iand, 1) := by decide +kernel
theorem d_In_bitCount_52 : decode c_In_bitCount 52 = .ok (.ireturn, 1) := by decide +kernel
theorem d_Ar_fill_0 : decode c_Ar_fill 0 = .ok (.iconst 0, 1) := by decide +kernel
theorem d_Ar_fill_1 : decode c_Ar_fill 1 = .ok (.istore_n 2, 1) := by decide +kernel
theorem d_Ar_fill_2 : decode c_Ar_fill 2 = .ok (.aload_n 0, 1) := by decide +kernel
theorem d_Ar_fill_3 : decode c_Ar_fill 3 = .ok (.arraylength, 1) := by decide +kernel
theorem d_Ar_fill_4 : decode c_Ar_fill 4 = .ok (.istore_n 3, 1) := by decide +kernel
theorem d_Ar_fill_5 : decode c_Ar_fill 5 = .ok (.iload_n 2, 1) := by decide +kernel
theorem d_Ar_fill_6 : decode c_Ar_fill 6 = .ok (.iload_n 3, 1) := by decide +kernel
theorem d_Ar_fill_7 : decode c_Ar_fill 7 = .ok (.if_icmp .ge 13, 3) := by decide +kernel
theorem d_Ar_fill_10 : decode c_Ar_fill 10 = .ok (.aload_n 0, 1) := by decide +kernel
theorem d_Ar_fill_11 : decode c_Ar_fill 11 = .ok (.iload_n 2, 1) := by decide +kernel
theorem d_Ar_fill_12 : decode c_Ar_fill 12 = .ok (.iload_n 1, 1) := by decide +kernel
theorem d_Ar_fill_13 : decode c_Ar_fill 13 = .ok (.iastore, 1) := by decide +kernel
theorem d_Ar_fill_14 : decode c_Ar_fill 14 = .ok (.iinc 2 1, 3) := by decide +kernel
theorem d_Ar_fill_17 : decode c_Ar_fill 17 = .ok (.goto (-12), 3) := by decide +kernel
theorem d_Ar_fill_20 : decode c_Ar_fill 20 = .ok (.return_, 1) := by decide +kernel
