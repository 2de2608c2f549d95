/-! decode rows, by program (wip/whole/mk02.py) -/
theorem d_SM_init_0 : decode c_SM_init 0 = .ok (.aload_n 0, 1) := by decide +kernel
theorem d_SM_init_1 : decode c_SM_init 1 = .ok (.invokespecial 1, 3) := by decide +kernel
theorem d_SM_init_4 : decode c_SM_init 4 = .ok (.aload_n 0, 1) := by decide +kernel
theorem d_SM_init_5 : decode c_SM_init 5 = .ok (.new 7, 3) := by decide +kernel
theorem d_SM_init_8 : decode c_SM_init 8 = .ok (.dup, 1) := by decide +kernel
theorem d_SM_init_9 : decode c_SM_init 9 = .ok (.invokespecial 9, 3) := by decide +kernel
theorem d_SM_init_12 : decode c_SM_init 12 = .ok (.putfield 10, 3) := by decide +kernel
theorem d_SM_init_15 : decode c_SM_init 15 = .ok (.aload_n 0, 1) := by decide +kernel
theorem d_SM_init_16 : decode c_SM_init 16 = .ok (.new 16, 3) := by decide +kernel
theorem d_SM_init_19 : decode c_SM_init 19 = .ok (.dup, 1) := by decide +kernel
theorem d_SM_init_20 : decode c_SM_init 20 = .ok (.aload_n 0, 1) := by decide +kernel
theorem d_SM_init_21 : decode c_SM_init 21 = .ok (.getfield 10, 3) := by decide +kernel
theorem d_SM_init_24 : decode c_SM_init 24 = .ok (.invokespecial 18, 3) := by decide +kernel
theorem d_SM_init_27 : decode c_SM_init 27 = .ok (.putfield 21, 3) := by decide +kernel
theorem d_SM_init_30 : decode c_SM_init 30 = .ok (.aload_n 0, 1) := by decide +kernel
theorem d_SM_init_31 : decode c_SM_init 31 = .ok (.bipush 30, 2) := by decide +kernel
theorem d_SM_init_33 : decode c_SM_init 33 = .ok (.newarray .int, 2) := by decide +kernel
theorem d_SM_init_35 : decode c_SM_init 35 = .ok (.putfield 25, 3) := by decide +kernel
theorem d_SM_init_38 : decode c_SM_init 38 = .ok (.aload_n 0, 1) := by decide +kernel
theorem d_SM_init_39 : decode c_SM_init 39 = .ok (.iconst 0, 1) := by decide +kernel
theorem d_SM_init_40 : decode c_SM_init 40 = .ok (.putfield 29, 3) := by decide +kernel
theorem d_SM_init_43 : decode c_SM_init 43 = .ok (.aload_n 0, 1) := by decide +kernel
theorem d_SM_init_44 : decode c_SM_init 44 = .ok (.bipush 30, 2) := by decide +kernel
theorem d_SM_init_46 : decode c_SM_init 46 = .ok (.newarray .int, 2) := by decide +kernel
theorem d_SM_init_48 : decode c_SM_init 48 = .ok (.putfield 33, 3) := by decide +kernel
theorem d_SM_init_51 : decode c_SM_init 51 = .ok (.aload_n 0, 1) := by decide +kernel
theorem d_SM_init_52 : decode c_SM_init 52 = .ok (.iconst 0, 1) := by decide +kernel
theorem d_SM_init_53 : decode c_SM_init 53 = .ok (.putfield 36, 3) := by decide +kernel
theorem d_SM_init_56 : decode c_SM_init 56 = .ok (.return_, 1) := by decide +kernel
theorem d_SM_leaf_0 : decode c_SM_leaf 0 = .ok (.iload_n 1, 1) := by decide +kernel
theorem d_SM_leaf_1 : decode c_SM_leaf 1 = .ok (.bipush 100, 2) := by decide +kernel
theorem d_SM_leaf_3 : decode c_SM_leaf 3 = .ok (.invokestatic 39, 3) := by decide +kernel
theorem d_SM_leaf_6 : decode c_SM_leaf 6 = .ok (.aload_n 0, 1) := by decide +kernel
theorem d_SM_leaf_7 : decode c_SM_leaf 7 = .ok (.iconst 0, 1) := by decide +kernel
theorem d_SM_leaf_8 : decode c_SM_leaf 8 = .ok (.iload_n 1, 1) := by decide +kernel
theorem d_SM_leaf_9 : decode c_SM_leaf 9 = .ok (.iconst 0, 1) := by decide +kernel
theorem d_SM_leaf_10 : decode c_SM_leaf 10 = .ok (.invokevirtual 43, 3) := by decide +kernel
theorem d_SM_leaf_13 : decode c_SM_leaf 13 = .ok (.ireturn, 1) := by decide +kernel
theorem d_SM_node_0 : decode c_SM_node 0 = .ok (.iload_n 1, 1) := by decide +kernel
theorem d_SM_node_1 : decode c_SM_node 1 = .ok (.bipush 10, 2) := by decide +kernel
theorem d_SM_node_3 : decode c_SM_node 3 = .ok (.invokestatic 39, 3) := by decide +kernel
theorem d_SM_node_6 : decode c_SM_node 6 = .ok (.aload_n 0, 1) := by decide +kernel
theorem d_SM_node_7 : decode c_SM_node 7 = .ok (.iconst 1, 1) := by decide +kernel
theorem d_SM_node_8 : decode c_SM_node 8 = .ok (.iload_n 1, 1) := by decide +kernel
theorem d_SM_node_9 : decode c_SM_node 9 = .ok (.iconst 0, 1) := by decide +kernel
theorem d_SM_node_10 : decode c_SM_node 10 = .ok (.invokevirtual 43, 3) := by decide +kernel
theorem d_SM_node_13 : decode c_SM_node 13 = .ok (.ireturn, 1) := by decide +kernel
theorem d_SM_more_0 : decode c_SM_more 0 = .ok (.aload_n 0, 1) := by decide +kernel
theorem d_SM_more_1 : decode c_SM_more 1 = .ok (.iload_n 1, 1) := by decide +kernel
theorem d_SM_more_2 : decode c_SM_more 2 = .ok (.invokevirtual 47, 3) := by decide +kernel
theorem d_SM_more_5 : decode c_SM_more 5 = .ok (.aload_n 0, 1) := by decide +kernel
theorem d_SM_more_6 : decode c_SM_more 6 = .ok (.iload_n 2, 1) := by decide +kernel
theorem d_SM_more_7 : decode c_SM_more 7 = .ok (.invokevirtual 47, 3) := by decide +kernel
theorem d_SM_more_10 : decode c_SM_more 10 = .ok (.aload_n 0, 1) := by decide +kernel
theorem d_SM_more_11 : decode c_SM_more 11 = .ok (.getfield 10, 3) := by decide +kernel
theorem d_SM_more_14 : decode c_SM_more 14 = .ok (.iload_n 1, 1) := by decide +kernel
theorem d_SM_more_15 : decode c_SM_more 15 = .ok (.iload_n 2, 1) := by decide +kernel
theorem d_SM_more_16 : decode c_SM_more 16 = .ok (.invokevirtual 51, 3) := by decide +kernel
theorem d_SM_more_19 : decode c_SM_more 19 = .ok (.ifCond .ne 13, 3) := by decide +kernel
theorem d_SM_more_22 : decode c_SM_more 22 = .ok (.new 55, 3) := by decide +kernel
theorem d_SM_more_25 : decode c_SM_more 25 = .ok (.dup, 1) := by decide +kernel
theorem d_SM_more_26 : decode c_SM_more 26 = .ok (.ldc 57, 2) := by decide +kernel
theorem d_SM_more_28 : decode c_SM_more 28 = .ok (.invokespecial 59, 3) := by decide +kernel
theorem d_SM_more_31 : decode c_SM_more 31 = .ok (.athrow, 1) := by decide +kernel
theorem d_SM_more_32 : decode c_SM_more 32 = .ok (.aload_n 0, 1) := by decide +kernel
theorem d_SM_more_33 : decode c_SM_more 33 = .ok (.getfield 10, 3) := by decide +kernel
theorem d_SM_more_36 : decode c_SM_more 36 = .ok (.iload_n 1, 1) := by decide +kernel
theorem d_SM_more_37 : decode c_SM_more 37 = .ok (.iload_n 2, 1) := by decide +kernel
theorem d_SM_more_38 : decode c_SM_more 38 = .ok (.invokevirtual 62, 3) := by decide +kernel
theorem d_SM_more_41 : decode c_SM_more 41 = .ok (.ireturn, 1) := by decide +kernel
theorem d_SM_hole_0 : decode c_SM_hole 0 = .ok (.iload_n 1, 1) := by decide +kernel
theorem d_SM_hole_1 : decode c_SM_hole 1 = .ok (.bipush 8, 2) := by decide +kernel
theorem d_SM_hole_3 : decode c_SM_hole 3 = .ok (.invokestatic 39, 3) := by decide +kernel
theorem d_SM_hole_6 : decode c_SM_hole 6 = .ok (.iload_n 2, 1) := by decide +kernel
theorem d_SM_hole_7 : decode c_SM_hole 7 = .ok (.iconst 4, 1) := by decide +kernel
theorem d_SM_hole_8 : decode c_SM_hole 8 = .ok (.invokestatic 39, 3) := by decide +kernel
theorem d_SM_hole_11 : decode c_SM_hole 11 = .ok (.aload_n 0, 1) := by decide +kernel
theorem d_SM_hole_12 : decode c_SM_hole 12 = .ok (.iconst 2, 1) := by decide +kernel
theorem d_SM_hole_13 : decode c_SM_hole 13 = .ok (.iload_n 1, 1) := by decide +kernel
theorem d_SM_hole_14 : decode c_SM_hole 14 = .ok (.iload_n 2, 1) := by decide +kernel
theorem d_SM_hole_15 : decode c_SM_hole 15 = .ok (.invokevirtual 43, 3) := by decide +kernel
theorem d_SM_hole_18 : decode c_SM_hole 18 = .ok (.ireturn, 1) := by decide +kernel
theorem d_SM_test_0 : decode c_SM_test 0 = .ok (.aload_n 0, 1) := by decide +kernel
theorem d_SM_test_1 : decode c_SM_test 1 = .ok (.iload_n 1, 1) := by decide +kernel
theorem d_SM_test_2 : decode c_SM_test 2 = .ok (.invokevirtual 47, 3) := by decide +kernel
theorem d_SM_test_5 : decode c_SM_test 5 = .ok (.aload_n 0, 1) := by decide +kernel
theorem d_SM_test_6 : decode c_SM_test 6 = .ok (.getfield 10, 3) := by decide +kernel
theorem d_SM_test_9 : decode c_SM_test 9 = .ok (.iload_n 1, 1) := by decide +kernel
theorem d_SM_test_10 : decode c_SM_test 10 = .ok (.invokevirtual 65, 3) := by decide +kernel
theorem d_SM_test_13 : decode c_SM_test 13 = .ok (.ifCond .ne 13, 3) := by decide +kernel
theorem d_SM_test_16 : decode c_SM_test 16 = .ok (.new 55, 3) := by decide +kernel
theorem d_SM_test_19 : decode c_SM_test 19 = .ok (.dup, 1) := by decide +kernel
theorem d_SM_test_20 : decode c_SM_test 20 = .ok (.ldc 69, 2) := by decide +kernel
theorem d_SM_test_22 : decode c_SM_test 22 = .ok (.invokespecial 59, 3) := by decide +kernel
theorem d_SM_test_25 : decode c_SM_test 25 = .ok (.athrow, 1) := by decide +kernel
theorem d_SM_test_26 : decode c_SM_test 26 = .ok (.iload_n 2, 1) := by decide +kernel
theorem d_SM_test_27 : decode c_SM_test 27 = .ok (.iconst 5, 1) := by decide +kernel
theorem d_SM_test_28 : decode c_SM_test 28 = .ok (.invokestatic 39, 3) := by decide +kernel
theorem d_SM_test_31 : decode c_SM_test 31 = .ok (.aload_n 0, 1) := by decide +kernel
theorem d_SM_test_32 : decode c_SM_test 32 = .ok (.getfield 10, 3) := by decide +kernel
theorem d_SM_test_35 : decode c_SM_test 35 = .ok (.iload_n 1, 1) := by decide +kernel
theorem d_SM_test_36 : decode c_SM_test 36 = .ok (.iload_n 2, 1) := by decide +kernel
theorem d_SM_test_37 : decode c_SM_test 37 = .ok (.iload_n 3, 1) := by decide +kernel
theorem d_SM_test_38 : decode c_SM_test 38 = .ok (.invokevirtual 71, 3) := by decide +kernel
theorem d_SM_test_41 : decode c_SM_test 41 = .ok (.ireturn, 1) := by decide +kernel
theorem d_SM_match_0 : decode c_SM_match 0 = .ok (.aload_n 0, 1) := by decide +kernel
theorem d_SM_match_1 : decode c_SM_match 1 = .ok (.iload_n 1, 1) := by decide +kernel
theorem d_SM_match_2 : decode c_SM_match 2 = .ok (.invokevirtual 47, 3) := by decide +kernel
theorem d_SM_match_5 : decode c_SM_match 5 = .ok (.aload_n 0, 1) := by decide +kernel
theorem d_SM_match_6 : decode c_SM_match 6 = .ok (.iload_n 2, 1) := by decide +kernel
theorem d_SM_match_7 : decode c_SM_match 7 = .ok (.invokevirtual 75, 3) := by decide +kernel
theorem d_SM_match_10 : decode c_SM_match 10 = .ok (.iload_n 3, 1) := by decide +kernel
theorem d_SM_match_11 : decode c_SM_match 11 = .ok (.sipush 401, 3) := by decide +kernel
theorem d_SM_match_14 : decode c_SM_match 14 = .ok (.invokestatic 39, 3) := by decide +kernel
theorem d_SM_match_17 : decode c_SM_match 17 = .ok (.aload_n 0, 1) := by decide +kernel
theorem d_SM_match_18 : decode c_SM_match 18 = .ok (.getfield 21, 3) := by decide +kernel
theorem d_SM_match_21 : decode c_SM_match 21 = .ok (.iload_n 1, 1) := by decide +kernel
theorem d_SM_match_22 : decode c_SM_match 22 = .ok (.iload_n 2, 1) := by decide +kernel
theorem d_SM_match_23 : decode c_SM_match 23 = .ok (.iload_n 3, 1) := by decide +kernel
theorem d_SM_match_24 : decode c_SM_match 24 = .ok (.invokevirtual 78, 3) := by decide +kernel
theorem d_SM_match_27 : decode c_SM_match 27 = .ok (.aload_n 0, 1) := by decide +kernel
theorem d_SM_match_28 : decode c_SM_match 28 = .ok (.getfield 21, 3) := by decide +kernel
theorem d_SM_match_31 : decode c_SM_match 31 = .ok (.invokevirtual 82, 3) := by decide +kernel
theorem d_SM_match_34 : decode c_SM_match 34 = .ok (.ifCond .eq 7, 3) := by decide +kernel
theorem d_SM_match_37 : decode c_SM_match 37 = .ok (.iconst (-1), 1) := by decide +kernel
theorem d_SM_match_38 : decode c_SM_match 38 = .ok (.goto 10, 3) := by decide +kernel
theorem d_SM_match_41 : decode c_SM_match 41 = .ok (.aload_n 0, 1) := by decide +kernel
theorem d_SM_match_42 : decode c_SM_match 42 = .ok (.getfield 21, 3) := by decide +kernel
theorem d_SM_match_45 : decode c_SM_match 45 = .ok (.invokevirtual 86, 3) := by decide +kernel
theorem d_SM_match_48 : decode c_SM_match 48 = .ok (.ireturn, 1) := by decide +kernel
theorem d_SM_tried_0 : decode c_SM_tried 0 = .ok (.aload_n 0, 1) := by decide +kernel
theorem d_SM_tried_1 : decode c_SM_tried 1 = .ok (.getfield 21, 3) := by decide +kernel
theorem d_SM_tried_4 : decode c_SM_tried 4 = .ok (.invokevirtual 90, 3) := by decide +kernel
theorem d_SM_tried_7 : decode c_SM_tried 7 = .ok (.ireturn, 1) := by decide +kernel
theorem d_SM_bound_0 : decode c_SM_bound 0 = .ok (.aload_n 0, 1) := by decide +kernel
theorem d_SM_bound_1 : decode c_SM_bound 1 = .ok (.iload_n 1, 1) := by decide +kernel
theorem d_SM_bound_2 : decode c_SM_bound 2 = .ok (.invokevirtual 93, 3) := by decide +kernel
theorem d_SM_bound_5 : decode c_SM_bound 5 = .ok (.iload_n 2, 1) := by decide +kernel
theorem d_SM_bound_6 : decode c_SM_bound 6 = .ok (.bipush 8, 2) := by decide +kernel
theorem d_SM_bound_8 : decode c_SM_bound 8 = .ok (.invokestatic 39, 3) := by decide +kernel
theorem d_SM_bound_11 : decode c_SM_bound 11 = .ok (.aload_n 0, 1) := by decide +kernel
theorem d_SM_bound_12 : decode c_SM_bound 12 = .ok (.getfield 21, 3) := by decide +kernel
theorem d_SM_bound_15 : decode c_SM_bound 15 = .ok (.invokevirtual 96, 3) := by decide +kernel
theorem d_SM_bound_18 : decode c_SM_bound 18 = .ok (.iload_n 1, 1) := by decide +kernel
theorem d_SM_bound_19 : decode c_SM_bound 19 = .ok (.iload_n 2, 1) := by decide +kernel
theorem d_SM_bound_20 : decode c_SM_bound 20 = .ok (.iload_n 3, 1) := by decide +kernel
theorem d_SM_bound_21 : decode c_SM_bound 21 = .ok (.invokevirtual 100, 3) := by decide +kernel
theorem d_SM_bound_24 : decode c_SM_bound 24 = .ok (.ireturn, 1) := by decide +kernel
theorem d_SM_many_0 : decode c_SM_many 0 = .ok (.aload_n 0, 1) := by decide +kernel
theorem d_SM_many_1 : decode c_SM_many 1 = .ok (.iload_n 1, 1) := by decide +kernel
theorem d_SM_many_2 : decode c_SM_many 2 = .ok (.invokevirtual 93, 3) := by decide +kernel
theorem d_SM_many_5 : decode c_SM_many 5 = .ok (.iload_n 2, 1) := by decide +kernel
theorem d_SM_many_6 : decode c_SM_many 6 = .ok (.bipush 8, 2) := by decide +kernel
theorem d_SM_many_8 : decode c_SM_many 8 = .ok (.invokestatic 39, 3) := by decide +kernel
theorem d_SM_many_11 : decode c_SM_many 11 = .ok (.aload_n 0, 1) := by decide +kernel
theorem d_SM_many_12 : decode c_SM_many 12 = .ok (.getfield 21, 3) := by decide +kernel
theorem d_SM_many_15 : decode c_SM_many 15 = .ok (.invokevirtual 96, 3) := by decide +kernel
theorem d_SM_many_18 : decode c_SM_many 18 = .ok (.iload_n 1, 1) := by decide +kernel
theorem d_SM_many_19 : decode c_SM_many 19 = .ok (.iload_n 2, 1) := by decide +kernel
theorem d_SM_many_20 : decode c_SM_many 20 = .ok (.invokevirtual 105, 3) := by decide +kernel
theorem d_SM_many_23 : decode c_SM_many 23 = .ok (.ireturn, 1) := by decide +kernel
theorem d_SM_rule_0 : decode c_SM_rule 0 = .ok (.aload_n 0, 1) := by decide +kernel
theorem d_SM_rule_1 : decode c_SM_rule 1 = .ok (.iload_n 1, 1) := by decide +kernel
theorem d_SM_rule_2 : decode c_SM_rule 2 = .ok (.invokevirtual 47, 3) := by decide +kernel
theorem d_SM_rule_5 : decode c_SM_rule 5 = .ok (.aload_n 0, 1) := by decide +kernel
theorem d_SM_rule_6 : decode c_SM_rule 6 = .ok (.getfield 29, 3) := by decide +kernel
theorem d_SM_rule_9 : decode c_SM_rule 9 = .ok (.bipush 30, 2) := by decide +kernel
theorem d_SM_rule_11 : decode c_SM_rule 11 = .ok (.if_icmp .lt 13, 3) := by decide +kernel
theorem d_SM_rule_14 : decode c_SM_rule 14 = .ok (.new 109, 3) := by decide +kernel
theorem d_SM_rule_17 : decode c_SM_rule 17 = .ok (.dup, 1) := by decide +kernel
theorem d_SM_rule_18 : decode c_SM_rule 18 = .ok (.ldc 111, 2) := by decide +kernel
theorem d_SM_rule_20 : decode c_SM_rule 20 = .ok (.invokespecial 113, 3) := by decide +kernel
theorem d_SM_rule_23 : decode c_SM_rule 23 = .ok (.athrow, 1) := by decide +kernel
theorem d_SM_rule_24 : decode c_SM_rule 24 = .ok (.aload_n 0, 1) := by decide +kernel
theorem d_SM_rule_25 : decode c_SM_rule 25 = .ok (.getfield 10, 3) := by decide +kernel
theorem d_SM_rule_28 : decode c_SM_rule 28 = .ok (.iload_n 1, 1) := by decide +kernel
theorem d_SM_rule_29 : decode c_SM_rule 29 = .ok (.invokevirtual 114, 3) := by decide +kernel
theorem d_SM_rule_32 : decode c_SM_rule 32 = .ok (.aload_n 0, 1) := by decide +kernel
theorem d_SM_rule_33 : decode c_SM_rule 33 = .ok (.getfield 25, 3) := by decide +kernel
theorem d_SM_rule_36 : decode c_SM_rule 36 = .ok (.aload_n 0, 1) := by decide +kernel
theorem d_SM_rule_37 : decode c_SM_rule 37 = .ok (.getfield 29, 3) := by decide +kernel
theorem d_SM_rule_40 : decode c_SM_rule 40 = .ok (.iload_n 1, 1) := by decide +kernel
theorem d_SM_rule_41 : decode c_SM_rule 41 = .ok (.iastore, 1) := by decide +kernel
theorem d_SM_rule_42 : decode c_SM_rule 42 = .ok (.aload_n 0, 1) := by decide +kernel
theorem d_SM_rule_43 : decode c_SM_rule 43 = .ok (.dup, 1) := by decide +kernel
theorem d_SM_rule_44 : decode c_SM_rule 44 = .ok (.getfield 29, 3) := by decide +kernel
theorem d_SM_rule_47 : decode c_SM_rule 47 = .ok (.iconst 1, 1) := by decide +kernel
theorem d_SM_rule_48 : decode c_SM_rule 48 = .ok (.iadd, 1) := by decide +kernel
theorem d_SM_rule_49 : decode c_SM_rule 49 = .ok (.putfield 29, 3) := by decide +kernel
theorem d_SM_rule_52 : decode c_SM_rule 52 = .ok (.aload_n 0, 1) := by decide +kernel
theorem d_SM_rule_53 : decode c_SM_rule 53 = .ok (.getfield 29, 3) := by decide +kernel
theorem d_SM_rule_56 : decode c_SM_rule 56 = .ok (.iconst 1, 1) := by decide +kernel
theorem d_SM_rule_57 : decode c_SM_rule 57 = .ok (.isub, 1) := by decide +kernel
theorem d_SM_rule_58 : decode c_SM_rule 58 = .ok (.ireturn, 1) := by decide +kernel
theorem d_SM_net_0 : decode c_SM_net 0 = .ok (.aload_n 0, 1) := by decide +kernel
theorem d_SM_net_1 : decode c_SM_net 1 = .ok (.iload_n 1, 1) := by decide +kernel
theorem d_SM_net_2 : decode c_SM_net 2 = .ok (.invokevirtual 75, 3) := by decide +kernel
theorem d_SM_net_5 : decode c_SM_net 5 = .ok (.aload_n 0, 1) := by decide +kernel
theorem d_SM_net_6 : decode c_SM_net 6 = .ok (.iconst 0, 1) := by decide +kernel
theorem d_SM_net_7 : decode c_SM_net 7 = .ok (.putfield 36, 3) := by decide +kernel
theorem d_SM_net_10 : decode c_SM_net 10 = .ok (.iconst 0, 1) := by decide +kernel
theorem d_SM_net_11 : decode c_SM_net 11 = .ok (.istore_n 2, 1) := by decide +kernel
theorem d_SM_net_12 : decode c_SM_net 12 = .ok (.iload_n 2, 1) := by decide +kernel
theorem d_SM_net_13 : decode c_SM_net 13 = .ok (.aload_n 0, 1) := by decide +kernel
theorem d_SM_net_14 : decode c_SM_net 14 = .ok (.getfield 29, 3) := by decide +kernel
theorem d_SM_net_17 : decode c_SM_net 17 = .ok (.if_icmp .ge 46, 3) := by decide +kernel
theorem d_SM_net_20 : decode c_SM_net 20 = .ok (.aload_n 0, 1) := by decide +kernel
theorem d_SM_net_21 : decode c_SM_net 21 = .ok (.getfield 10, 3) := by decide +kernel
theorem d_SM_net_24 : decode c_SM_net 24 = .ok (.aload_n 0, 1) := by decide +kernel
theorem d_SM_net_25 : decode c_SM_net 25 = .ok (.getfield 25, 3) := by decide +kernel
theorem d_SM_net_28 : decode c_SM_net 28 = .ok (.iload_n 2, 1) := by decide +kernel
theorem d_SM_net_29 : decode c_SM_net 29 = .ok (.iaload, 1) := by decide +kernel
theorem d_SM_net_30 : decode c_SM_net 30 = .ok (.iload_n 1, 1) := by decide +kernel
theorem d_SM_net_31 : decode c_SM_net 31 = .ok (.invokevirtual 117, 3) := by decide +kernel
theorem d_SM_net_34 : decode c_SM_net 34 = .ok (.ifCond .eq 23, 3) := by decide +kernel
theorem d_SM_net_37 : decode c_SM_net 37 = .ok (.aload_n 0, 1) := by decide +kernel
theorem d_SM_net_38 : decode c_SM_net 38 = .ok (.getfield 33, 3) := by decide +kernel
theorem d_SM_net_41 : decode c_SM_net 41 = .ok (.aload_n 0, 1) := by decide +kernel
theorem d_SM_net_42 : decode c_SM_net 42 = .ok (.getfield 36, 3) := by decide +kernel
theorem d_SM_net_45 : decode c_SM_net 45 = .ok (.iload_n 2, 1) := by decide +kernel
theorem d_SM_net_46 : decode c_SM_net 46 = .ok (.iastore, 1) := by decide +kernel
theorem d_SM_net_47 : decode c_SM_net 47 = .ok (.aload_n 0, 1) := by decide +kernel
theorem d_SM_net_48 : decode c_SM_net 48 = .ok (.dup, 1) := by decide +kernel
theorem d_SM_net_49 : decode c_SM_net 49 = .ok (.getfield 36, 3) := by decide +kernel
theorem d_SM_net_52 : decode c_SM_net 52 = .ok (.iconst 1, 1) := by decide +kernel
theorem d_SM_net_53 : decode c_SM_net 53 = .ok (.iadd, 1) := by decide +kernel
theorem d_SM_net_54 : decode c_SM_net 54 = .ok (.putfield 36, 3) := by decide +kernel
theorem d_SM_net_57 : decode c_SM_net 57 = .ok (.iinc 2 1, 3) := by decide +kernel
theorem d_SM_net_60 : decode c_SM_net 60 = .ok (.goto (-48), 3) := by decide +kernel
theorem d_SM_net_63 : decode c_SM_net 63 = .ok (.aload_n 0, 1) := by decide +kernel
theorem d_SM_net_64 : decode c_SM_net 64 = .ok (.getfield 36, 3) := by decide +kernel
theorem d_SM_net_67 : decode c_SM_net 67 = .ok (.ireturn, 1) := by decide +kernel
theorem d_SM_rules_0 : decode c_SM_rules 0 = .ok (.iload_n 1, 1) := by decide +kernel
theorem d_SM_rules_1 : decode c_SM_rules 1 = .ok (.ifCond .lt 20, 3) := by decide +kernel
theorem d_SM_rules_4 : decode c_SM_rules 4 = .ok (.iload_n 1, 1) := by decide +kernel
theorem d_SM_rules_5 : decode c_SM_rules 5 = .ok (.aload_n 0, 1) := by decide +kernel
theorem d_SM_rules_6 : decode c_SM_rules 6 = .ok (.getfield 36, 3) := by decide +kernel
theorem d_SM_rules_9 : decode c_SM_rules 9 = .ok (.if_icmp .ge 12, 3) := by decide +kernel
theorem d_SM_rules_12 : decode c_SM_rules 12 = .ok (.aload_n 0, 1) := by decide +kernel
theorem d_SM_rules_13 : decode c_SM_rules 13 = .ok (.getfield 33, 3) := by decide +kernel
theorem d_SM_rules_16 : decode c_SM_rules 16 = .ok (.iload_n 1, 1) := by decide +kernel
theorem d_SM_rules_17 : decode c_SM_rules 17 = .ok (.iaload, 1) := by decide +kernel
theorem d_SM_rules_18 : decode c_SM_rules 18 = .ok (.goto 4, 3) := by decide +kernel
theorem d_SM_rules_21 : decode c_SM_rules 21 = .ok (.iconst (-1), 1) := by decide +kernel
theorem d_SM_rules_22 : decode c_SM_rules 22 = .ok (.ireturn, 1) := by decide +kernel
theorem d_SM_first_0 : decode c_SM_first 0 = .ok (.aload_n 0, 1) := by decide +kernel
theorem d_SM_first_1 : decode c_SM_first 1 = .ok (.iload_n 1, 1) := by decide +kernel
theorem d_SM_first_2 : decode c_SM_first 2 = .ok (.invokevirtual 75, 3) := by decide +kernel
theorem d_SM_first_5 : decode c_SM_first 5 = .ok (.aload_n 0, 1) := by decide +kernel
theorem d_SM_first_6 : decode c_SM_first 6 = .ok (.getfield 21, 3) := by decide +kernel
theorem d_SM_first_9 : decode c_SM_first 9 = .ok (.invokevirtual 120, 3) := by decide +kernel
theorem d_SM_first_12 : decode c_SM_first 12 = .ok (.sipush 400, 3) := by decide +kernel
theorem d_SM_first_15 : decode c_SM_first 15 = .ok (.istore_n 2, 1) := by decide +kernel
theorem d_SM_first_16 : decode c_SM_first 16 = .ok (.iconst 0, 1) := by decide +kernel
theorem d_SM_first_17 : decode c_SM_first 17 = .ok (.istore_n 3, 1) := by decide +kernel
theorem d_SM_first_18 : decode c_SM_first 18 = .ok (.iload_n 3, 1) := by decide +kernel
theorem d_SM_first_19 : decode c_SM_first 19 = .ok (.aload_n 0, 1) := by decide +kernel
theorem d_SM_first_20 : decode c_SM_first 20 = .ok (.getfield 29, 3) := by decide +kernel
theorem d_SM_first_23 : decode c_SM_first 23 = .ok (.if_icmp .ge 63, 3) := by decide +kernel
theorem d_SM_first_26 : decode c_SM_first 26 = .ok (.aload_n 0, 1) := by decide +kernel
theorem d_SM_first_27 : decode c_SM_first 27 = .ok (.getfield 10, 3) := by decide +kernel
theorem d_SM_first_30 : decode c_SM_first 30 = .ok (.aload_n 0, 1) := by decide +kernel
theorem d_SM_first_31 : decode c_SM_first 31 = .ok (.getfield 25, 3) := by decide +kernel
theorem d_SM_first_34 : decode c_SM_first 34 = .ok (.iload_n 3, 1) := by decide +kernel
theorem d_SM_first_35 : decode c_SM_first 35 = .ok (.iaload, 1) := by decide +kernel
theorem d_SM_first_36 : decode c_SM_first 36 = .ok (.iload_n 1, 1) := by decide +kernel
theorem d_SM_first_37 : decode c_SM_first 37 = .ok (.invokevirtual 117, 3) := by decide +kernel
theorem d_SM_first_40 : decode c_SM_first 40 = .ok (.ifCond .eq 40, 3) := by decide +kernel
theorem d_SM_first_43 : decode c_SM_first 43 = .ok (.aload_n 0, 1) := by decide +kernel
theorem d_SM_first_44 : decode c_SM_first 44 = .ok (.getfield 21, 3) := by decide +kernel
theorem d_SM_first_47 : decode c_SM_first 47 = .ok (.aload_n 0, 1) := by decide +kernel
theorem d_SM_first_48 : decode c_SM_first 48 = .ok (.getfield 25, 3) := by decide +kernel
theorem d_SM_first_51 : decode c_SM_first 51 = .ok (.iload_n 3, 1) := by decide +kernel
theorem d_SM_first_52 : decode c_SM_first 52 = .ok (.iaload, 1) := by decide +kernel
theorem d_SM_first_53 : decode c_SM_first 53 = .ok (.iload_n 1, 1) := by decide +kernel
theorem d_SM_first_54 : decode c_SM_first 54 = .ok (.iload_n 2, 1) := by decide +kernel
theorem d_SM_first_55 : decode c_SM_first 55 = .ok (.invokevirtual 78, 3) := by decide +kernel
theorem d_SM_first_58 : decode c_SM_first 58 = .ok (.iload_n 2, 1) := by decide +kernel
theorem d_SM_first_59 : decode c_SM_first 59 = .ok (.aload_n 0, 1) := by decide +kernel
theorem d_SM_first_60 : decode c_SM_first 60 = .ok (.getfield 21, 3) := by decide +kernel
theorem d_SM_first_63 : decode c_SM_first 63 = .ok (.invokevirtual 90, 3) := by decide +kernel
theorem d_SM_first_66 : decode c_SM_first 66 = .ok (.isub, 1) := by decide +kernel
theorem d_SM_first_67 : decode c_SM_first 67 = .ok (.istore_n 2, 1) := by decide +kernel
theorem d_SM_first_68 : decode c_SM_first 68 = .ok (.aload_n 0, 1) := by decide +kernel
theorem d_SM_first_69 : decode c_SM_first 69 = .ok (.getfield 21, 3) := by decide +kernel
theorem d_SM_first_72 : decode c_SM_first 72 = .ok (.invokevirtual 86, 3) := by decide +kernel
theorem d_SM_first_75 : decode c_SM_first 75 = .ok (.ifCond .le 5, 3) := by decide +kernel
theorem d_SM_first_78 : decode c_SM_first 78 = .ok (.iload_n 3, 1) := by decide +kernel
theorem d_SM_first_79 : decode c_SM_first 79 = .ok (.ireturn, 1) := by decide +kernel
theorem d_SM_first_80 : decode c_SM_first 80 = .ok (.iinc 3 1, 3) := by decide +kernel
theorem d_SM_first_83 : decode c_SM_first 83 = .ok (.goto (-65), 3) := by decide +kernel
theorem d_SM_first_86 : decode c_SM_first 86 = .ok (.iconst (-1), 1) := by decide +kernel
theorem d_SM_first_87 : decode c_SM_first 87 = .ok (.ireturn, 1) := by decide +kernel
theorem d_SM_order_0 : decode c_SM_order 0 = .ok (.aload_n 0, 1) := by decide +kernel
theorem d_SM_order_1 : decode c_SM_order 1 = .ok (.iload_n 1, 1) := by decide +kernel
theorem d_SM_order_2 : decode c_SM_order 2 = .ok (.invokevirtual 47, 3) := by decide +kernel
theorem d_SM_order_5 : decode c_SM_order 5 = .ok (.aload_n 0, 1) := by decide +kernel
theorem d_SM_order_6 : decode c_SM_order 6 = .ok (.iload_n 2, 1) := by decide +kernel
theorem d_SM_order_7 : decode c_SM_order 7 = .ok (.invokevirtual 47, 3) := by decide +kernel
theorem d_SM_order_10 : decode c_SM_order 10 = .ok (.aload_n 0, 1) := by decide +kernel
theorem d_SM_order_11 : decode c_SM_order 11 = .ok (.iload_n 1, 1) := by decide +kernel
theorem d_SM_order_12 : decode c_SM_order 12 = .ok (.invokevirtual 75, 3) := by decide +kernel
theorem d_SM_order_15 : decode c_SM_order 15 = .ok (.aload_n 0, 1) := by decide +kernel
theorem d_SM_order_16 : decode c_SM_order 16 = .ok (.iload_n 2, 1) := by decide +kernel
theorem d_SM_order_17 : decode c_SM_order 17 = .ok (.invokevirtual 75, 3) := by decide +kernel
theorem d_SM_order_20 : decode c_SM_order 20 = .ok (.aload_n 0, 1) := by decide +kernel
theorem d_SM_order_21 : decode c_SM_order 21 = .ok (.getfield 10, 3) := by decide +kernel
theorem d_SM_order_24 : decode c_SM_order 24 = .ok (.iload_n 1, 1) := by decide +kernel
theorem d_SM_order_25 : decode c_SM_order 25 = .ok (.iload_n 2, 1) := by decide +kernel
theorem d_SM_order_26 : decode c_SM_order 26 = .ok (.invokevirtual 123, 3) := by decide +kernel
theorem d_SM_order_29 : decode c_SM_order 29 = .ok (.ireturn, 1) := by decide +kernel
theorem d_SM_parts_0 : decode c_SM_parts 0 = .ok (.aload_n 0, 1) := by decide +kernel
theorem d_SM_parts_1 : decode c_SM_parts 1 = .ok (.iload_n 1, 1) := by decide +kernel
theorem d_SM_parts_2 : decode c_SM_parts 2 = .ok (.invokevirtual 47, 3) := by decide +kernel
theorem d_SM_parts_5 : decode c_SM_parts 5 = .ok (.aload_n 0, 1) := by decide +kernel
theorem d_SM_parts_6 : decode c_SM_parts 6 = .ok (.getfield 10, 3) := by decide +kernel
theorem d_SM_parts_9 : decode c_SM_parts 9 = .ok (.iload_n 1, 1) := by decide +kernel
theorem d_SM_parts_10 : decode c_SM_parts 10 = .ok (.invokevirtual 126, 3) := by decide +kernel
theorem d_SM_parts_13 : decode c_SM_parts 13 = .ok (.ireturn, 1) := by decide +kernel
theorem d_SM_part_0 : decode c_SM_part 0 = .ok (.aload_n 0, 1) := by decide +kernel
theorem d_SM_part_1 : decode c_SM_part 1 = .ok (.iload_n 1, 1) := by decide +kernel
theorem d_SM_part_2 : decode c_SM_part 2 = .ok (.invokevirtual 47, 3) := by decide +kernel
theorem d_SM_part_5 : decode c_SM_part 5 = .ok (.iload_n 2, 1) := by decide +kernel
theorem d_SM_part_6 : decode c_SM_part 6 = .ok (.ifCond .lt 27, 3) := by decide +kernel
theorem d_SM_part_9 : decode c_SM_part 9 = .ok (.iload_n 2, 1) := by decide +kernel
theorem d_SM_part_10 : decode c_SM_part 10 = .ok (.aload_n 0, 1) := by decide +kernel
theorem d_SM_part_11 : decode c_SM_part 11 = .ok (.getfield 10, 3) := by decide +kernel
theorem d_SM_part_14 : decode c_SM_part 14 = .ok (.iload_n 1, 1) := by decide +kernel
theorem d_SM_part_15 : decode c_SM_part 15 = .ok (.invokevirtual 126, 3) := by decide +kernel
theorem d_SM_part_18 : decode c_SM_part 18 = .ok (.if_icmp .ge 15, 3) := by decide +kernel
theorem d_SM_part_21 : decode c_SM_part 21 = .ok (.aload_n 0, 1) := by decide +kernel
theorem d_SM_part_22 : decode c_SM_part 22 = .ok (.getfield 10, 3) := by decide +kernel
theorem d_SM_part_25 : decode c_SM_part 25 = .ok (.iload_n 1, 1) := by decide +kernel
theorem d_SM_part_26 : decode c_SM_part 26 = .ok (.iload_n 2, 1) := by decide +kernel
theorem d_SM_part_27 : decode c_SM_part 27 = .ok (.invokevirtual 130, 3) := by decide +kernel
theorem d_SM_part_30 : decode c_SM_part 30 = .ok (.goto 4, 3) := by decide +kernel
theorem d_SM_part_33 : decode c_SM_part 33 = .ok (.iconst (-1), 1) := by decide +kernel
theorem d_SM_part_34 : decode c_SM_part 34 = .ok (.ireturn, 1) := by decide +kernel
theorem d_SM_count_0 : decode c_SM_count 0 = .ok (.iload_n 1, 1) := by decide +kernel
theorem d_SM_count_1 : decode c_SM_count 1 = .ok (.tableswitch 51 0 2 #[27, 35, 40], 27) := by decide +kernel
theorem d_SM_count_28 : decode c_SM_count 28 = .ok (.aload_n 0, 1) := by decide +kernel
theorem d_SM_count_29 : decode c_SM_count 29 = .ok (.getfield 10, 3) := by decide +kernel
theorem d_SM_count_32 : decode c_SM_count 32 = .ok (.invokevirtual 133, 3) := by decide +kernel
theorem d_SM_count_35 : decode c_SM_count 35 = .ok (.ireturn, 1) := by decide +kernel
theorem d_SM_count_36 : decode c_SM_count 36 = .ok (.aload_n 0, 1) := by decide +kernel
theorem d_SM_count_37 : decode c_SM_count 37 = .ok (.getfield 29, 3) := by decide +kernel
theorem d_SM_count_40 : decode c_SM_count 40 = .ok (.ireturn, 1) := by decide +kernel
theorem d_SM_count_41 : decode c_SM_count 41 = .ok (.aload_n 0, 1) := by decide +kernel
theorem d_SM_count_42 : decode c_SM_count 42 = .ok (.getfield 21, 3) := by decide +kernel
theorem d_SM_count_45 : decode c_SM_count 45 = .ok (.invokevirtual 96, 3) := by decide +kernel
theorem d_SM_count_48 : decode c_SM_count 48 = .ok (.invokevirtual 136, 3) := by decide +kernel
theorem d_SM_count_51 : decode c_SM_count 51 = .ok (.ireturn, 1) := by decide +kernel
theorem d_SM_count_52 : decode c_SM_count 52 = .ok (.iconst (-1), 1) := by decide +kernel
theorem d_SM_count_53 : decode c_SM_count 53 = .ok (.ireturn, 1) := by decide +kernel
theorem d_SM_newTree_0 : decode c_SM_newTree 0 = .ok (.aload_n 0, 1) := by decide +kernel
theorem d_SM_newTree_1 : decode c_SM_newTree 1 = .ok (.getfield 10, 3) := by decide +kernel
theorem d_SM_newTree_4 : decode c_SM_newTree 4 = .ok (.invokevirtual 139, 3) := by decide +kernel
theorem d_SM_newTree_7 : decode c_SM_newTree 7 = .ok (.ifCond .eq 13, 3) := by decide +kernel
theorem d_SM_newTree_10 : decode c_SM_newTree 10 = .ok (.new 109, 3) := by decide +kernel
theorem d_SM_newTree_13 : decode c_SM_newTree 13 = .ok (.dup, 1) := by decide +kernel
theorem d_SM_newTree_14 : decode c_SM_newTree 14 = .ok (.ldc 142, 2) := by decide +kernel
theorem d_SM_newTree_16 : decode c_SM_newTree 16 = .ok (.invokespecial 113, 3) := by decide +kernel
theorem d_SM_newTree_19 : decode c_SM_newTree 19 = .ok (.athrow, 1) := by decide +kernel
theorem d_SM_newTree_20 : decode c_SM_newTree 20 = .ok (.aload_n 0, 1) := by decide +kernel
theorem d_SM_newTree_21 : decode c_SM_newTree 21 = .ok (.getfield 10, 3) := by decide +kernel
theorem d_SM_newTree_24 : decode c_SM_newTree 24 = .ok (.iload_n 1, 1) := by decide +kernel
theorem d_SM_newTree_25 : decode c_SM_newTree 25 = .ok (.iload_n 2, 1) := by decide +kernel
theorem d_SM_newTree_26 : decode c_SM_newTree 26 = .ok (.iload_n 3, 1) := by decide +kernel
theorem d_SM_newTree_27 : decode c_SM_newTree 27 = .ok (.invokevirtual 144, 3) := by decide +kernel
theorem d_SM_newTree_30 : decode c_SM_newTree 30 = .ok (.ireturn, 1) := by decide +kernel
theorem d_SM_requireTree_0 : decode c_SM_requireTree 0 = .ok (.aload_n 0, 1) := by decide +kernel
theorem d_SM_requireTree_1 : decode c_SM_requireTree 1 = .ok (.getfield 10, 3) := by decide +kernel
theorem d_SM_requireTree_4 : decode c_SM_requireTree 4 = .ok (.iload_n 1, 1) := by decide +kernel
theorem d_SM_requireTree_5 : decode c_SM_requireTree 5 = .ok (.invokevirtual 147, 3) := by decide +kernel
theorem d_SM_requireTree_8 : decode c_SM_requireTree 8 = .ok (.ifCond .ne 13, 3) := by decide +kernel
theorem d_SM_requireTree_11 : decode c_SM_requireTree 11 = .ok (.new 150, 3) := by decide +kernel
theorem d_SM_requireTree_14 : decode c_SM_requireTree 14 = .ok (.dup, 1) := by decide +kernel
theorem d_SM_requireTree_15 : decode c_SM_requireTree 15 = .ok (.ldc 152, 2) := by decide +kernel
theorem d_SM_requireTree_17 : decode c_SM_requireTree 17 = .ok (.invokespecial 154, 3) := by decide +kernel
theorem d_SM_requireTree_20 : decode c_SM_requireTree 20 = .ok (.athrow, 1) := by decide +kernel
theorem d_SM_requireTree_21 : decode c_SM_requireTree 21 = .ok (.return_, 1) := by decide +kernel
theorem d_SM_requirePlain_0 : decode c_SM_requirePlain 0 = .ok (.aload_n 0, 1) := by decide +kernel
theorem d_SM_requirePlain_1 : decode c_SM_requirePlain 1 = .ok (.iload_n 1, 1) := by decide +kernel
theorem d_SM_requirePlain_2 : decode c_SM_requirePlain 2 = .ok (.invokevirtual 47, 3) := by decide +kernel
theorem d_SM_requirePlain_5 : decode c_SM_requirePlain 5 = .ok (.aload_n 0, 1) := by decide +kernel
theorem d_SM_requirePlain_6 : decode c_SM_requirePlain 6 = .ok (.getfield 10, 3) := by decide +kernel
theorem d_SM_requirePlain_9 : decode c_SM_requirePlain 9 = .ok (.iload_n 1, 1) := by decide +kernel
theorem d_SM_requirePlain_10 : decode c_SM_requirePlain 10 = .ok (.invokevirtual 155, 3) := by decide +kernel
theorem d_SM_requirePlain_13 : decode c_SM_requirePlain 13 = .ok (.ifCond .ne 13, 3) := by decide +kernel
theorem d_SM_requirePlain_16 : decode c_SM_requirePlain 16 = .ok (.new 55, 3) := by decide +kernel
theorem d_SM_requirePlain_19 : decode c_SM_requirePlain 19 = .ok (.dup, 1) := by decide +kernel
theorem d_SM_requirePlain_20 : decode c_SM_requirePlain 20 = .ok (.ldc 158, 2) := by decide +kernel
theorem d_SM_requirePlain_22 : decode c_SM_requirePlain 22 = .ok (.invokespecial 59, 3) := by decide +kernel
theorem d_SM_requirePlain_25 : decode c_SM_requirePlain 25 = .ok (.athrow, 1) := by decide +kernel
theorem d_SM_requirePlain_26 : decode c_SM_requirePlain 26 = .ok (.return_, 1) := by decide +kernel
theorem d_SM_requireMatch_0 : decode c_SM_requireMatch 0 = .ok (.iload_n 1, 1) := by decide +kernel
theorem d_SM_requireMatch_1 : decode c_SM_requireMatch 1 = .ok (.ifCond .lt 17, 3) := by decide +kernel
theorem d_SM_requireMatch_4 : decode c_SM_requireMatch 4 = .ok (.iload_n 1, 1) := by decide +kernel
theorem d_SM_requireMatch_5 : decode c_SM_requireMatch 5 = .ok (.aload_n 0, 1) := by decide +kernel
theorem d_SM_requireMatch_6 : decode c_SM_requireMatch 6 = .ok (.getfield 21, 3) := by decide +kernel
theorem d_SM_requireMatch_9 : decode c_SM_requireMatch 9 = .ok (.invokevirtual 96, 3) := by decide +kernel
theorem d_SM_requireMatch_12 : decode c_SM_requireMatch 12 = .ok (.invokevirtual 136, 3) := by decide +kernel
theorem d_SM_requireMatch_15 : decode c_SM_requireMatch 15 = .ok (.if_icmp .lt 13, 3) := by decide +kernel
theorem d_SM_requireMatch_18 : decode c_SM_requireMatch 18 = .ok (.new 150, 3) := by decide +kernel
theorem d_SM_requireMatch_21 : decode c_SM_requireMatch 21 = .ok (.dup, 1) := by decide +kernel
theorem d_SM_requireMatch_22 : decode c_SM_requireMatch 22 = .ok (.ldc 160, 2) := by decide +kernel
theorem d_SM_requireMatch_24 : decode c_SM_requireMatch 24 = .ok (.invokespecial 154, 3) := by decide +kernel
theorem d_SM_requireMatch_27 : decode c_SM_requireMatch 27 = .ok (.athrow, 1) := by decide +kernel
theorem d_SM_requireMatch_28 : decode c_SM_requireMatch 28 = .ok (.return_, 1) := by decide +kernel
theorem d_SM_requireBelow_0 : decode c_SM_requireBelow 0 = .ok (.iload_n 0, 1) := by decide +kernel
theorem d_SM_requireBelow_1 : decode c_SM_requireBelow 1 = .ok (.ifCond .lt 8, 3) := by decide +kernel
theorem d_SM_requireBelow_4 : decode c_SM_requireBelow 4 = .ok (.iload_n 0, 1) := by decide +kernel
theorem d_SM_requireBelow_5 : decode c_SM_requireBelow 5 = .ok (.iload_n 1, 1) := by decide +kernel
theorem d_SM_requireBelow_6 : decode c_SM_requireBelow 6 = .ok (.if_icmp .lt 13, 3) := by decide +kernel
theorem d_SM_requireBelow_9 : decode c_SM_requireBelow 9 = .ok (.new 55, 3) := by decide +kernel
theorem d_SM_requireBelow_12 : decode c_SM_requireBelow 12 = .ok (.dup, 1) := by decide +kernel
theorem d_SM_requireBelow_13 : decode c_SM_requireBelow 13 = .ok (.ldc 162, 2) := by decide +kernel
theorem d_SM_requireBelow_15 : decode c_SM_requireBelow 15 = .ok (.invokespecial 59, 3) := by decide +kernel
theorem d_SM_requireBelow_18 : decode c_SM_requireBelow 18 = .ok (.athrow, 1) := by decide +kernel
theorem d_SM_requireBelow_19 : decode c_SM_requireBelow 19 = .ok (.return_, 1) := by decide +kernel
theorem d_Se_init_0 : decode c_Se_init 0 = .ok (.aload_n 0, 1) := by decide +kernel
theorem d_Se_init_1 : decode c_Se_init 1 = .ok (.invokespecial 3, 3) := by decide +kernel
theorem d_Se_init_4 : decode c_Se_init 4 = .ok (.aload_n 0, 1) := by decide +kernel
theorem d_Se_init_5 : decode c_Se_init 5 = .ok (.aload_n 1, 1) := by decide +kernel
theorem d_Se_init_6 : decode c_Se_init 6 = .ok (.putfield 9, 3) := by decide +kernel
theorem d_Se_init_9 : decode c_Se_init 9 = .ok (.aload_n 0, 1) := by decide +kernel
theorem d_Se_init_10 : decode c_Se_init 10 = .ok (.new 15, 3) := by decide +kernel
theorem d_Se_init_13 : decode c_Se_init 13 = .ok (.dup, 1) := by decide +kernel
theorem d_Se_init_14 : decode c_Se_init 14 = .ok (.invokespecial 17, 3) := by decide +kernel
theorem d_Se_init_17 : decode c_Se_init 17 = .ok (.putfield 18, 3) := by decide +kernel
theorem d_Se_init_20 : decode c_Se_init 20 = .ok (.aload_n 0, 1) := by decide +kernel
theorem d_Se_init_21 : decode c_Se_init 21 = .ok (.new 22, 3) := by decide +kernel
theorem d_Se_init_24 : decode c_Se_init 24 = .ok (.dup, 1) := by decide +kernel
theorem d_Se_init_25 : decode c_Se_init 25 = .ok (.invokespecial 24, 3) := by decide +kernel
theorem d_Se_init_28 : decode c_Se_init 28 = .ok (.putfield 25, 3) := by decide +kernel
theorem d_Se_init_31 : decode c_Se_init 31 = .ok (.aload_n 0, 1) := by decide +kernel
theorem d_Se_init_32 : decode c_Se_init 32 = .ok (.new 29, 3) := by decide +kernel
theorem d_Se_init_35 : decode c_Se_init 35 = .ok (.dup, 1) := by decide +kernel
theorem d_Se_init_36 : decode c_Se_init 36 = .ok (.invokespecial 31, 3) := by decide +kernel
theorem d_Se_init_39 : decode c_Se_init 39 = .ok (.putfield 32, 3) := by decide +kernel
theorem d_Se_init_42 : decode c_Se_init 42 = .ok (.aload_n 0, 1) := by decide +kernel
theorem d_Se_init_43 : decode c_Se_init 43 = .ok (.bipush 70, 2) := by decide +kernel
theorem d_Se_init_45 : decode c_Se_init 45 = .ok (.newarray .int, 2) := by decide +kernel
theorem d_Se_init_47 : decode c_Se_init 47 = .ok (.putfield 36, 3) := by decide +kernel
theorem d_Se_init_50 : decode c_Se_init 50 = .ok (.aload_n 0, 1) := by decide +kernel
theorem d_Se_init_51 : decode c_Se_init 51 = .ok (.bipush 70, 2) := by decide +kernel
theorem d_Se_init_53 : decode c_Se_init 53 = .ok (.newarray .int, 2) := by decide +kernel
theorem d_Se_init_55 : decode c_Se_init 55 = .ok (.putfield 40, 3) := by decide +kernel
theorem d_Se_init_58 : decode c_Se_init 58 = .ok (.aload_n 0, 1) := by decide +kernel
theorem d_Se_init_59 : decode c_Se_init 59 = .ok (.bipush 70, 2) := by decide +kernel
theorem d_Se_init_61 : decode c_Se_init 61 = .ok (.newarray .int, 2) := by decide +kernel
theorem d_Se_init_63 : decode c_Se_init 63 = .ok (.putfield 43, 3) := by decide +kernel
theorem d_Se_init_66 : decode c_Se_init 66 = .ok (.aload_n 0, 1) := by decide +kernel
theorem d_Se_init_67 : decode c_Se_init 67 = .ok (.bipush 12, 2) := by decide +kernel
theorem d_Se_init_69 : decode c_Se_init 69 = .ok (.newarray .int, 2) := by decide +kernel
theorem d_Se_init_71 : decode c_Se_init 71 = .ok (.putfield 46, 3) := by decide +kernel
theorem d_Se_init_74 : decode c_Se_init 74 = .ok (.aload_n 0, 1) := by decide +kernel
theorem d_Se_init_75 : decode c_Se_init 75 = .ok (.iconst 0, 1) := by decide +kernel
theorem d_Se_init_76 : decode c_Se_init 76 = .ok (.putfield 49, 3) := by decide +kernel
theorem d_Se_init_79 : decode c_Se_init 79 = .ok (.aload_n 0, 1) := by decide +kernel
theorem d_Se_init_80 : decode c_Se_init 80 = .ok (.iconst 0, 1) := by decide +kernel
theorem d_Se_init_81 : decode c_Se_init 81 = .ok (.putfield 53, 3) := by decide +kernel
theorem d_Se_init_84 : decode c_Se_init 84 = .ok (.aload_n 0, 1) := by decide +kernel
theorem d_Se_init_85 : decode c_Se_init 85 = .ok (.iconst 0, 1) := by decide +kernel
theorem d_Se_init_86 : decode c_Se_init 86 = .ok (.putfield 56, 3) := by decide +kernel
theorem d_Se_init_89 : decode c_Se_init 89 = .ok (.aload_n 0, 1) := by decide +kernel
theorem d_Se_init_90 : decode c_Se_init 90 = .ok (.iconst 0, 1) := by decide +kernel
theorem d_Se_init_91 : decode c_Se_init 91 = .ok (.putfield 59, 3) := by decide +kernel
theorem d_Se_init_94 : decode c_Se_init 94 = .ok (.aload_n 0, 1) := by decide +kernel
theorem d_Se_init_95 : decode c_Se_init 95 = .ok (.iconst 0, 1) := by decide +kernel
theorem d_Se_init_96 : decode c_Se_init 96 = .ok (.putfield 62, 3) := by decide +kernel
theorem d_Se_init_99 : decode c_Se_init 99 = .ok (.return_, 1) := by decide +kernel
theorem d_Se_matches_0 : decode c_Se_matches 0 = .ok (.aload_n 0, 1) := by decide +kernel
theorem d_Se_matches_1 : decode c_Se_matches 1 = .ok (.getfield 32, 3) := by decide +kernel
theorem d_Se_matches_4 : decode c_Se_matches 4 = .ok (.areturn, 1) := by decide +kernel
theorem d_Se_triesMade_0 : decode c_Se_triesMade 0 = .ok (.aload_n 0, 1) := by decide +kernel
theorem d_Se_triesMade_1 : decode c_Se_triesMade 1 = .ok (.getfield 56, 3) := by decide +kernel
theorem d_Se_triesMade_4 : decode c_Se_triesMade 4 = .ok (.ireturn, 1) := by decide +kernel
theorem d_Se_found_0 : decode c_Se_found 0 = .ok (.aload_n 0, 1) := by decide +kernel
theorem d_Se_found_1 : decode c_Se_found 1 = .ok (.getfield 59, 3) := by decide +kernel
theorem d_Se_found_4 : decode c_Se_found 4 = .ok (.ireturn, 1) := by decide +kernel
theorem d_Se_isSpent_0 : decode c_Se_isSpent 0 = .ok (.aload_n 0, 1) := by decide +kernel
theorem d_Se_isSpent_1 : decode c_Se_isSpent 1 = .ok (.getfield 62, 3) := by decide +kernel
theorem d_Se_isSpent_4 : decode c_Se_isSpent 4 = .ok (.ireturn, 1) := by decide +kernel
theorem d_Se_clear_0 : decode c_Se_clear 0 = .ok (.aload_n 0, 1) := by decide +kernel
theorem d_Se_clear_1 : decode c_Se_clear 1 = .ok (.getfield 32, 3) := by decide +kernel
theorem d_Se_clear_4 : decode c_Se_clear 4 = .ok (.invokevirtual 66, 3) := by decide +kernel
theorem d_Se_clear_7 : decode c_Se_clear 7 = .ok (.aload_n 0, 1) := by decide +kernel
theorem d_Se_clear_8 : decode c_Se_clear 8 = .ok (.getfield 25, 3) := by decide +kernel
theorem d_Se_clear_11 : decode c_Se_clear 11 = .ok (.invokevirtual 69, 3) := by decide +kernel
theorem d_Se_clear_14 : decode c_Se_clear 14 = .ok (.aload_n 0, 1) := by decide +kernel
theorem d_Se_clear_15 : decode c_Se_clear 15 = .ok (.iconst 0, 1) := by decide +kernel
theorem d_Se_clear_16 : decode c_Se_clear 16 = .ok (.putfield 56, 3) := by decide +kernel
theorem d_Se_clear_19 : decode c_Se_clear 19 = .ok (.aload_n 0, 1) := by decide +kernel
theorem d_Se_clear_20 : decode c_Se_clear 20 = .ok (.iconst 0, 1) := by decide +kernel
theorem d_Se_clear_21 : decode c_Se_clear 21 = .ok (.putfield 59, 3) := by decide +kernel
theorem d_Se_clear_24 : decode c_Se_clear 24 = .ok (.aload_n 0, 1) := by decide +kernel
theorem d_Se_clear_25 : decode c_Se_clear 25 = .ok (.iconst 0, 1) := by decide +kernel
theorem d_Se_clear_26 : decode c_Se_clear 26 = .ok (.putfield 62, 3) := by decide +kernel
theorem d_Se_clear_29 : decode c_Se_clear 29 = .ok (.return_, 1) := by decide +kernel
theorem d_Se_run_0 : decode c_Se_run 0 = .ok (.aload_n 0, 1) := by decide +kernel
theorem d_Se_run_1 : decode c_Se_run 1 = .ok (.invokevirtual 70, 3) := by decide +kernel
theorem d_Se_run_4 : decode c_Se_run 4 = .ok (.aload_n 0, 1) := by decide +kernel
theorem d_Se_run_5 : decode c_Se_run 5 = .ok (.getfield 18, 3) := by decide +kernel
theorem d_Se_run_8 : decode c_Se_run 8 = .ok (.aload_n 0, 1) := by decide +kernel
theorem d_Se_run_9 : decode c_Se_run 9 = .ok (.getfield 9, 3) := by decide +kernel
theorem d_Se_run_12 : decode c_Se_run 12 = .ok (.iload_n 1, 1) := by decide +kernel
theorem d_Se_run_13 : decode c_Se_run 13 = .ok (.invokevirtual 71, 3) := by decide +kernel
theorem d_Se_run_16 : decode c_Se_run 16 = .ok (.aload_n 0, 1) := by decide +kernel
theorem d_Se_run_17 : decode c_Se_run 17 = .ok (.iload_n 2, 1) := by decide +kernel
theorem d_Se_run_18 : decode c_Se_run 18 = .ok (.putfield 53, 3) := by decide +kernel
theorem d_Se_run_21 : decode c_Se_run 21 = .ok (.iconst 0, 1) := by decide +kernel
theorem d_Se_run_22 : decode c_Se_run 22 = .ok (.istore 4, 2) := by decide +kernel
theorem d_Se_run_24 : decode c_Se_run 24 = .ok (.aload_n 0, 1) := by decide +kernel
theorem d_Se_run_25 : decode c_Se_run 25 = .ok (.getfield 36, 3) := by decide +kernel
theorem d_Se_run_28 : decode c_Se_run 28 = .ok (.iconst 0, 1) := by decide +kernel
theorem d_Se_run_29 : decode c_Se_run 29 = .ok (.iconst (-1), 1) := by decide +kernel
theorem d_Se_run_30 : decode c_Se_run 30 = .ok (.iastore, 1) := by decide +kernel
theorem d_Se_run_31 : decode c_Se_run 31 = .ok (.iconst 0, 1) := by decide +kernel
theorem d_Se_run_32 : decode c_Se_run 32 = .ok (.istore 5, 2) := by decide +kernel
theorem d_Se_run_34 : decode c_Se_run 34 = .ok (.iload 5, 2) := by decide +kernel
theorem d_Se_run_36 : decode c_Se_run 36 = .ok (.sipush 802, 3) := by decide +kernel
theorem d_Se_run_39 : decode c_Se_run 39 = .ok (.if_icmp .ge 57, 3) := by decide +kernel
theorem d_Se_run_42 : decode c_Se_run 42 = .ok (.iload 4, 2) := by decide +kernel
theorem d_Se_run_44 : decode c_Se_run 44 = .ok (.ifCond .lt 52, 3) := by decide +kernel
theorem d_Se_run_47 : decode c_Se_run 47 = .ok (.aload_n 0, 1) := by decide +kernel
theorem d_Se_run_48 : decode c_Se_run 48 = .ok (.iload 4, 2) := by decide +kernel
theorem d_Se_run_50 : decode c_Se_run 50 = .ok (.invokevirtual 75, 3) := by decide +kernel
theorem d_Se_run_53 : decode c_Se_run 53 = .ok (.aload_n 0, 1) := by decide +kernel
theorem d_Se_run_54 : decode c_Se_run 54 = .ok (.iload 4, 2) := by decide +kernel
theorem d_Se_run_56 : decode c_Se_run 56 = .ok (.invokevirtual 79, 3) := by decide +kernel
theorem d_Se_run_59 : decode c_Se_run 59 = .ok (.ifCond .ne 9, 3) := by decide +kernel
theorem d_Se_run_62 : decode c_Se_run 62 = .ok (.iinc 4 (-1), 3) := by decide +kernel
theorem d_Se_run_65 : decode c_Se_run 65 = .ok (.goto 25, 3) := by decide +kernel
theorem d_Se_run_68 : decode c_Se_run 68 = .ok (.aload_n 0, 1) := by decide +kernel
theorem d_Se_run_69 : decode c_Se_run 69 = .ok (.getfield 56, 3) := by decide +kernel
theorem d_Se_run_72 : decode c_Se_run 72 = .ok (.iload_n 3, 1) := by decide +kernel
theorem d_Se_run_73 : decode c_Se_run 73 = .ok (.if_icmp .lt 9, 3) := by decide +kernel
theorem d_Se_run_76 : decode c_Se_run 76 = .ok (.aload_n 0, 1) := by decide +kernel
theorem d_Se_run_77 : decode c_Se_run 77 = .ok (.iconst 1, 1) := by decide +kernel
theorem d_Se_run_78 : decode c_Se_run 78 = .ok (.putfield 62, 3) := by decide +kernel
theorem d_Se_run_81 : decode c_Se_run 81 = .ok (.return_, 1) := by decide +kernel
theorem d_Se_run_82 : decode c_Se_run 82 = .ok (.aload_n 0, 1) := by decide +kernel
theorem d_Se_run_83 : decode c_Se_run 83 = .ok (.iload 4, 2) := by decide +kernel
theorem d_Se_run_85 : decode c_Se_run 85 = .ok (.invokevirtual 83, 3) := by decide +kernel
theorem d_Se_run_88 : decode c_Se_run 88 = .ok (.istore 4, 2) := by decide +kernel
theorem d_Se_run_90 : decode c_Se_run 90 = .ok (.iinc 5 1, 3) := by decide +kernel
theorem d_Se_run_93 : decode c_Se_run 93 = .ok (.goto (-59), 3) := by decide +kernel
theorem d_Se_run_96 : decode c_Se_run 96 = .ok (.return_, 1) := by decide +kernel
theorem d_Se_makeTry_0 : decode c_Se_makeTry 0 = .ok (.aload_n 0, 1) := by decide +kernel
theorem d_Se_makeTry_1 : decode c_Se_makeTry 1 = .ok (.dup, 1) := by decide +kernel
theorem d_Se_makeTry_2 : decode c_Se_makeTry 2 = .ok (.getfield 56, 3) := by decide +kernel
theorem d_Se_makeTry_5 : decode c_Se_makeTry 5 = .ok (.iconst 1, 1) := by decide +kernel
theorem d_Se_makeTry_6 : decode c_Se_makeTry 6 = .ok (.iadd, 1) := by decide +kernel
theorem d_Se_makeTry_7 : decode c_Se_makeTry 7 = .ok (.putfield 56, 3) := by decide +kernel
theorem d_Se_makeTry_10 : decode c_Se_makeTry 10 = .ok (.aload_n 0, 1) := by decide +kernel
theorem d_Se_makeTry_11 : decode c_Se_makeTry 11 = .ok (.iload_n 1, 1) := by decide +kernel
theorem d_Se_makeTry_12 : decode c_Se_makeTry 12 = .ok (.invokevirtual 87, 3) := by decide +kernel
theorem d_Se_makeTry_15 : decode c_Se_makeTry 15 = .ok (.aload_n 0, 1) := by decide +kernel
theorem d_Se_makeTry_16 : decode c_Se_makeTry 16 = .ok (.getfield 18, 3) := by decide +kernel
theorem d_Se_makeTry_19 : decode c_Se_makeTry 19 = .ok (.iload_n 1, 1) := by decide +kernel
theorem d_Se_makeTry_20 : decode c_Se_makeTry 20 = .ok (.invokevirtual 90, 3) := by decide +kernel
theorem d_Se_makeTry_23 : decode c_Se_makeTry 23 = .ok (.istore_n 2, 1) := by decide +kernel
theorem d_Se_makeTry_24 : decode c_Se_makeTry 24 = .ok (.aload_n 0, 1) := by decide +kernel
theorem d_Se_makeTry_25 : decode c_Se_makeTry 25 = .ok (.getfield 9, 3) := by decide +kernel
theorem d_Se_makeTry_28 : decode c_Se_makeTry 28 = .ok (.iload_n 2, 1) := by decide +kernel
theorem d_Se_makeTry_29 : decode c_Se_makeTry 29 = .ok (.invokevirtual 93, 3) := by decide +kernel
theorem d_Se_makeTry_32 : decode c_Se_makeTry 32 = .ok (.ifCond .eq 12, 3) := by decide +kernel
theorem d_Se_makeTry_35 : decode c_Se_makeTry 35 = .ok (.aload_n 0, 1) := by decide +kernel
theorem d_Se_makeTry_36 : decode c_Se_makeTry 36 = .ok (.iload_n 1, 1) := by decide +kernel
theorem d_Se_makeTry_37 : decode c_Se_makeTry 37 = .ok (.iload_n 2, 1) := by decide +kernel
theorem d_Se_makeTry_38 : decode c_Se_makeTry 38 = .ok (.invokevirtual 98, 3) := by decide +kernel
theorem d_Se_makeTry_41 : decode c_Se_makeTry 41 = .ok (.goto 9, 3) := by decide +kernel
theorem d_Se_makeTry_44 : decode c_Se_makeTry 44 = .ok (.aload_n 0, 1) := by decide +kernel
theorem d_Se_makeTry_45 : decode c_Se_makeTry 45 = .ok (.iload_n 1, 1) := by decide +kernel
theorem d_Se_makeTry_46 : decode c_Se_makeTry 46 = .ok (.iload_n 2, 1) := by decide +kernel
theorem d_Se_makeTry_47 : decode c_Se_makeTry 47 = .ok (.invokevirtual 102, 3) := by decide +kernel
theorem d_Se_makeTry_50 : decode c_Se_makeTry 50 = .ok (.istore_n 3, 1) := by decide +kernel
theorem d_Se_makeTry_51 : decode c_Se_makeTry 51 = .ok (.iload_n 3, 1) := by decide +kernel
theorem d_Se_makeTry_52 : decode c_Se_makeTry 52 = .ok (.ifCond .eq 11, 3) := by decide +kernel
theorem d_Se_makeTry_55 : decode c_Se_makeTry 55 = .ok (.aload_n 0, 1) := by decide +kernel
theorem d_Se_makeTry_56 : decode c_Se_makeTry 56 = .ok (.iload_n 1, 1) := by decide +kernel
theorem d_Se_makeTry_57 : decode c_Se_makeTry 57 = .ok (.invokevirtual 105, 3) := by decide +kernel
theorem d_Se_makeTry_60 : decode c_Se_makeTry 60 = .ok (.ifCond .ne 5, 3) := by decide +kernel
theorem d_Se_makeTry_63 : decode c_Se_makeTry 63 = .ok (.iload_n 1, 1) := by decide +kernel
theorem d_Se_makeTry_64 : decode c_Se_makeTry 64 = .ok (.ireturn, 1) := by decide +kernel
theorem d_Se_makeTry_65 : decode c_Se_makeTry 65 = .ok (.iload_n 1, 1) := by decide +kernel
theorem d_Se_makeTry_66 : decode c_Se_makeTry 66 = .ok (.iconst 1, 1) := by decide +kernel
theorem d_Se_makeTry_67 : decode c_Se_makeTry 67 = .ok (.iadd, 1) := by decide +kernel
theorem d_Se_makeTry_68 : decode c_Se_makeTry 68 = .ok (.aload_n 0, 1) := by decide +kernel
theorem d_Se_makeTry_69 : decode c_Se_makeTry 69 = .ok (.getfield 18, 3) := by decide +kernel
theorem d_Se_makeTry_72 : decode c_Se_makeTry 72 = .ok (.invokevirtual 108, 3) := by decide +kernel
theorem d_Se_makeTry_75 : decode c_Se_makeTry 75 = .ok (.if_icmp .lt 26, 3) := by decide +kernel
theorem d_Se_makeTry_78 : decode c_Se_makeTry 78 = .ok (.aload_n 0, 1) := by decide +kernel
theorem d_Se_makeTry_79 : decode c_Se_makeTry 79 = .ok (.dup, 1) := by decide +kernel
theorem d_Se_makeTry_80 : decode c_Se_makeTry 80 = .ok (.getfield 59, 3) := by decide +kernel
theorem d_Se_makeTry_83 : decode c_Se_makeTry 83 = .ok (.iconst 1, 1) := by decide +kernel
theorem d_Se_makeTry_84 : decode c_Se_makeTry 84 = .ok (.iadd, 1) := by decide +kernel
theorem d_Se_makeTry_85 : decode c_Se_makeTry 85 = .ok (.putfield 59, 3) := by decide +kernel
theorem d_Se_makeTry_88 : decode c_Se_makeTry 88 = .ok (.aload_n 0, 1) := by decide +kernel
theorem d_Se_makeTry_89 : decode c_Se_makeTry 89 = .ok (.getfield 32, 3) := by decide +kernel
theorem d_Se_makeTry_92 : decode c_Se_makeTry 92 = .ok (.aload_n 0, 1) := by decide +kernel
theorem d_Se_makeTry_93 : decode c_Se_makeTry 93 = .ok (.getfield 25, 3) := by decide +kernel
theorem d_Se_makeTry_96 : decode c_Se_makeTry 96 = .ok (.invokevirtual 112, 3) := by decide +kernel
theorem d_Se_makeTry_99 : decode c_Se_makeTry 99 = .ok (.iload_n 1, 1) := by decide +kernel
theorem d_Se_makeTry_100 : decode c_Se_makeTry 100 = .ok (.ireturn, 1) := by decide +kernel
theorem d_Se_makeTry_101 : decode c_Se_makeTry 101 = .ok (.aload_n 0, 1) := by decide +kernel
theorem d_Se_makeTry_102 : decode c_Se_makeTry 102 = .ok (.getfield 36, 3) := by decide +kernel
theorem d_Se_makeTry_105 : decode c_Se_makeTry 105 = .ok (.iload_n 1, 1) := by decide +kernel
theorem d_Se_makeTry_106 : decode c_Se_makeTry 106 = .ok (.iconst 1, 1) := by decide +kernel
theorem d_Se_makeTry_107 : decode c_Se_makeTry 107 = .ok (.iadd, 1) := by decide +kernel
theorem d_Se_makeTry_108 : decode c_Se_makeTry 108 = .ok (.iconst (-1), 1) := by decide +kernel
theorem d_Se_makeTry_109 : decode c_Se_makeTry 109 = .ok (.iastore, 1) := by decide +kernel
theorem d_Se_makeTry_110 : decode c_Se_makeTry 110 = .ok (.iload_n 1, 1) := by decide +kernel
theorem d_Se_makeTry_111 : decode c_Se_makeTry 111 = .ok (.iconst 1, 1) := by decide +kernel
theorem d_Se_makeTry_112 : decode c_Se_makeTry 112 = .ok (.iadd, 1) := by decide +kernel
theorem d_Se_makeTry_113 : decode c_Se_makeTry 113 = .ok (.ireturn, 1) := by decide +kernel
theorem d_Se_release_0 : decode c_Se_release 0 = .ok (.iload_n 1, 1) := by decide +kernel
theorem d_Se_release_1 : decode c_Se_release 1 = .ok (.ifCond .le 35, 3) := by decide +kernel
theorem d_Se_release_4 : decode c_Se_release 4 = .ok (.aload_n 0, 1) := by decide +kernel
theorem d_Se_release_5 : decode c_Se_release 5 = .ok (.getfield 36, 3) := by decide +kernel
theorem d_Se_release_8 : decode c_Se_release 8 = .ok (.iload_n 1, 1) := by decide +kernel
theorem d_Se_release_9 : decode c_Se_release 9 = .ok (.iaload, 1) := by decide +kernel
theorem d_Se_release_10 : decode c_Se_release 10 = .ok (.iconst (-1), 1) := by decide +kernel
theorem d_Se_release_11 : decode c_Se_release 11 = .ok (.if_icmp .eq 25, 3) := by decide +kernel
theorem d_Se_release_14 : decode c_Se_release 14 = .ok (.aload_n 0, 1) := by decide +kernel
theorem d_Se_release_15 : decode c_Se_release 15 = .ok (.getfield 43, 3) := by decide +kernel
theorem d_Se_release_18 : decode c_Se_release 18 = .ok (.aload_n 0, 1) := by decide +kernel
theorem d_Se_release_19 : decode c_Se_release 19 = .ok (.getfield 18, 3) := by decide +kernel
theorem d_Se_release_22 : decode c_Se_release 22 = .ok (.iload_n 1, 1) := by decide +kernel
theorem d_Se_release_23 : decode c_Se_release 23 = .ok (.invokevirtual 116, 3) := by decide +kernel
theorem d_Se_release_26 : decode c_Se_release 26 = .ok (.dup2, 1) := by decide +kernel
theorem d_Se_release_27 : decode c_Se_release 27 = .ok (.iaload, 1) := by decide +kernel
theorem d_Se_release_28 : decode c_Se_release 28 = .ok (.aload_n 0, 1) := by decide +kernel
theorem d_Se_release_29 : decode c_Se_release 29 = .ok (.getfield 36, 3) := by decide +kernel
theorem d_Se_release_32 : decode c_Se_release 32 = .ok (.iload_n 1, 1) := by decide +kernel
theorem d_Se_release_33 : decode c_Se_release 33 = .ok (.iaload, 1) := by decide +kernel
theorem d_Se_release_34 : decode c_Se_release 34 = .ok (.ior, 1) := by decide +kernel
theorem d_Se_release_35 : decode c_Se_release 35 = .ok (.iastore, 1) := by decide +kernel
theorem d_Se_release_36 : decode c_Se_release 36 = .ok (.aload_n 0, 1) := by decide +kernel
theorem d_Se_release_37 : decode c_Se_release 37 = .ok (.getfield 18, 3) := by decide +kernel
theorem d_Se_release_40 : decode c_Se_release 40 = .ok (.iload_n 1, 1) := by decide +kernel
theorem d_Se_release_41 : decode c_Se_release 41 = .ok (.invokevirtual 90, 3) := by decide +kernel
theorem d_Se_release_44 : decode c_Se_release 44 = .ok (.istore_n 2, 1) := by decide +kernel
theorem d_Se_release_45 : decode c_Se_release 45 = .ok (.aload_n 0, 1) := by decide +kernel
theorem d_Se_release_46 : decode c_Se_release 46 = .ok (.getfield 9, 3) := by decide +kernel
theorem d_Se_release_49 : decode c_Se_release 49 = .ok (.iload_n 2, 1) := by decide +kernel
theorem d_Se_release_50 : decode c_Se_release 50 = .ok (.invokevirtual 93, 3) := by decide +kernel
theorem d_Se_release_53 : decode c_Se_release 53 = .ok (.ifCond .eq 19, 3) := by decide +kernel
theorem d_Se_release_56 : decode c_Se_release 56 = .ok (.aload_n 0, 1) := by decide +kernel
theorem d_Se_release_57 : decode c_Se_release 57 = .ok (.getfield 25, 3) := by decide +kernel
theorem d_Se_release_60 : decode c_Se_release 60 = .ok (.aload_n 0, 1) := by decide +kernel
theorem d_Se_release_61 : decode c_Se_release 61 = .ok (.getfield 9, 3) := by decide +kernel
theorem d_Se_release_64 : decode c_Se_release 64 = .ok (.iload_n 2, 1) := by decide +kernel
theorem d_Se_release_65 : decode c_Se_release 65 = .ok (.invokevirtual 119, 3) := by decide +kernel
theorem d_Se_release_68 : decode c_Se_release 68 = .ok (.iload_n 1, 1) := by decide +kernel
theorem d_Se_release_69 : decode c_Se_release 69 = .ok (.invokevirtual 122, 3) := by decide +kernel
theorem d_Se_release_72 : decode c_Se_release 72 = .ok (.return_, 1) := by decide +kernel
theorem d_Se_choose_0 : decode c_Se_choose 0 = .ok (.iload_n 1, 1) := by decide +kernel
theorem d_Se_choose_1 : decode c_Se_choose 1 = .ok (.ifCond .ne 36, 3) := by decide +kernel
theorem d_Se_choose_4 : decode c_Se_choose 4 = .ok (.aload_n 0, 1) := by decide +kernel
theorem d_Se_choose_5 : decode c_Se_choose 5 = .ok (.getfield 36, 3) := by decide +kernel
theorem d_Se_choose_8 : decode c_Se_choose 8 = .ok (.iconst 0, 1) := by decide +kernel
theorem d_Se_choose_9 : decode c_Se_choose 9 = .ok (.iaload, 1) := by decide +kernel
theorem d_Se_choose_10 : decode c_Se_choose 10 = .ok (.iconst (-1), 1) := by decide +kernel
theorem d_Se_choose_11 : decode c_Se_choose 11 = .ok (.if_icmp .ne 7, 3) := by decide +kernel
theorem d_Se_choose_14 : decode c_Se_choose 14 = .ok (.iconst 1, 1) := by decide +kernel
theorem d_Se_choose_15 : decode c_Se_choose 15 = .ok (.goto 4, 3) := by decide +kernel
theorem d_Se_choose_18 : decode c_Se_choose 18 = .ok (.iconst 0, 1) := by decide +kernel
theorem d_Se_choose_19 : decode c_Se_choose 19 = .ok (.istore_n 2, 1) := by decide +kernel
theorem d_Se_choose_20 : decode c_Se_choose 20 = .ok (.aload_n 0, 1) := by decide +kernel
theorem d_Se_choose_21 : decode c_Se_choose 21 = .ok (.getfield 36, 3) := by decide +kernel
theorem d_Se_choose_24 : decode c_Se_choose 24 = .ok (.iconst 0, 1) := by decide +kernel
theorem d_Se_choose_25 : decode c_Se_choose 25 = .ok (.iload_n 2, 1) := by decide +kernel
theorem d_Se_choose_26 : decode c_Se_choose 26 = .ok (.ifCond .eq 7, 3) := by decide +kernel
theorem d_Se_choose_29 : decode c_Se_choose 29 = .ok (.iconst 1, 1) := by decide +kernel
theorem d_Se_choose_30 : decode c_Se_choose 30 = .ok (.goto 4, 3) := by decide +kernel
theorem d_Se_choose_33 : decode c_Se_choose 33 = .ok (.iconst (-1), 1) := by decide +kernel
theorem d_Se_choose_34 : decode c_Se_choose 34 = .ok (.iastore, 1) := by decide +kernel
theorem d_Se_choose_35 : decode c_Se_choose 35 = .ok (.iload_n 2, 1) := by decide +kernel
theorem d_Se_choose_36 : decode c_Se_choose 36 = .ok (.ireturn, 1) := by decide +kernel
theorem d_Se_choose_37 : decode c_Se_choose 37 = .ok (.aload_n 0, 1) := by decide +kernel
theorem d_Se_choose_38 : decode c_Se_choose 38 = .ok (.getfield 36, 3) := by decide +kernel
theorem d_Se_choose_41 : decode c_Se_choose 41 = .ok (.iload_n 1, 1) := by decide +kernel
theorem d_Se_choose_42 : decode c_Se_choose 42 = .ok (.iaload, 1) := by decide +kernel
theorem d_Se_choose_43 : decode c_Se_choose 43 = .ok (.iconst (-1), 1) := by decide +kernel
theorem d_Se_choose_44 : decode c_Se_choose 44 = .ok (.if_icmp .ne 11, 3) := by decide +kernel
theorem d_Se_choose_47 : decode c_Se_choose 47 = .ok (.aload_n 0, 1) := by decide +kernel
theorem d_Se_choose_48 : decode c_Se_choose 48 = .ok (.iload_n 1, 1) := by decide +kernel
theorem d_Se_choose_49 : decode c_Se_choose 49 = .ok (.invokevirtual 126, 3) := by decide +kernel
theorem d_Se_choose_52 : decode c_Se_choose 52 = .ok (.goto 8, 3) := by decide +kernel
theorem d_Se_choose_55 : decode c_Se_choose 55 = .ok (.aload_n 0, 1) := by decide +kernel
theorem d_Se_choose_56 : decode c_Se_choose 56 = .ok (.iload_n 1, 1) := by decide +kernel
theorem d_Se_choose_57 : decode c_Se_choose 57 = .ok (.invokevirtual 129, 3) := by decide +kernel
theorem d_Se_choose_60 : decode c_Se_choose 60 = .ok (.istore_n 2, 1) := by decide +kernel
theorem d_Se_choose_61 : decode c_Se_choose 61 = .ok (.aload_n 0, 1) := by decide +kernel
theorem d_Se_choose_62 : decode c_Se_choose 62 = .ok (.getfield 36, 3) := by decide +kernel
theorem d_Se_choose_65 : decode c_Se_choose 65 = .ok (.iload_n 1, 1) := by decide +kernel
theorem d_Se_choose_66 : decode c_Se_choose 66 = .ok (.iload_n 2, 1) := by decide +kernel
theorem d_Se_choose_67 : decode c_Se_choose 67 = .ok (.iastore, 1) := by decide +kernel
theorem d_Se_choose_68 : decode c_Se_choose 68 = .ok (.iload_n 2, 1) := by decide +kernel
theorem d_Se_choose_69 : decode c_Se_choose 69 = .ok (.iconst (-1), 1) := by decide +kernel
theorem d_Se_choose_70 : decode c_Se_choose 70 = .ok (.if_icmp .ne 5, 3) := by decide +kernel
theorem d_Se_choose_73 : decode c_Se_choose 73 = .ok (.iconst 0, 1) := by decide +kernel
theorem d_Se_choose_74 : decode c_Se_choose 74 = .ok (.ireturn, 1) := by decide +kernel
theorem d_Se_choose_75 : decode c_Se_choose 75 = .ok (.aload_n 0, 1) := by decide +kernel
theorem d_Se_choose_76 : decode c_Se_choose 76 = .ok (.getfield 43, 3) := by decide +kernel
theorem d_Se_choose_79 : decode c_Se_choose 79 = .ok (.aload_n 0, 1) := by decide +kernel
theorem d_Se_choose_80 : decode c_Se_choose 80 = .ok (.getfield 18, 3) := by decide +kernel
theorem d_Se_choose_83 : decode c_Se_choose 83 = .ok (.iload_n 1, 1) := by decide +kernel
theorem d_Se_choose_84 : decode c_Se_choose 84 = .ok (.invokevirtual 116, 3) := by decide +kernel
theorem d_Se_choose_87 : decode c_Se_choose 87 = .ok (.dup2, 1) := by decide +kernel
theorem d_Se_choose_88 : decode c_Se_choose 88 = .ok (.iaload, 1) := by decide +kernel
theorem d_Se_choose_89 : decode c_Se_choose 89 = .ok (.iload_n 2, 1) := by decide +kernel
theorem d_Se_choose_90 : decode c_Se_choose 90 = .ok (.iconst (-1), 1) := by decide +kernel
theorem d_Se_choose_91 : decode c_Se_choose 91 = .ok (.ixor, 1) := by decide +kernel
theorem d_Se_choose_92 : decode c_Se_choose 92 = .ok (.iand, 1) := by decide +kernel
theorem d_Se_choose_93 : decode c_Se_choose 93 = .ok (.iastore, 1) := by decide +kernel
theorem d_Se_choose_94 : decode c_Se_choose 94 = .ok (.iconst 1, 1) := by decide +kernel
theorem d_Se_choose_95 : decode c_Se_choose 95 = .ok (.ireturn, 1) := by decide +kernel
theorem d_Se_firstChoice_0 : decode c_Se_firstChoice 0 = .ok (.aload_n 0, 1) := by decide +kernel
theorem d_Se_firstChoice_1 : decode c_Se_firstChoice 1 = .ok (.getfield 9, 3) := by decide +kernel
theorem d_Se_firstChoice_4 : decode c_Se_firstChoice 4 = .ok (.aload_n 0, 1) := by decide +kernel
theorem d_Se_firstChoice_5 : decode c_Se_firstChoice 5 = .ok (.getfield 18, 3) := by decide +kernel
theorem d_Se_firstChoice_8 : decode c_Se_firstChoice 8 = .ok (.iload_n 1, 1) := by decide +kernel
theorem d_Se_firstChoice_9 : decode c_Se_firstChoice 9 = .ok (.invokevirtual 90, 3) := by decide +kernel
theorem d_Se_firstChoice_12 : decode c_Se_firstChoice 12 = .ok (.iconst 3, 1) := by decide +kernel
theorem d_Se_firstChoice_13 : decode c_Se_firstChoice 13 = .ok (.invokevirtual 132, 3) := by decide +kernel
theorem d_Se_firstChoice_16 : decode c_Se_firstChoice 16 = .ok (.ifCond .eq 7, 3) := by decide +kernel
theorem d_Se_firstChoice_19 : decode c_Se_firstChoice 19 = .ok (.iconst 0, 1) := by decide +kernel
theorem d_Se_firstChoice_20 : decode c_Se_firstChoice 20 = .ok (.goto 4, 3) := by decide +kernel
theorem d_Se_firstChoice_23 : decode c_Se_firstChoice 23 = .ok (.iconst 1, 1) := by decide +kernel
theorem d_Se_firstChoice_24 : decode c_Se_firstChoice 24 = .ok (.istore_n 2, 1) := by decide +kernel
theorem d_Se_firstChoice_25 : decode c_Se_firstChoice 25 = .ok (.aload_n 0, 1) := by decide +kernel
theorem d_Se_firstChoice_26 : decode c_Se_firstChoice 26 = .ok (.getfield 43, 3) := by decide +kernel
theorem d_Se_firstChoice_29 : decode c_Se_firstChoice 29 = .ok (.aload_n 0, 1) := by decide +kernel
theorem d_Se_firstChoice_30 : decode c_Se_firstChoice 30 = .ok (.getfield 18, 3) := by decide +kernel
theorem d_Se_firstChoice_33 : decode c_Se_firstChoice 33 = .ok (.iload_n 1, 1) := by decide +kernel
theorem d_Se_firstChoice_34 : decode c_Se_firstChoice 34 = .ok (.invokevirtual 116, 3) := by decide +kernel
theorem d_Se_firstChoice_37 : decode c_Se_firstChoice 37 = .ok (.iaload, 1) := by decide +kernel
theorem d_Se_firstChoice_38 : decode c_Se_firstChoice 38 = .ok (.iload_n 2, 1) := by decide +kernel
theorem d_Se_firstChoice_39 : decode c_Se_firstChoice 39 = .ok (.invokestatic 135, 3) := by decide +kernel
theorem d_Se_firstChoice_42 : decode c_Se_firstChoice 42 = .ok (.ireturn, 1) := by decide +kernel
theorem d_Se_laterChoice_0 : decode c_Se_laterChoice 0 = .ok (.aload_n 0, 1) := by decide +kernel
theorem d_Se_laterChoice_1 : decode c_Se_laterChoice 1 = .ok (.getfield 18, 3) := by decide +kernel
theorem d_Se_laterChoice_4 : decode c_Se_laterChoice 4 = .ok (.iload_n 1, 1) := by decide +kernel
theorem d_Se_laterChoice_5 : decode c_Se_laterChoice 5 = .ok (.invokevirtual 116, 3) := by decide +kernel
theorem d_Se_laterChoice_8 : decode c_Se_laterChoice 8 = .ok (.istore_n 2, 1) := by decide +kernel
theorem d_Se_laterChoice_9 : decode c_Se_laterChoice 9 = .ok (.aload_n 0, 1) := by decide +kernel
theorem d_Se_laterChoice_10 : decode c_Se_laterChoice 10 = .ok (.getfield 9, 3) := by decide +kernel
theorem d_Se_laterChoice_13 : decode c_Se_laterChoice 13 = .ok (.aload_n 0, 1) := by decide +kernel
theorem d_Se_laterChoice_14 : decode c_Se_laterChoice 14 = .ok (.getfield 18, 3) := by decide +kernel
theorem d_Se_laterChoice_17 : decode c_Se_laterChoice 17 = .ok (.iload_n 2, 1) := by decide +kernel
theorem d_Se_laterChoice_18 : decode c_Se_laterChoice 18 = .ok (.invokevirtual 90, 3) := by decide +kernel
theorem d_Se_laterChoice_21 : decode c_Se_laterChoice 21 = .ok (.invokevirtual 141, 3) := by decide +kernel
theorem d_Se_laterChoice_24 : decode c_Se_laterChoice 24 = .ok (.istore_n 3, 1) := by decide +kernel
theorem d_Se_laterChoice_25 : decode c_Se_laterChoice 25 = .ok (.aload_n 0, 1) := by decide +kernel
theorem d_Se_laterChoice_26 : decode c_Se_laterChoice 26 = .ok (.getfield 9, 3) := by decide +kernel
theorem d_Se_laterChoice_29 : decode c_Se_laterChoice 29 = .ok (.aload_n 0, 1) := by decide +kernel
theorem d_Se_laterChoice_30 : decode c_Se_laterChoice 30 = .ok (.getfield 18, 3) := by decide +kernel
theorem d_Se_laterChoice_33 : decode c_Se_laterChoice 33 = .ok (.iload_n 1, 1) := by decide +kernel
theorem d_Se_laterChoice_34 : decode c_Se_laterChoice 34 = .ok (.invokevirtual 90, 3) := by decide +kernel
theorem d_Se_laterChoice_37 : decode c_Se_laterChoice 37 = .ok (.invokevirtual 144, 3) := by decide +kernel
theorem d_Se_laterChoice_40 : decode c_Se_laterChoice 40 = .ok (.ifCond .eq 46, 3) := by decide +kernel
theorem d_Se_laterChoice_43 : decode c_Se_laterChoice 43 = .ok (.iload_n 3, 1) := by decide +kernel
theorem d_Se_laterChoice_44 : decode c_Se_laterChoice 44 = .ok (.ifCond .eq 21, 3) := by decide +kernel
theorem d_Se_laterChoice_47 : decode c_Se_laterChoice 47 = .ok (.aload_n 0, 1) := by decide +kernel
theorem d_Se_laterChoice_48 : decode c_Se_laterChoice 48 = .ok (.getfield 43, 3) := by decide +kernel
theorem d_Se_laterChoice_51 : decode c_Se_laterChoice 51 = .ok (.iload_n 2, 1) := by decide +kernel
theorem d_Se_laterChoice_52 : decode c_Se_laterChoice 52 = .ok (.iaload, 1) := by decide +kernel
theorem d_Se_laterChoice_53 : decode c_Se_laterChoice 53 = .ok (.aload_n 0, 1) := by decide +kernel
theorem d_Se_laterChoice_54 : decode c_Se_laterChoice 54 = .ok (.getfield 36, 3) := by decide +kernel
theorem d_Se_laterChoice_57 : decode c_Se_laterChoice 57 = .ok (.iload_n 1, 1) := by decide +kernel
theorem d_Se_laterChoice_58 : decode c_Se_laterChoice 58 = .ok (.iaload, 1) := by decide +kernel
theorem d_Se_laterChoice_59 : decode c_Se_laterChoice 59 = .ok (.invokestatic 147, 3) := by decide +kernel
theorem d_Se_laterChoice_62 : decode c_Se_laterChoice 62 = .ok (.goto 23, 3) := by decide +kernel
theorem d_Se_laterChoice_65 : decode c_Se_laterChoice 65 = .ok (.aload_n 0, 1) := by decide +kernel
theorem d_Se_laterChoice_66 : decode c_Se_laterChoice 66 = .ok (.getfield 43, 3) := by decide +kernel
theorem d_Se_laterChoice_69 : decode c_Se_laterChoice 69 = .ok (.iload_n 2, 1) := by decide +kernel
theorem d_Se_laterChoice_70 : decode c_Se_laterChoice 70 = .ok (.iaload, 1) := by decide +kernel
theorem d_Se_laterChoice_71 : decode c_Se_laterChoice 71 = .ok (.aload_n 0, 1) := by decide +kernel
theorem d_Se_laterChoice_72 : decode c_Se_laterChoice 72 = .ok (.getfield 36, 3) := by decide +kernel
theorem d_Se_laterChoice_75 : decode c_Se_laterChoice 75 = .ok (.iload_n 1, 1) := by decide +kernel
theorem d_Se_laterChoice_76 : decode c_Se_laterChoice 76 = .ok (.iaload, 1) := by decide +kernel
theorem d_Se_laterChoice_77 : decode c_Se_laterChoice 77 = .ok (.invokestatic 150, 3) := by decide +kernel
theorem d_Se_laterChoice_80 : decode c_Se_laterChoice 80 = .ok (.iconst 1, 1) := by decide +kernel
theorem d_Se_laterChoice_81 : decode c_Se_laterChoice 81 = .ok (.iadd, 1) := by decide +kernel
theorem d_Se_laterChoice_82 : decode c_Se_laterChoice 82 = .ok (.invokestatic 135, 3) := by decide +kernel
theorem d_Se_laterChoice_85 : decode c_Se_laterChoice 85 = .ok (.ireturn, 1) := by decide +kernel
theorem d_Se_laterChoice_86 : decode c_Se_laterChoice 86 = .ok (.iload_n 3, 1) := by decide +kernel
theorem d_Se_laterChoice_87 : decode c_Se_laterChoice 87 = .ok (.ifCond .eq 25, 3) := by decide +kernel
theorem d_Se_laterChoice_90 : decode c_Se_laterChoice 90 = .ok (.aload_n 0, 1) := by decide +kernel
theorem d_Se_laterChoice_91 : decode c_Se_laterChoice 91 = .ok (.getfield 43, 3) := by decide +kernel
theorem d_Se_laterChoice_94 : decode c_Se_laterChoice 94 = .ok (.iload_n 2, 1) := by decide +kernel
theorem d_Se_laterChoice_95 : decode c_Se_laterChoice 95 = .ok (.iaload, 1) := by decide +kernel
theorem d_Se_laterChoice_96 : decode c_Se_laterChoice 96 = .ok (.aload_n 0, 1) := by decide +kernel
theorem d_Se_laterChoice_97 : decode c_Se_laterChoice 97 = .ok (.getfield 36, 3) := by decide +kernel
theorem d_Se_laterChoice_100 : decode c_Se_laterChoice 100 = .ok (.iload_n 1, 1) := by decide +kernel
theorem d_Se_laterChoice_101 : decode c_Se_laterChoice 101 = .ok (.iaload, 1) := by decide +kernel
theorem d_Se_laterChoice_102 : decode c_Se_laterChoice 102 = .ok (.invokestatic 155, 3) := by decide +kernel
theorem d_Se_laterChoice_105 : decode c_Se_laterChoice 105 = .ok (.iconst 1, 1) := by decide +kernel
theorem d_Se_laterChoice_106 : decode c_Se_laterChoice 106 = .ok (.invokestatic 135, 3) := by decide +kernel
theorem d_Se_laterChoice_109 : decode c_Se_laterChoice 109 = .ok (.goto 4, 3) := by decide +kernel
theorem d_Se_laterChoice_112 : decode c_Se_laterChoice 112 = .ok (.iconst (-1), 1) := by decide +kernel
theorem d_Se_laterChoice_113 : decode c_Se_laterChoice 113 = .ok (.ireturn, 1) := by decide +kernel
theorem d_Se_gatherRow_0 : decode c_Se_gatherRow 0 = .ok (.iload_n 1, 1) := by decide +kernel
theorem d_Se_gatherRow_1 : decode c_Se_gatherRow 1 = .ok (.ifCond .ne 19, 3) := by decide +kernel
theorem d_Se_gatherRow_4 : decode c_Se_gatherRow 4 = .ok (.aload_n 0, 1) := by decide +kernel
theorem d_Se_gatherRow_5 : decode c_Se_gatherRow 5 = .ok (.getfield 46, 3) := by decide +kernel
theorem d_Se_gatherRow_8 : decode c_Se_gatherRow 8 = .ok (.iconst 0, 1) := by decide +kernel
theorem d_Se_gatherRow_9 : decode c_Se_gatherRow 9 = .ok (.aload_n 0, 1) := by decide +kernel
theorem d_Se_gatherRow_10 : decode c_Se_gatherRow 10 = .ok (.getfield 53, 3) := by decide +kernel
theorem d_Se_gatherRow_13 : decode c_Se_gatherRow 13 = .ok (.iastore, 1) := by decide +kernel
theorem d_Se_gatherRow_14 : decode c_Se_gatherRow 14 = .ok (.aload_n 0, 1) := by decide +kernel
theorem d_Se_gatherRow_15 : decode c_Se_gatherRow 15 = .ok (.iconst 1, 1) := by decide +kernel
theorem d_Se_gatherRow_16 : decode c_Se_gatherRow 16 = .ok (.putfield 49, 3) := by decide +kernel
theorem d_Se_gatherRow_19 : decode c_Se_gatherRow 19 = .ok (.return_, 1) := by decide +kernel
theorem d_Se_gatherRow_20 : decode c_Se_gatherRow 20 = .ok (.aload_n 0, 1) := by decide +kernel
theorem d_Se_gatherRow_21 : decode c_Se_gatherRow 21 = .ok (.getfield 40, 3) := by decide +kernel
theorem d_Se_gatherRow_24 : decode c_Se_gatherRow 24 = .ok (.aload_n 0, 1) := by decide +kernel
theorem d_Se_gatherRow_25 : decode c_Se_gatherRow 25 = .ok (.getfield 18, 3) := by decide +kernel
theorem d_Se_gatherRow_28 : decode c_Se_gatherRow 28 = .ok (.iload_n 1, 1) := by decide +kernel
theorem d_Se_gatherRow_29 : decode c_Se_gatherRow 29 = .ok (.invokevirtual 116, 3) := by decide +kernel
theorem d_Se_gatherRow_32 : decode c_Se_gatherRow 32 = .ok (.iaload, 1) := by decide +kernel
theorem d_Se_gatherRow_33 : decode c_Se_gatherRow 33 = .ok (.istore_n 2, 1) := by decide +kernel
theorem d_Se_gatherRow_34 : decode c_Se_gatherRow 34 = .ok (.aload_n 0, 1) := by decide +kernel
theorem d_Se_gatherRow_35 : decode c_Se_gatherRow 35 = .ok (.iconst 0, 1) := by decide +kernel
theorem d_Se_gatherRow_36 : decode c_Se_gatherRow 36 = .ok (.putfield 49, 3) := by decide +kernel
theorem d_Se_gatherRow_39 : decode c_Se_gatherRow 39 = .ok (.iconst 0, 1) := by decide +kernel
theorem d_Se_gatherRow_40 : decode c_Se_gatherRow 40 = .ok (.istore_n 3, 1) := by decide +kernel
theorem d_Se_gatherRow_41 : decode c_Se_gatherRow 41 = .ok (.iload_n 3, 1) := by decide +kernel
theorem d_Se_gatherRow_42 : decode c_Se_gatherRow 42 = .ok (.aload_n 0, 1) := by decide +kernel
theorem d_Se_gatherRow_43 : decode c_Se_gatherRow 43 = .ok (.getfield 9, 3) := by decide +kernel
theorem d_Se_gatherRow_46 : decode c_Se_gatherRow 46 = .ok (.iload_n 2, 1) := by decide +kernel
theorem d_Se_gatherRow_47 : decode c_Se_gatherRow 47 = .ok (.invokevirtual 158, 3) := by decide +kernel
theorem d_Se_gatherRow_50 : decode c_Se_gatherRow 50 = .ok (.if_icmp .ge 50, 3) := by decide +kernel
theorem d_Se_gatherRow_53 : decode c_Se_gatherRow 53 = .ok (.aload_n 0, 1) := by decide +kernel
theorem d_Se_gatherRow_54 : decode c_Se_gatherRow 54 = .ok (.getfield 36, 3) := by decide +kernel
theorem d_Se_gatherRow_57 : decode c_Se_gatherRow 57 = .ok (.iload_n 1, 1) := by decide +kernel
theorem d_Se_gatherRow_58 : decode c_Se_gatherRow 58 = .ok (.iaload, 1) := by decide +kernel
theorem d_Se_gatherRow_59 : decode c_Se_gatherRow 59 = .ok (.iconst 1, 1) := by decide +kernel
theorem d_Se_gatherRow_60 : decode c_Se_gatherRow 60 = .ok (.iload_n 3, 1) := by decide +kernel
theorem d_Se_gatherRow_61 : decode c_Se_gatherRow 61 = .ok (.ishl, 1) := by decide +kernel
theorem d_Se_gatherRow_62 : decode c_Se_gatherRow 62 = .ok (.iand, 1) := by decide +kernel
theorem d_Se_gatherRow_63 : decode c_Se_gatherRow 63 = .ok (.ifCond .eq 31, 3) := by decide +kernel
theorem d_Se_gatherRow_66 : decode c_Se_gatherRow 66 = .ok (.aload_n 0, 1) := by decide +kernel
theorem d_Se_gatherRow_67 : decode c_Se_gatherRow 67 = .ok (.getfield 46, 3) := by decide +kernel
theorem d_Se_gatherRow_70 : decode c_Se_gatherRow 70 = .ok (.aload_n 0, 1) := by decide +kernel
theorem d_Se_gatherRow_71 : decode c_Se_gatherRow 71 = .ok (.getfield 49, 3) := by decide +kernel
theorem d_Se_gatherRow_74 : decode c_Se_gatherRow 74 = .ok (.aload_n 0, 1) := by decide +kernel
theorem d_Se_gatherRow_75 : decode c_Se_gatherRow 75 = .ok (.getfield 9, 3) := by decide +kernel
theorem d_Se_gatherRow_78 : decode c_Se_gatherRow 78 = .ok (.iload_n 2, 1) := by decide +kernel
theorem d_Se_gatherRow_79 : decode c_Se_gatherRow 79 = .ok (.iload_n 3, 1) := by decide +kernel
theorem d_Se_gatherRow_80 : decode c_Se_gatherRow 80 = .ok (.invokevirtual 161, 3) := by decide +kernel
theorem d_Se_gatherRow_83 : decode c_Se_gatherRow 83 = .ok (.iastore, 1) := by decide +kernel
theorem d_Se_gatherRow_84 : decode c_Se_gatherRow 84 = .ok (.aload_n 0, 1) := by decide +kernel
theorem d_Se_gatherRow_85 : decode c_Se_gatherRow 85 = .ok (.dup, 1) := by decide +kernel
theorem d_Se_gatherRow_86 : decode c_Se_gatherRow 86 = .ok (.getfield 49, 3) := by decide +kernel
theorem d_Se_gatherRow_89 : decode c_Se_gatherRow 89 = .ok (.iconst 1, 1) := by decide +kernel
theorem d_Se_gatherRow_90 : decode c_Se_gatherRow 90 = .ok (.iadd, 1) := by decide +kernel
theorem d_Se_gatherRow_91 : decode c_Se_gatherRow 91 = .ok (.putfield 49, 3) := by decide +kernel
theorem d_Se_gatherRow_94 : decode c_Se_gatherRow 94 = .ok (.iinc 3 1, 3) := by decide +kernel
theorem d_Se_gatherRow_97 : decode c_Se_gatherRow 97 = .ok (.goto (-56), 3) := by decide +kernel
theorem d_Se_gatherRow_100 : decode c_Se_gatherRow 100 = .ok (.return_, 1) := by decide +kernel
theorem d_Se_fitsLeafOrNode_0 : decode c_Se_fitsLeafOrNode 0 = .ok (.aload_n 0, 1) := by decide +kernel
theorem d_Se_fitsLeafOrNode_1 : decode c_Se_fitsLeafOrNode 1 = .ok (.getfield 9, 3) := by decide +kernel
theorem d_Se_fitsLeafOrNode_4 : decode c_Se_fitsLeafOrNode 4 = .ok (.iload_n 2, 1) := by decide +kernel
theorem d_Se_fitsLeafOrNode_5 : decode c_Se_fitsLeafOrNode 5 = .ok (.aload_n 0, 1) := by decide +kernel
theorem d_Se_fitsLeafOrNode_6 : decode c_Se_fitsLeafOrNode 6 = .ok (.getfield 46, 3) := by decide +kernel
theorem d_Se_fitsLeafOrNode_9 : decode c_Se_fitsLeafOrNode 9 = .ok (.iconst 0, 1) := by decide +kernel
theorem d_Se_fitsLeafOrNode_10 : decode c_Se_fitsLeafOrNode 10 = .ok (.iaload, 1) := by decide +kernel
theorem d_Se_fitsLeafOrNode_11 : decode c_Se_fitsLeafOrNode 11 = .ok (.invokevirtual 164, 3) := by decide +kernel
theorem d_Se_fitsLeafOrNode_14 : decode c_Se_fitsLeafOrNode 14 = .ok (.ifCond .ne 5, 3) := by decide +kernel
theorem d_Se_fitsLeafOrNode_17 : decode c_Se_fitsLeafOrNode 17 = .ok (.iconst 0, 1) := by decide +kernel
theorem d_Se_fitsLeafOrNode_18 : decode c_Se_fitsLeafOrNode 18 = .ok (.ireturn, 1) := by decide +kernel
theorem d_Se_fitsLeafOrNode_19 : decode c_Se_fitsLeafOrNode 19 = .ok (.aload_n 0, 1) := by decide +kernel
theorem d_Se_fitsLeafOrNode_20 : decode c_Se_fitsLeafOrNode 20 = .ok (.getfield 40, 3) := by decide +kernel
theorem d_Se_fitsLeafOrNode_23 : decode c_Se_fitsLeafOrNode 23 = .ok (.iload_n 1, 1) := by decide +kernel
theorem d_Se_fitsLeafOrNode_24 : decode c_Se_fitsLeafOrNode 24 = .ok (.aload_n 0, 1) := by decide +kernel
theorem d_Se_fitsLeafOrNode_25 : decode c_Se_fitsLeafOrNode 25 = .ok (.getfield 46, 3) := by decide +kernel
theorem d_Se_fitsLeafOrNode_28 : decode c_Se_fitsLeafOrNode 28 = .ok (.iconst 0, 1) := by decide +kernel
theorem d_Se_fitsLeafOrNode_29 : decode c_Se_fitsLeafOrNode 29 = .ok (.iaload, 1) := by decide +kernel
theorem d_Se_fitsLeafOrNode_30 : decode c_Se_fitsLeafOrNode 30 = .ok (.iastore, 1) := by decide +kernel
theorem d_Se_fitsLeafOrNode_31 : decode c_Se_fitsLeafOrNode 31 = .ok (.aload_n 0, 1) := by decide +kernel
theorem d_Se_fitsLeafOrNode_32 : decode c_Se_fitsLeafOrNode 32 = .ok (.getfield 43, 3) := by decide +kernel
theorem d_Se_fitsLeafOrNode_35 : decode c_Se_fitsLeafOrNode 35 = .ok (.iload_n 1, 1) := by decide +kernel
theorem d_Se_fitsLeafOrNode_36 : decode c_Se_fitsLeafOrNode 36 = .ok (.aload_n 0, 1) := by decide +kernel
theorem d_Se_fitsLeafOrNode_37 : decode c_Se_fitsLeafOrNode 37 = .ok (.getfield 9, 3) := by decide +kernel
theorem d_Se_fitsLeafOrNode_40 : decode c_Se_fitsLeafOrNode 40 = .ok (.aload_n 0, 1) := by decide +kernel
theorem d_Se_fitsLeafOrNode_41 : decode c_Se_fitsLeafOrNode 41 = .ok (.getfield 46, 3) := by decide +kernel
theorem d_Se_fitsLeafOrNode_44 : decode c_Se_fitsLeafOrNode 44 = .ok (.iconst 0, 1) := by decide +kernel
theorem d_Se_fitsLeafOrNode_45 : decode c_Se_fitsLeafOrNode 45 = .ok (.iaload, 1) := by decide +kernel
theorem d_Se_fitsLeafOrNode_46 : decode c_Se_fitsLeafOrNode 46 = .ok (.invokevirtual 158, 3) := by decide +kernel
theorem d_Se_fitsLeafOrNode_49 : decode c_Se_fitsLeafOrNode 49 = .ok (.invokestatic 167, 3) := by decide +kernel
theorem d_Se_fitsLeafOrNode_52 : decode c_Se_fitsLeafOrNode 52 = .ok (.iastore, 1) := by decide +kernel
theorem d_Se_fitsLeafOrNode_53 : decode c_Se_fitsLeafOrNode 53 = .ok (.iconst 1, 1) := by decide +kernel
theorem d_Se_fitsLeafOrNode_54 : decode c_Se_fitsLeafOrNode 54 = .ok (.ireturn, 1) := by decide +kernel
theorem d_Se_fitsHole_0 : decode c_Se_fitsHole 0 = .ok (.aload_n 0, 1) := by decide +kernel
theorem d_Se_fitsHole_1 : decode c_Se_fitsHole 1 = .ok (.getfield 9, 3) := by decide +kernel
theorem d_Se_fitsHole_4 : decode c_Se_fitsHole 4 = .ok (.iload_n 2, 1) := by decide +kernel
theorem d_Se_fitsHole_5 : decode c_Se_fitsHole 5 = .ok (.iconst 1, 1) := by decide +kernel
theorem d_Se_fitsHole_6 : decode c_Se_fitsHole 6 = .ok (.invokevirtual 132, 3) := by decide +kernel
theorem d_Se_fitsHole_9 : decode c_Se_fitsHole 9 = .ok (.ifCond .eq 21, 3) := by decide +kernel
theorem d_Se_fitsHole_12 : decode c_Se_fitsHole 12 = .ok (.aload_n 0, 1) := by decide +kernel
theorem d_Se_fitsHole_13 : decode c_Se_fitsHole 13 = .ok (.getfield 9, 3) := by decide +kernel
theorem d_Se_fitsHole_16 : decode c_Se_fitsHole 16 = .ok (.aload_n 0, 1) := by decide +kernel
theorem d_Se_fitsHole_17 : decode c_Se_fitsHole 17 = .ok (.getfield 46, 3) := by decide +kernel
theorem d_Se_fitsHole_20 : decode c_Se_fitsHole 20 = .ok (.iconst 0, 1) := by decide +kernel
theorem d_Se_fitsHole_21 : decode c_Se_fitsHole 21 = .ok (.iaload, 1) := by decide +kernel
theorem d_Se_fitsHole_22 : decode c_Se_fitsHole 22 = .ok (.invokevirtual 170, 3) := by decide +kernel
theorem d_Se_fitsHole_25 : decode c_Se_fitsHole 25 = .ok (.ifCond .ne 5, 3) := by decide +kernel
theorem d_Se_fitsHole_28 : decode c_Se_fitsHole 28 = .ok (.iconst 0, 1) := by decide +kernel
theorem d_Se_fitsHole_29 : decode c_Se_fitsHole 29 = .ok (.ireturn, 1) := by decide +kernel
theorem d_Se_fitsHole_30 : decode c_Se_fitsHole 30 = .ok (.aload_n 0, 1) := by decide +kernel
theorem d_Se_fitsHole_31 : decode c_Se_fitsHole 31 = .ok (.getfield 9, 3) := by decide +kernel
theorem d_Se_fitsHole_34 : decode c_Se_fitsHole 34 = .ok (.iload_n 2, 1) := by decide +kernel
theorem d_Se_fitsHole_35 : decode c_Se_fitsHole 35 = .ok (.aload_n 0, 1) := by decide +kernel
theorem d_Se_fitsHole_36 : decode c_Se_fitsHole 36 = .ok (.getfield 46, 3) := by decide +kernel
theorem d_Se_fitsHole_39 : decode c_Se_fitsHole 39 = .ok (.aload_n 0, 1) := by decide +kernel
theorem d_Se_fitsHole_40 : decode c_Se_fitsHole 40 = .ok (.getfield 49, 3) := by decide +kernel
theorem d_Se_fitsHole_43 : decode c_Se_fitsHole 43 = .ok (.invokevirtual 173, 3) := by decide +kernel
theorem d_Se_fitsHole_46 : decode c_Se_fitsHole 46 = .ok (.ifCond .ne 5, 3) := by decide +kernel
theorem d_Se_fitsHole_49 : decode c_Se_fitsHole 49 = .ok (.iconst 0, 1) := by decide +kernel
theorem d_Se_fitsHole_50 : decode c_Se_fitsHole 50 = .ok (.ireturn, 1) := by decide +kernel
theorem d_Se_fitsHole_51 : decode c_Se_fitsHole 51 = .ok (.aload_n 0, 1) := by decide +kernel
theorem d_Se_fitsHole_52 : decode c_Se_fitsHole 52 = .ok (.getfield 9, 3) := by decide +kernel
theorem d_Se_fitsHole_55 : decode c_Se_fitsHole 55 = .ok (.iload_n 2, 1) := by decide +kernel
theorem d_Se_fitsHole_56 : decode c_Se_fitsHole 56 = .ok (.invokevirtual 119, 3) := by decide +kernel
theorem d_Se_fitsHole_59 : decode c_Se_fitsHole 59 = .ok (.istore_n 3, 1) := by decide +kernel
theorem d_Se_fitsHole_60 : decode c_Se_fitsHole 60 = .ok (.aload_n 0, 1) := by decide +kernel
theorem d_Se_fitsHole_61 : decode c_Se_fitsHole 61 = .ok (.getfield 25, 3) := by decide +kernel
theorem d_Se_fitsHole_64 : decode c_Se_fitsHole 64 = .ok (.iload_n 3, 1) := by decide +kernel
theorem d_Se_fitsHole_65 : decode c_Se_fitsHole 65 = .ok (.invokevirtual 177, 3) := by decide +kernel
theorem d_Se_fitsHole_68 : decode c_Se_fitsHole 68 = .ok (.ifCond .eq 22, 3) := by decide +kernel
theorem d_Se_fitsHole_71 : decode c_Se_fitsHole 71 = .ok (.aload_n 0, 1) := by decide +kernel
theorem d_Se_fitsHole_72 : decode c_Se_fitsHole 72 = .ok (.getfield 25, 3) := by decide +kernel
theorem d_Se_fitsHole_75 : decode c_Se_fitsHole 75 = .ok (.iload_n 3, 1) := by decide +kernel
theorem d_Se_fitsHole_76 : decode c_Se_fitsHole 76 = .ok (.aload_n 0, 1) := by decide +kernel
theorem d_Se_fitsHole_77 : decode c_Se_fitsHole 77 = .ok (.getfield 46, 3) := by decide +kernel
theorem d_Se_fitsHole_80 : decode c_Se_fitsHole 80 = .ok (.aload_n 0, 1) := by decide +kernel
theorem d_Se_fitsHole_81 : decode c_Se_fitsHole 81 = .ok (.getfield 49, 3) := by decide +kernel
theorem d_Se_fitsHole_84 : decode c_Se_fitsHole 84 = .ok (.iload_n 1, 1) := by decide +kernel
theorem d_Se_fitsHole_85 : decode c_Se_fitsHole 85 = .ok (.invokevirtual 180, 3) := by decide +kernel
theorem d_Se_fitsHole_88 : decode c_Se_fitsHole 88 = .ok (.iconst 1, 1) := by decide +kernel
theorem d_Se_fitsHole_89 : decode c_Se_fitsHole 89 = .ok (.ireturn, 1) := by decide +kernel
theorem d_Se_fitsHole_90 : decode c_Se_fitsHole 90 = .ok (.aload_n 0, 1) := by decide +kernel
theorem d_Se_fitsHole_91 : decode c_Se_fitsHole 91 = .ok (.getfield 25, 3) := by decide +kernel
theorem d_Se_fitsHole_94 : decode c_Se_fitsHole 94 = .ok (.aload_n 0, 1) := by decide +kernel
theorem d_Se_fitsHole_95 : decode c_Se_fitsHole 95 = .ok (.getfield 9, 3) := by decide +kernel
theorem d_Se_fitsHole_98 : decode c_Se_fitsHole 98 = .ok (.iload_n 3, 1) := by decide +kernel
theorem d_Se_fitsHole_99 : decode c_Se_fitsHole 99 = .ok (.aload_n 0, 1) := by decide +kernel
theorem d_Se_fitsHole_100 : decode c_Se_fitsHole 100 = .ok (.getfield 46, 3) := by decide +kernel
theorem d_Se_fitsHole_103 : decode c_Se_fitsHole 103 = .ok (.aload_n 0, 1) := by decide +kernel
theorem d_Se_fitsHole_104 : decode c_Se_fitsHole 104 = .ok (.getfield 49, 3) := by decide +kernel
theorem d_Se_fitsHole_107 : decode c_Se_fitsHole 107 = .ok (.invokevirtual 184, 3) := by decide +kernel
theorem d_Se_fitsHole_110 : decode c_Se_fitsHole 110 = .ok (.ireturn, 1) := by decide +kernel
theorem d_Se_rowsEndHere_0 : decode c_Se_rowsEndHere 0 = .ok (.aload_n 0, 1) := by decide +kernel
theorem d_Se_rowsEndHere_1 : decode c_Se_rowsEndHere 1 = .ok (.getfield 18, 3) := by decide +kernel
theorem d_Se_rowsEndHere_4 : decode c_Se_rowsEndHere 4 = .ok (.iload_n 1, 1) := by decide +kernel
theorem d_Se_rowsEndHere_5 : decode c_Se_rowsEndHere 5 = .ok (.invokevirtual 90, 3) := by decide +kernel
theorem d_Se_rowsEndHere_8 : decode c_Se_rowsEndHere 8 = .ok (.istore_n 2, 1) := by decide +kernel
theorem d_Se_rowsEndHere_9 : decode c_Se_rowsEndHere 9 = .ok (.aload_n 0, 1) := by decide +kernel
theorem d_Se_rowsEndHere_10 : decode c_Se_rowsEndHere 10 = .ok (.getfield 9, 3) := by decide +kernel
theorem d_Se_rowsEndHere_13 : decode c_Se_rowsEndHere 13 = .ok (.iload_n 2, 1) := by decide +kernel
theorem d_Se_rowsEndHere_14 : decode c_Se_rowsEndHere 14 = .ok (.invokevirtual 188, 3) := by decide +kernel
theorem d_Se_rowsEndHere_17 : decode c_Se_rowsEndHere 17 = .ok (.ifCond .eq 27, 3) := by decide +kernel
theorem d_Se_rowsEndHere_20 : decode c_Se_rowsEndHere 20 = .ok (.aload_n 0, 1) := by decide +kernel
theorem d_Se_rowsEndHere_21 : decode c_Se_rowsEndHere 21 = .ok (.getfield 9, 3) := by decide +kernel
theorem d_Se_rowsEndHere_24 : decode c_Se_rowsEndHere 24 = .ok (.iload_n 2, 1) := by decide +kernel
theorem d_Se_rowsEndHere_25 : decode c_Se_rowsEndHere 25 = .ok (.invokevirtual 158, 3) := by decide +kernel
theorem d_Se_rowsEndHere_28 : decode c_Se_rowsEndHere 28 = .ok (.ifCond .le 5, 3) := by decide +kernel
theorem d_Se_rowsEndHere_31 : decode c_Se_rowsEndHere 31 = .ok (.iconst 1, 1) := by decide +kernel
theorem d_Se_rowsEndHere_32 : decode c_Se_rowsEndHere 32 = .ok (.ireturn, 1) := by decide +kernel
theorem d_Se_rowsEndHere_33 : decode c_Se_rowsEndHere 33 = .ok (.aload_n 0, 1) := by decide +kernel
theorem d_Se_rowsEndHere_34 : decode c_Se_rowsEndHere 34 = .ok (.getfield 43, 3) := by decide +kernel
theorem d_Se_rowsEndHere_37 : decode c_Se_rowsEndHere 37 = .ok (.iload_n 1, 1) := by decide +kernel
theorem d_Se_rowsEndHere_38 : decode c_Se_rowsEndHere 38 = .ok (.iaload, 1) := by decide +kernel
theorem d_Se_rowsEndHere_39 : decode c_Se_rowsEndHere 39 = .ok (.ifCond .eq 5, 3) := by decide +kernel
theorem d_Se_rowsEndHere_42 : decode c_Se_rowsEndHere 42 = .ok (.iconst 0, 1) := by decide +kernel
theorem d_Se_rowsEndHere_43 : decode c_Se_rowsEndHere 43 = .ok (.ireturn, 1) := by decide +kernel
theorem d_Se_rowsEndHere_44 : decode c_Se_rowsEndHere 44 = .ok (.iload_n 1, 1) := by decide +kernel
theorem d_Se_rowsEndHere_45 : decode c_Se_rowsEndHere 45 = .ok (.istore_n 3, 1) := by decide +kernel
theorem d_Se_rowsEndHere_46 : decode c_Se_rowsEndHere 46 = .ok (.iconst 0, 1) := by decide +kernel
theorem d_Se_rowsEndHere_47 : decode c_Se_rowsEndHere 47 = .ok (.istore 4, 2) := by decide +kernel
theorem d_Se_rowsEndHere_49 : decode c_Se_rowsEndHere 49 = .ok (.iload 4, 2) := by decide +kernel
theorem d_Se_rowsEndHere_51 : decode c_Se_rowsEndHere 51 = .ok (.bipush 20, 2) := by decide +kernel
theorem d_Se_rowsEndHere_53 : decode c_Se_rowsEndHere 53 = .ok (.if_icmp .gt 44, 3) := by decide +kernel
theorem d_Se_rowsEndHere_56 : decode c_Se_rowsEndHere 56 = .ok (.iload_n 3, 1) := by decide +kernel
theorem d_Se_rowsEndHere_57 : decode c_Se_rowsEndHere 57 = .ok (.ifCond .le 40, 3) := by decide +kernel
theorem d_Se_rowsEndHere_60 : decode c_Se_rowsEndHere 60 = .ok (.aload_n 0, 1) := by decide +kernel
theorem d_Se_rowsEndHere_61 : decode c_Se_rowsEndHere 61 = .ok (.getfield 18, 3) := by decide +kernel
theorem d_Se_rowsEndHere_64 : decode c_Se_rowsEndHere 64 = .ok (.iload_n 3, 1) := by decide +kernel
theorem d_Se_rowsEndHere_65 : decode c_Se_rowsEndHere 65 = .ok (.invokevirtual 191, 3) := by decide +kernel
theorem d_Se_rowsEndHere_68 : decode c_Se_rowsEndHere 68 = .ok (.ifCond .eq 29, 3) := by decide +kernel
theorem d_Se_rowsEndHere_71 : decode c_Se_rowsEndHere 71 = .ok (.aload_n 0, 1) := by decide +kernel
theorem d_Se_rowsEndHere_72 : decode c_Se_rowsEndHere 72 = .ok (.getfield 18, 3) := by decide +kernel
theorem d_Se_rowsEndHere_75 : decode c_Se_rowsEndHere 75 = .ok (.iload_n 3, 1) := by decide +kernel
theorem d_Se_rowsEndHere_76 : decode c_Se_rowsEndHere 76 = .ok (.invokevirtual 116, 3) := by decide +kernel
theorem d_Se_rowsEndHere_79 : decode c_Se_rowsEndHere 79 = .ok (.istore_n 3, 1) := by decide +kernel
theorem d_Se_rowsEndHere_80 : decode c_Se_rowsEndHere 80 = .ok (.aload_n 0, 1) := by decide +kernel
theorem d_Se_rowsEndHere_81 : decode c_Se_rowsEndHere 81 = .ok (.getfield 43, 3) := by decide +kernel
theorem d_Se_rowsEndHere_84 : decode c_Se_rowsEndHere 84 = .ok (.iload_n 3, 1) := by decide +kernel
theorem d_Se_rowsEndHere_85 : decode c_Se_rowsEndHere 85 = .ok (.iaload, 1) := by decide +kernel
theorem d_Se_rowsEndHere_86 : decode c_Se_rowsEndHere 86 = .ok (.ifCond .eq 5, 3) := by decide +kernel
theorem d_Se_rowsEndHere_89 : decode c_Se_rowsEndHere 89 = .ok (.iconst 0, 1) := by decide +kernel
theorem d_Se_rowsEndHere_90 : decode c_Se_rowsEndHere 90 = .ok (.ireturn, 1) := by decide +kernel
theorem d_Se_rowsEndHere_91 : decode c_Se_rowsEndHere 91 = .ok (.iinc 4 1, 3) := by decide +kernel
theorem d_Se_rowsEndHere_94 : decode c_Se_rowsEndHere 94 = .ok (.goto (-45), 3) := by decide +kernel
theorem d_Se_rowsEndHere_97 : decode c_Se_rowsEndHere 97 = .ok (.iconst 1, 1) := by decide +kernel
theorem d_Se_rowsEndHere_98 : decode c_Se_rowsEndHere 98 = .ok (.ireturn, 1) := by decide +kernel
