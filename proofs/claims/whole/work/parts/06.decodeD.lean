/-! decode rows, by program (wip/whole/mk02.py) -/
theorem d_La_leaf_0 : decode c_La_leaf 0 = .ok (.aload_n 2, 1) := by decide +kernel
theorem d_La_leaf_1 : decode c_La_leaf 1 = .ok (.iconst 0, 1) := by decide +kernel
theorem d_La_leaf_2 : decode c_La_leaf 2 = .ok (.aload_n 0, 1) := by decide +kernel
theorem d_La_leaf_3 : decode c_La_leaf 3 = .ok (.iload_n 1, 1) := by decide +kernel
theorem d_La_leaf_4 : decode c_La_leaf 4 = .ok (.invokevirtual 7, 3) := by decide +kernel
theorem d_La_leaf_7 : decode c_La_leaf 7 = .ok (.i2l, 1) := by decide +kernel
theorem d_La_leaf_8 : decode c_La_leaf 8 = .ok (.lastore, 1) := by decide +kernel
theorem d_La_leaf_9 : decode c_La_leaf 9 = .ok (.goto 9, 3) := by decide +kernel
theorem d_La_leaf_12 : decode c_La_leaf 12 = .ok (.astore_n 3, 1) := by decide +kernel
theorem d_La_leaf_13 : decode c_La_leaf 13 = .ok (.iconst 1, 1) := by decide +kernel
theorem d_La_leaf_14 : decode c_La_leaf 14 = .ok (.ireturn, 1) := by decide +kernel
theorem d_La_leaf_15 : decode c_La_leaf 15 = .ok (.astore_n 3, 1) := by decide +kernel
theorem d_La_leaf_16 : decode c_La_leaf 16 = .ok (.iconst 2, 1) := by decide +kernel
theorem d_La_leaf_17 : decode c_La_leaf 17 = .ok (.ireturn, 1) := by decide +kernel
theorem d_La_leaf_18 : decode c_La_leaf 18 = .ok (.iconst 0, 1) := by decide +kernel
theorem d_La_leaf_19 : decode c_La_leaf 19 = .ok (.ireturn, 1) := by decide +kernel
theorem d_La_node_0 : decode c_La_node 0 = .ok (.aload_n 2, 1) := by decide +kernel
theorem d_La_node_1 : decode c_La_node 1 = .ok (.iconst 0, 1) := by decide +kernel
theorem d_La_node_2 : decode c_La_node 2 = .ok (.aload_n 0, 1) := by decide +kernel
theorem d_La_node_3 : decode c_La_node 3 = .ok (.iload_n 1, 1) := by decide +kernel
theorem d_La_node_4 : decode c_La_node 4 = .ok (.invokevirtual 17, 3) := by decide +kernel
theorem d_La_node_7 : decode c_La_node 7 = .ok (.i2l, 1) := by decide +kernel
theorem d_La_node_8 : decode c_La_node 8 = .ok (.lastore, 1) := by decide +kernel
theorem d_La_node_9 : decode c_La_node 9 = .ok (.goto 9, 3) := by decide +kernel
theorem d_La_node_12 : decode c_La_node 12 = .ok (.astore_n 3, 1) := by decide +kernel
theorem d_La_node_13 : decode c_La_node 13 = .ok (.iconst 1, 1) := by decide +kernel
theorem d_La_node_14 : decode c_La_node 14 = .ok (.ireturn, 1) := by decide +kernel
theorem d_La_node_15 : decode c_La_node 15 = .ok (.astore_n 3, 1) := by decide +kernel
theorem d_La_node_16 : decode c_La_node 16 = .ok (.iconst 2, 1) := by decide +kernel
theorem d_La_node_17 : decode c_La_node 17 = .ok (.ireturn, 1) := by decide +kernel
theorem d_La_node_18 : decode c_La_node 18 = .ok (.iconst 0, 1) := by decide +kernel
theorem d_La_node_19 : decode c_La_node 19 = .ok (.ireturn, 1) := by decide +kernel
theorem d_La_more_0 : decode c_La_more 0 = .ok (.aload_n 3, 1) := by decide +kernel
theorem d_La_more_1 : decode c_La_more 1 = .ok (.iconst 0, 1) := by decide +kernel
theorem d_La_more_2 : decode c_La_more 2 = .ok (.aload_n 0, 1) := by decide +kernel
theorem d_La_more_3 : decode c_La_more 3 = .ok (.iload_n 1, 1) := by decide +kernel
theorem d_La_more_4 : decode c_La_more 4 = .ok (.iload_n 2, 1) := by decide +kernel
theorem d_La_more_5 : decode c_La_more 5 = .ok (.invokevirtual 20, 3) := by decide +kernel
theorem d_La_more_8 : decode c_La_more 8 = .ok (.ifCond .eq 7, 3) := by decide +kernel
theorem d_La_more_11 : decode c_La_more 11 = .ok (.lconst 1, 1) := by decide +kernel
theorem d_La_more_12 : decode c_La_more 12 = .ok (.goto 4, 3) := by decide +kernel
theorem d_La_more_15 : decode c_La_more 15 = .ok (.lconst 0, 1) := by decide +kernel
theorem d_La_more_16 : decode c_La_more 16 = .ok (.lastore, 1) := by decide +kernel
theorem d_La_more_17 : decode c_La_more 17 = .ok (.goto 11, 3) := by decide +kernel
theorem d_La_more_20 : decode c_La_more 20 = .ok (.astore 4, 2) := by decide +kernel
theorem d_La_more_22 : decode c_La_more 22 = .ok (.iconst 1, 1) := by decide +kernel
theorem d_La_more_23 : decode c_La_more 23 = .ok (.ireturn, 1) := by decide +kernel
theorem d_La_more_24 : decode c_La_more 24 = .ok (.astore 4, 2) := by decide +kernel
theorem d_La_more_26 : decode c_La_more 26 = .ok (.iconst 2, 1) := by decide +kernel
theorem d_La_more_27 : decode c_La_more 27 = .ok (.ireturn, 1) := by decide +kernel
theorem d_La_more_28 : decode c_La_more 28 = .ok (.iconst 0, 1) := by decide +kernel
theorem d_La_more_29 : decode c_La_more 29 = .ok (.ireturn, 1) := by decide +kernel
theorem d_La_hole_0 : decode c_La_hole 0 = .ok (.aload_n 3, 1) := by decide +kernel
theorem d_La_hole_1 : decode c_La_hole 1 = .ok (.iconst 0, 1) := by decide +kernel
theorem d_La_hole_2 : decode c_La_hole 2 = .ok (.aload_n 0, 1) := by decide +kernel
theorem d_La_hole_3 : decode c_La_hole 3 = .ok (.iload_n 1, 1) := by decide +kernel
theorem d_La_hole_4 : decode c_La_hole 4 = .ok (.iload_n 2, 1) := by decide +kernel
theorem d_La_hole_5 : decode c_La_hole 5 = .ok (.invokevirtual 26, 3) := by decide +kernel
theorem d_La_hole_8 : decode c_La_hole 8 = .ok (.i2l, 1) := by decide +kernel
theorem d_La_hole_9 : decode c_La_hole 9 = .ok (.lastore, 1) := by decide +kernel
theorem d_La_hole_10 : decode c_La_hole 10 = .ok (.goto 11, 3) := by decide +kernel
theorem d_La_hole_13 : decode c_La_hole 13 = .ok (.astore 4, 2) := by decide +kernel
theorem d_La_hole_15 : decode c_La_hole 15 = .ok (.iconst 1, 1) := by decide +kernel
theorem d_La_hole_16 : decode c_La_hole 16 = .ok (.ireturn, 1) := by decide +kernel
theorem d_La_hole_17 : decode c_La_hole 17 = .ok (.astore 4, 2) := by decide +kernel
theorem d_La_hole_19 : decode c_La_hole 19 = .ok (.iconst 2, 1) := by decide +kernel
theorem d_La_hole_20 : decode c_La_hole 20 = .ok (.ireturn, 1) := by decide +kernel
theorem d_La_hole_21 : decode c_La_hole 21 = .ok (.iconst 0, 1) := by decide +kernel
theorem d_La_hole_22 : decode c_La_hole 22 = .ok (.ireturn, 1) := by decide +kernel
theorem d_La_test_0 : decode c_La_test 0 = .ok (.aload 4, 2) := by decide +kernel
theorem d_La_test_2 : decode c_La_test 2 = .ok (.iconst 0, 1) := by decide +kernel
theorem d_La_test_3 : decode c_La_test 3 = .ok (.aload_n 0, 1) := by decide +kernel
theorem d_La_test_4 : decode c_La_test 4 = .ok (.iload_n 1, 1) := by decide +kernel
theorem d_La_test_5 : decode c_La_test 5 = .ok (.iload_n 2, 1) := by decide +kernel
theorem d_La_test_6 : decode c_La_test 6 = .ok (.iload_n 3, 1) := by decide +kernel
theorem d_La_test_7 : decode c_La_test 7 = .ok (.invokevirtual 30, 3) := by decide +kernel
theorem d_La_test_10 : decode c_La_test 10 = .ok (.ifCond .eq 7, 3) := by decide +kernel
theorem d_La_test_13 : decode c_La_test 13 = .ok (.lconst 1, 1) := by decide +kernel
theorem d_La_test_14 : decode c_La_test 14 = .ok (.goto 4, 3) := by decide +kernel
theorem d_La_test_17 : decode c_La_test 17 = .ok (.lconst 0, 1) := by decide +kernel
theorem d_La_test_18 : decode c_La_test 18 = .ok (.lastore, 1) := by decide +kernel
theorem d_La_test_19 : decode c_La_test 19 = .ok (.goto 11, 3) := by decide +kernel
theorem d_La_test_22 : decode c_La_test 22 = .ok (.astore 5, 2) := by decide +kernel
theorem d_La_test_24 : decode c_La_test 24 = .ok (.iconst 1, 1) := by decide +kernel
theorem d_La_test_25 : decode c_La_test 25 = .ok (.ireturn, 1) := by decide +kernel
theorem d_La_test_26 : decode c_La_test 26 = .ok (.astore 5, 2) := by decide +kernel
theorem d_La_test_28 : decode c_La_test 28 = .ok (.iconst 2, 1) := by decide +kernel
theorem d_La_test_29 : decode c_La_test 29 = .ok (.ireturn, 1) := by decide +kernel
theorem d_La_test_30 : decode c_La_test 30 = .ok (.iconst 0, 1) := by decide +kernel
theorem d_La_test_31 : decode c_La_test 31 = .ok (.ireturn, 1) := by decide +kernel
theorem d_La_match_0 : decode c_La_match 0 = .ok (.aload 4, 2) := by decide +kernel
theorem d_La_match_2 : decode c_La_match 2 = .ok (.iconst 0, 1) := by decide +kernel
theorem d_La_match_3 : decode c_La_match 3 = .ok (.aload_n 0, 1) := by decide +kernel
theorem d_La_match_4 : decode c_La_match 4 = .ok (.iload_n 1, 1) := by decide +kernel
theorem d_La_match_5 : decode c_La_match 5 = .ok (.iload_n 2, 1) := by decide +kernel
theorem d_La_match_6 : decode c_La_match 6 = .ok (.iload_n 3, 1) := by decide +kernel
theorem d_La_match_7 : decode c_La_match 7 = .ok (.invokevirtual 34, 3) := by decide +kernel
theorem d_La_match_10 : decode c_La_match 10 = .ok (.i2l, 1) := by decide +kernel
theorem d_La_match_11 : decode c_La_match 11 = .ok (.lastore, 1) := by decide +kernel
theorem d_La_match_12 : decode c_La_match 12 = .ok (.goto 11, 3) := by decide +kernel
theorem d_La_match_15 : decode c_La_match 15 = .ok (.astore 5, 2) := by decide +kernel
theorem d_La_match_17 : decode c_La_match 17 = .ok (.iconst 1, 1) := by decide +kernel
theorem d_La_match_18 : decode c_La_match 18 = .ok (.ireturn, 1) := by decide +kernel
theorem d_La_match_19 : decode c_La_match 19 = .ok (.astore 5, 2) := by decide +kernel
theorem d_La_match_21 : decode c_La_match 21 = .ok (.iconst 2, 1) := by decide +kernel
theorem d_La_match_22 : decode c_La_match 22 = .ok (.ireturn, 1) := by decide +kernel
theorem d_La_match_23 : decode c_La_match 23 = .ok (.iconst 0, 1) := by decide +kernel
theorem d_La_match_24 : decode c_La_match 24 = .ok (.ireturn, 1) := by decide +kernel
theorem d_La_bound_0 : decode c_La_bound 0 = .ok (.aload 4, 2) := by decide +kernel
theorem d_La_bound_2 : decode c_La_bound 2 = .ok (.iconst 0, 1) := by decide +kernel
theorem d_La_bound_3 : decode c_La_bound 3 = .ok (.aload_n 0, 1) := by decide +kernel
theorem d_La_bound_4 : decode c_La_bound 4 = .ok (.iload_n 1, 1) := by decide +kernel
theorem d_La_bound_5 : decode c_La_bound 5 = .ok (.iload_n 2, 1) := by decide +kernel
theorem d_La_bound_6 : decode c_La_bound 6 = .ok (.iload_n 3, 1) := by decide +kernel
theorem d_La_bound_7 : decode c_La_bound 7 = .ok (.invokevirtual 38, 3) := by decide +kernel
theorem d_La_bound_10 : decode c_La_bound 10 = .ok (.i2l, 1) := by decide +kernel
theorem d_La_bound_11 : decode c_La_bound 11 = .ok (.lastore, 1) := by decide +kernel
theorem d_La_bound_12 : decode c_La_bound 12 = .ok (.goto 11, 3) := by decide +kernel
theorem d_La_bound_15 : decode c_La_bound 15 = .ok (.astore 5, 2) := by decide +kernel
theorem d_La_bound_17 : decode c_La_bound 17 = .ok (.iconst 1, 1) := by decide +kernel
theorem d_La_bound_18 : decode c_La_bound 18 = .ok (.ireturn, 1) := by decide +kernel
theorem d_La_bound_19 : decode c_La_bound 19 = .ok (.astore 5, 2) := by decide +kernel
theorem d_La_bound_21 : decode c_La_bound 21 = .ok (.iconst 2, 1) := by decide +kernel
theorem d_La_bound_22 : decode c_La_bound 22 = .ok (.ireturn, 1) := by decide +kernel
theorem d_La_bound_23 : decode c_La_bound 23 = .ok (.iconst 0, 1) := by decide +kernel
theorem d_La_bound_24 : decode c_La_bound 24 = .ok (.ireturn, 1) := by decide +kernel
theorem d_La_many_0 : decode c_La_many 0 = .ok (.aload_n 3, 1) := by decide +kernel
theorem d_La_many_1 : decode c_La_many 1 = .ok (.iconst 0, 1) := by decide +kernel
theorem d_La_many_2 : decode c_La_many 2 = .ok (.aload_n 0, 1) := by decide +kernel
theorem d_La_many_3 : decode c_La_many 3 = .ok (.iload_n 1, 1) := by decide +kernel
theorem d_La_many_4 : decode c_La_many 4 = .ok (.iload_n 2, 1) := by decide +kernel
theorem d_La_many_5 : decode c_La_many 5 = .ok (.invokevirtual 41, 3) := by decide +kernel
theorem d_La_many_8 : decode c_La_many 8 = .ok (.i2l, 1) := by decide +kernel
theorem d_La_many_9 : decode c_La_many 9 = .ok (.lastore, 1) := by decide +kernel
theorem d_La_many_10 : decode c_La_many 10 = .ok (.goto 11, 3) := by decide +kernel
theorem d_La_many_13 : decode c_La_many 13 = .ok (.astore 4, 2) := by decide +kernel
theorem d_La_many_15 : decode c_La_many 15 = .ok (.iconst 1, 1) := by decide +kernel
theorem d_La_many_16 : decode c_La_many 16 = .ok (.ireturn, 1) := by decide +kernel
theorem d_La_many_17 : decode c_La_many 17 = .ok (.astore 4, 2) := by decide +kernel
theorem d_La_many_19 : decode c_La_many 19 = .ok (.iconst 2, 1) := by decide +kernel
theorem d_La_many_20 : decode c_La_many 20 = .ok (.ireturn, 1) := by decide +kernel
theorem d_La_many_21 : decode c_La_many 21 = .ok (.iconst 0, 1) := by decide +kernel
theorem d_La_many_22 : decode c_La_many 22 = .ok (.ireturn, 1) := by decide +kernel
theorem d_La_rule_0 : decode c_La_rule 0 = .ok (.aload_n 2, 1) := by decide +kernel
theorem d_La_rule_1 : decode c_La_rule 1 = .ok (.iconst 0, 1) := by decide +kernel
theorem d_La_rule_2 : decode c_La_rule 2 = .ok (.aload_n 0, 1) := by decide +kernel
theorem d_La_rule_3 : decode c_La_rule 3 = .ok (.iload_n 1, 1) := by decide +kernel
theorem d_La_rule_4 : decode c_La_rule 4 = .ok (.invokevirtual 44, 3) := by decide +kernel
theorem d_La_rule_7 : decode c_La_rule 7 = .ok (.i2l, 1) := by decide +kernel
theorem d_La_rule_8 : decode c_La_rule 8 = .ok (.lastore, 1) := by decide +kernel
theorem d_La_rule_9 : decode c_La_rule 9 = .ok (.goto 9, 3) := by decide +kernel
theorem d_La_rule_12 : decode c_La_rule 12 = .ok (.astore_n 3, 1) := by decide +kernel
theorem d_La_rule_13 : decode c_La_rule 13 = .ok (.iconst 1, 1) := by decide +kernel
theorem d_La_rule_14 : decode c_La_rule 14 = .ok (.ireturn, 1) := by decide +kernel
theorem d_La_rule_15 : decode c_La_rule 15 = .ok (.astore_n 3, 1) := by decide +kernel
theorem d_La_rule_16 : decode c_La_rule 16 = .ok (.iconst 2, 1) := by decide +kernel
theorem d_La_rule_17 : decode c_La_rule 17 = .ok (.ireturn, 1) := by decide +kernel
theorem d_La_rule_18 : decode c_La_rule 18 = .ok (.iconst 0, 1) := by decide +kernel
theorem d_La_rule_19 : decode c_La_rule 19 = .ok (.ireturn, 1) := by decide +kernel
theorem d_La_net_0 : decode c_La_net 0 = .ok (.aload_n 2, 1) := by decide +kernel
theorem d_La_net_1 : decode c_La_net 1 = .ok (.iconst 0, 1) := by decide +kernel
theorem d_La_net_2 : decode c_La_net 2 = .ok (.aload_n 0, 1) := by decide +kernel
theorem d_La_net_3 : decode c_La_net 3 = .ok (.iload_n 1, 1) := by decide +kernel
theorem d_La_net_4 : decode c_La_net 4 = .ok (.invokevirtual 47, 3) := by decide +kernel
theorem d_La_net_7 : decode c_La_net 7 = .ok (.i2l, 1) := by decide +kernel
theorem d_La_net_8 : decode c_La_net 8 = .ok (.lastore, 1) := by decide +kernel
theorem d_La_net_9 : decode c_La_net 9 = .ok (.goto 9, 3) := by decide +kernel
theorem d_La_net_12 : decode c_La_net 12 = .ok (.astore_n 3, 1) := by decide +kernel
theorem d_La_net_13 : decode c_La_net 13 = .ok (.iconst 1, 1) := by decide +kernel
theorem d_La_net_14 : decode c_La_net 14 = .ok (.ireturn, 1) := by decide +kernel
theorem d_La_net_15 : decode c_La_net 15 = .ok (.astore_n 3, 1) := by decide +kernel
theorem d_La_net_16 : decode c_La_net 16 = .ok (.iconst 2, 1) := by decide +kernel
theorem d_La_net_17 : decode c_La_net 17 = .ok (.ireturn, 1) := by decide +kernel
theorem d_La_net_18 : decode c_La_net 18 = .ok (.iconst 0, 1) := by decide +kernel
theorem d_La_net_19 : decode c_La_net 19 = .ok (.ireturn, 1) := by decide +kernel
theorem d_La_first_0 : decode c_La_first 0 = .ok (.aload_n 2, 1) := by decide +kernel
theorem d_La_first_1 : decode c_La_first 1 = .ok (.iconst 0, 1) := by decide +kernel
theorem d_La_first_2 : decode c_La_first 2 = .ok (.aload_n 0, 1) := by decide +kernel
theorem d_La_first_3 : decode c_La_first 3 = .ok (.iload_n 1, 1) := by decide +kernel
theorem d_La_first_4 : decode c_La_first 4 = .ok (.invokevirtual 50, 3) := by decide +kernel
theorem d_La_first_7 : decode c_La_first 7 = .ok (.i2l, 1) := by decide +kernel
theorem d_La_first_8 : decode c_La_first 8 = .ok (.lastore, 1) := by decide +kernel
theorem d_La_first_9 : decode c_La_first 9 = .ok (.goto 9, 3) := by decide +kernel
theorem d_La_first_12 : decode c_La_first 12 = .ok (.astore_n 3, 1) := by decide +kernel
theorem d_La_first_13 : decode c_La_first 13 = .ok (.iconst 1, 1) := by decide +kernel
theorem d_La_first_14 : decode c_La_first 14 = .ok (.ireturn, 1) := by decide +kernel
theorem d_La_first_15 : decode c_La_first 15 = .ok (.astore_n 3, 1) := by decide +kernel
theorem d_La_first_16 : decode c_La_first 16 = .ok (.iconst 2, 1) := by decide +kernel
theorem d_La_first_17 : decode c_La_first 17 = .ok (.ireturn, 1) := by decide +kernel
theorem d_La_first_18 : decode c_La_first 18 = .ok (.iconst 0, 1) := by decide +kernel
theorem d_La_first_19 : decode c_La_first 19 = .ok (.ireturn, 1) := by decide +kernel
theorem d_La_order_0 : decode c_La_order 0 = .ok (.aload_n 3, 1) := by decide +kernel
theorem d_La_order_1 : decode c_La_order 1 = .ok (.iconst 0, 1) := by decide +kernel
theorem d_La_order_2 : decode c_La_order 2 = .ok (.aload_n 0, 1) := by decide +kernel
theorem d_La_order_3 : decode c_La_order 3 = .ok (.iload_n 1, 1) := by decide +kernel
theorem d_La_order_4 : decode c_La_order 4 = .ok (.iload_n 2, 1) := by decide +kernel
theorem d_La_order_5 : decode c_La_order 5 = .ok (.invokevirtual 53, 3) := by decide +kernel
theorem d_La_order_8 : decode c_La_order 8 = .ok (.i2l, 1) := by decide +kernel
theorem d_La_order_9 : decode c_La_order 9 = .ok (.lastore, 1) := by decide +kernel
theorem d_La_order_10 : decode c_La_order 10 = .ok (.goto 11, 3) := by decide +kernel
theorem d_La_order_13 : decode c_La_order 13 = .ok (.astore 4, 2) := by decide +kernel
theorem d_La_order_15 : decode c_La_order 15 = .ok (.iconst 1, 1) := by decide +kernel
theorem d_La_order_16 : decode c_La_order 16 = .ok (.ireturn, 1) := by decide +kernel
theorem d_La_order_17 : decode c_La_order 17 = .ok (.astore 4, 2) := by decide +kernel
theorem d_La_order_19 : decode c_La_order 19 = .ok (.iconst 2, 1) := by decide +kernel
theorem d_La_order_20 : decode c_La_order 20 = .ok (.ireturn, 1) := by decide +kernel
theorem d_La_order_21 : decode c_La_order 21 = .ok (.iconst 0, 1) := by decide +kernel
theorem d_La_order_22 : decode c_La_order 22 = .ok (.ireturn, 1) := by decide +kernel
theorem d_La_parts_0 : decode c_La_parts 0 = .ok (.aload_n 2, 1) := by decide +kernel
theorem d_La_parts_1 : decode c_La_parts 1 = .ok (.iconst 0, 1) := by decide +kernel
theorem d_La_parts_2 : decode c_La_parts 2 = .ok (.aload_n 0, 1) := by decide +kernel
theorem d_La_parts_3 : decode c_La_parts 3 = .ok (.iload_n 1, 1) := by decide +kernel
theorem d_La_parts_4 : decode c_La_parts 4 = .ok (.invokevirtual 56, 3) := by decide +kernel
theorem d_La_parts_7 : decode c_La_parts 7 = .ok (.i2l, 1) := by decide +kernel
theorem d_La_parts_8 : decode c_La_parts 8 = .ok (.lastore, 1) := by decide +kernel
theorem d_La_parts_9 : decode c_La_parts 9 = .ok (.goto 6, 3) := by decide +kernel
theorem d_La_parts_12 : decode c_La_parts 12 = .ok (.astore_n 3, 1) := by decide +kernel
theorem d_La_parts_13 : decode c_La_parts 13 = .ok (.iconst 1, 1) := by decide +kernel
theorem d_La_parts_14 : decode c_La_parts 14 = .ok (.ireturn, 1) := by decide +kernel
theorem d_La_parts_15 : decode c_La_parts 15 = .ok (.iconst 0, 1) := by decide +kernel
theorem d_La_parts_16 : decode c_La_parts 16 = .ok (.ireturn, 1) := by decide +kernel
theorem d_La_part_0 : decode c_La_part 0 = .ok (.aload_n 3, 1) := by decide +kernel
theorem d_La_part_1 : decode c_La_part 1 = .ok (.iconst 0, 1) := by decide +kernel
theorem d_La_part_2 : decode c_La_part 2 = .ok (.aload_n 0, 1) := by decide +kernel
theorem d_La_part_3 : decode c_La_part 3 = .ok (.iload_n 1, 1) := by decide +kernel
theorem d_La_part_4 : decode c_La_part 4 = .ok (.iload_n 2, 1) := by decide +kernel
theorem d_La_part_5 : decode c_La_part 5 = .ok (.invokevirtual 59, 3) := by decide +kernel
theorem d_La_part_8 : decode c_La_part 8 = .ok (.i2l, 1) := by decide +kernel
theorem d_La_part_9 : decode c_La_part 9 = .ok (.lastore, 1) := by decide +kernel
theorem d_La_part_10 : decode c_La_part 10 = .ok (.goto 7, 3) := by decide +kernel
theorem d_La_part_13 : decode c_La_part 13 = .ok (.astore 4, 2) := by decide +kernel
theorem d_La_part_15 : decode c_La_part 15 = .ok (.iconst 1, 1) := by decide +kernel
theorem d_La_part_16 : decode c_La_part 16 = .ok (.ireturn, 1) := by decide +kernel
theorem d_La_part_17 : decode c_La_part 17 = .ok (.iconst 0, 1) := by decide +kernel
theorem d_La_part_18 : decode c_La_part 18 = .ok (.ireturn, 1) := by decide +kernel
abbrev c_La_law : ByteArray := code
theorem d_La_law_0 : decode c_La_law 0 = .ok (.new 8, 3) := by decide +kernel
theorem d_La_law_3 : decode c_La_law 3 = .ok (.dup, 1) := by decide +kernel
theorem d_La_law_4 : decode c_La_law 4 = .ok (.invokespecial 62, 3) := by decide +kernel
theorem d_La_law_7 : decode c_La_law 7 = .ok (.astore_n 1, 1) := by decide +kernel
theorem d_La_law_8 : decode c_La_law 8 = .ok (.new 63, 3) := by decide +kernel
theorem d_La_law_11 : decode c_La_law 11 = .ok (.dup, 1) := by decide +kernel
theorem d_La_law_12 : decode c_La_law 12 = .ok (.invokespecial 65, 3) := by decide +kernel
theorem d_La_law_15 : decode c_La_law 15 = .ok (.astore_n 2, 1) := by decide +kernel
theorem d_La_law_16 : decode c_La_law 16 = .ok (.iconst 1, 1) := by decide +kernel
theorem d_La_law_17 : decode c_La_law 17 = .ok (.newarray .long, 2) := by decide +kernel
theorem d_La_law_19 : decode c_La_law 19 = .ok (.astore_n 3, 1) := by decide +kernel
theorem d_La_law_20 : decode c_La_law 20 = .ok (.iconst 0, 1) := by decide +kernel
theorem d_La_law_21 : decode c_La_law 21 = .ok (.istore 4, 2) := by decide +kernel
theorem d_La_law_23 : decode c_La_law 23 = .ok (.iload 4, 2) := by decide +kernel
theorem d_La_law_25 : decode c_La_law 25 = .ok (.aload_n 0, 1) := by decide +kernel
theorem d_La_law_26 : decode c_La_law 26 = .ok (.arraylength, 1) := by decide +kernel
theorem d_La_law_27 : decode c_La_law 27 = .ok (.iconst 4, 1) := by decide +kernel
theorem d_La_law_28 : decode c_La_law 28 = .ok (.isub, 1) := by decide +kernel
theorem d_La_law_29 : decode c_La_law 29 = .ok (.if_icmp .gt 1090, 3) := by decide +kernel
theorem d_La_law_32 : decode c_La_law 32 = .ok (.aload_n 0, 1) := by decide +kernel
theorem d_La_law_33 : decode c_La_law 33 = .ok (.iload 4, 2) := by decide +kernel
theorem d_La_law_35 : decode c_La_law 35 = .ok (.iaload, 1) := by decide +kernel
theorem d_La_law_36 : decode c_La_law 36 = .ok (.bipush 31, 2) := by decide +kernel
theorem d_La_law_38 : decode c_La_law 38 = .ok (.iand, 1) := by decide +kernel
theorem d_La_law_39 : decode c_La_law 39 = .ok (.tableswitch 1074 0 16 #[81, 137, 193, 268, 336, 423, 503, 516, 596, 664, 720, 776, 801, 857, 925, 981, 1049], 81) := by decide +kernel
theorem d_La_law_120 : decode c_La_law 120 = .ok (.aload_n 1, 1) := by decide +kernel
theorem d_La_law_121 : decode c_La_law 121 = .ok (.aload_n 0, 1) := by decide +kernel
theorem d_La_law_122 : decode c_La_law 122 = .ok (.iload 4, 2) := by decide +kernel
theorem d_La_law_124 : decode c_La_law 124 = .ok (.iconst 1, 1) := by decide +kernel
theorem d_La_law_125 : decode c_La_law 125 = .ok (.iadd, 1) := by decide +kernel
theorem d_La_law_126 : decode c_La_law 126 = .ok (.iaload, 1) := by decide +kernel
theorem d_La_law_127 : decode c_La_law 127 = .ok (.aload_n 3, 1) := by decide +kernel
theorem d_La_law_128 : decode c_La_law 128 = .ok (.invokestatic 66, 3) := by decide +kernel
theorem d_La_law_131 : decode c_La_law 131 = .ok (.istore 5, 2) := by decide +kernel
theorem d_La_law_133 : decode c_La_law 133 = .ok (.aload_n 2, 1) := by decide +kernel
theorem d_La_law_134 : decode c_La_law 134 = .ok (.aload_n 0, 1) := by decide +kernel
theorem d_La_law_135 : decode c_La_law 135 = .ok (.iload 4, 2) := by decide +kernel
theorem d_La_law_137 : decode c_La_law 137 = .ok (.iconst 1, 1) := by decide +kernel
theorem d_La_law_138 : decode c_La_law 138 = .ok (.iadd, 1) := by decide +kernel
theorem d_La_law_139 : decode c_La_law 139 = .ok (.iaload, 1) := by decide +kernel
theorem d_La_law_140 : decode c_La_law 140 = .ok (.invokevirtual 71, 3) := by decide +kernel
theorem d_La_law_143 : decode c_La_law 143 = .ok (.istore 6, 2) := by decide +kernel
theorem d_La_law_145 : decode c_La_law 145 = .ok (.aload_n 2, 1) := by decide +kernel
theorem d_La_law_146 : decode c_La_law 146 = .ok (.invokevirtual 72, 3) := by decide +kernel
theorem d_La_law_149 : decode c_La_law 149 = .ok (.iload 5, 2) := by decide +kernel
theorem d_La_law_151 : decode c_La_law 151 = .ok (.if_icmp .eq 5, 3) := by decide +kernel
theorem d_La_law_154 : decode c_La_law 154 = .ok (.iconst 0, 1) := by decide +kernel
theorem d_La_law_155 : decode c_La_law 155 = .ok (.ireturn, 1) := by decide +kernel
theorem d_La_law_156 : decode c_La_law 156 = .ok (.iload 5, 2) := by decide +kernel
theorem d_La_law_158 : decode c_La_law 158 = .ok (.ifCond .ne 15, 3) := by decide +kernel
theorem d_La_law_161 : decode c_La_law 161 = .ok (.aload_n 3, 1) := by decide +kernel
theorem d_La_law_162 : decode c_La_law 162 = .ok (.iconst 0, 1) := by decide +kernel
theorem d_La_law_163 : decode c_La_law 163 = .ok (.laload, 1) := by decide +kernel
theorem d_La_law_164 : decode c_La_law 164 = .ok (.iload 6, 2) := by decide +kernel
theorem d_La_law_166 : decode c_La_law 166 = .ok (.i2l, 1) := by decide +kernel
theorem d_La_law_167 : decode c_La_law 167 = .ok (.lcmp, 1) := by decide +kernel
theorem d_La_law_168 : decode c_La_law 168 = .ok (.ifCond .eq 5, 3) := by decide +kernel
theorem d_La_law_171 : decode c_La_law 171 = .ok (.iconst 0, 1) := by decide +kernel
theorem d_La_law_172 : decode c_La_law 172 = .ok (.ireturn, 1) := by decide +kernel
theorem d_La_law_173 : decode c_La_law 173 = .ok (.goto 940, 3) := by decide +kernel
theorem d_La_law_176 : decode c_La_law 176 = .ok (.aload_n 1, 1) := by decide +kernel
theorem d_La_law_177 : decode c_La_law 177 = .ok (.aload_n 0, 1) := by decide +kernel
theorem d_La_law_178 : decode c_La_law 178 = .ok (.iload 4, 2) := by decide +kernel
theorem d_La_law_180 : decode c_La_law 180 = .ok (.iconst 1, 1) := by decide +kernel
theorem d_La_law_181 : decode c_La_law 181 = .ok (.iadd, 1) := by decide +kernel
theorem d_La_law_182 : decode c_La_law 182 = .ok (.iaload, 1) := by decide +kernel
theorem d_La_law_183 : decode c_La_law 183 = .ok (.aload_n 3, 1) := by decide +kernel
theorem d_La_law_184 : decode c_La_law 184 = .ok (.invokestatic 76, 3) := by decide +kernel
theorem d_La_law_187 : decode c_La_law 187 = .ok (.istore 5, 2) := by decide +kernel
theorem d_La_law_189 : decode c_La_law 189 = .ok (.aload_n 2, 1) := by decide +kernel
theorem d_La_law_190 : decode c_La_law 190 = .ok (.aload_n 0, 1) := by decide +kernel
theorem d_La_law_191 : decode c_La_law 191 = .ok (.iload 4, 2) := by decide +kernel
theorem d_La_law_193 : decode c_La_law 193 = .ok (.iconst 1, 1) := by decide +kernel
theorem d_La_law_194 : decode c_La_law 194 = .ok (.iadd, 1) := by decide +kernel
theorem d_La_law_195 : decode c_La_law 195 = .ok (.iaload, 1) := by decide +kernel
theorem d_La_law_196 : decode c_La_law 196 = .ok (.invokevirtual 78, 3) := by decide +kernel
theorem d_La_law_199 : decode c_La_law 199 = .ok (.istore 6, 2) := by decide +kernel
theorem d_La_law_201 : decode c_La_law 201 = .ok (.aload_n 2, 1) := by decide +kernel
theorem d_La_law_202 : decode c_La_law 202 = .ok (.invokevirtual 72, 3) := by decide +kernel
theorem d_La_law_205 : decode c_La_law 205 = .ok (.iload 5, 2) := by decide +kernel
theorem d_La_law_207 : decode c_La_law 207 = .ok (.if_icmp .eq 5, 3) := by decide +kernel
theorem d_La_law_210 : decode c_La_law 210 = .ok (.iconst 0, 1) := by decide +kernel
theorem d_La_law_211 : decode c_La_law 211 = .ok (.ireturn, 1) := by decide +kernel
theorem d_La_law_212 : decode c_La_law 212 = .ok (.iload 5, 2) := by decide +kernel
theorem d_La_law_214 : decode c_La_law 214 = .ok (.ifCond .ne 15, 3) := by decide +kernel
theorem d_La_law_217 : decode c_La_law 217 = .ok (.aload_n 3, 1) := by decide +kernel
theorem d_La_law_218 : decode c_La_law 218 = .ok (.iconst 0, 1) := by decide +kernel
theorem d_La_law_219 : decode c_La_law 219 = .ok (.laload, 1) := by decide +kernel
theorem d_La_law_220 : decode c_La_law 220 = .ok (.iload 6, 2) := by decide +kernel
theorem d_La_law_222 : decode c_La_law 222 = .ok (.i2l, 1) := by decide +kernel
theorem d_La_law_223 : decode c_La_law 223 = .ok (.lcmp, 1) := by decide +kernel
theorem d_La_law_224 : decode c_La_law 224 = .ok (.ifCond .eq 5, 3) := by decide +kernel
theorem d_La_law_227 : decode c_La_law 227 = .ok (.iconst 0, 1) := by decide +kernel
theorem d_La_law_228 : decode c_La_law 228 = .ok (.ireturn, 1) := by decide +kernel
theorem d_La_law_229 : decode c_La_law 229 = .ok (.goto 884, 3) := by decide +kernel
theorem d_La_law_232 : decode c_La_law 232 = .ok (.aload_n 1, 1) := by decide +kernel
theorem d_La_law_233 : decode c_La_law 233 = .ok (.aload_n 0, 1) := by decide +kernel
theorem d_La_law_234 : decode c_La_law 234 = .ok (.iload 4, 2) := by decide +kernel
theorem d_La_law_236 : decode c_La_law 236 = .ok (.iconst 1, 1) := by decide +kernel
theorem d_La_law_237 : decode c_La_law 237 = .ok (.iadd, 1) := by decide +kernel
theorem d_La_law_238 : decode c_La_law 238 = .ok (.iaload, 1) := by decide +kernel
theorem d_La_law_239 : decode c_La_law 239 = .ok (.aload_n 0, 1) := by decide +kernel
theorem d_La_law_240 : decode c_La_law 240 = .ok (.iload 4, 2) := by decide +kernel
theorem d_La_law_242 : decode c_La_law 242 = .ok (.iconst 2, 1) := by decide +kernel
theorem d_La_law_243 : decode c_La_law 243 = .ok (.iadd, 1) := by decide +kernel
theorem d_La_law_244 : decode c_La_law 244 = .ok (.iaload, 1) := by decide +kernel
theorem d_La_law_245 : decode c_La_law 245 = .ok (.aload_n 3, 1) := by decide +kernel
theorem d_La_law_246 : decode c_La_law 246 = .ok (.invokestatic 79, 3) := by decide +kernel
theorem d_La_law_249 : decode c_La_law 249 = .ok (.istore 5, 2) := by decide +kernel
theorem d_La_law_251 : decode c_La_law 251 = .ok (.aload_n 2, 1) := by decide +kernel
theorem d_La_law_252 : decode c_La_law 252 = .ok (.aload_n 0, 1) := by decide +kernel
theorem d_La_law_253 : decode c_La_law 253 = .ok (.iload 4, 2) := by decide +kernel
theorem d_La_law_255 : decode c_La_law 255 = .ok (.iconst 1, 1) := by decide +kernel
theorem d_La_law_256 : decode c_La_law 256 = .ok (.iadd, 1) := by decide +kernel
theorem d_La_law_257 : decode c_La_law 257 = .ok (.iaload, 1) := by decide +kernel
theorem d_La_law_258 : decode c_La_law 258 = .ok (.aload_n 0, 1) := by decide +kernel
theorem d_La_law_259 : decode c_La_law 259 = .ok (.iload 4, 2) := by decide +kernel
theorem d_La_law_261 : decode c_La_law 261 = .ok (.iconst 2, 1) := by decide +kernel
theorem d_La_law_262 : decode c_La_law 262 = .ok (.iadd, 1) := by decide +kernel
theorem d_La_law_263 : decode c_La_law 263 = .ok (.iaload, 1) := by decide +kernel
theorem d_La_law_264 : decode c_La_law 264 = .ok (.invokevirtual 82, 3) := by decide +kernel
theorem d_La_law_267 : decode c_La_law 267 = .ok (.istore 6, 2) := by decide +kernel
theorem d_La_law_269 : decode c_La_law 269 = .ok (.aload_n 2, 1) := by decide +kernel
theorem d_La_law_270 : decode c_La_law 270 = .ok (.invokevirtual 72, 3) := by decide +kernel
theorem d_La_law_273 : decode c_La_law 273 = .ok (.iload 5, 2) := by decide +kernel
theorem d_La_law_275 : decode c_La_law 275 = .ok (.if_icmp .eq 5, 3) := by decide +kernel
theorem d_La_law_278 : decode c_La_law 278 = .ok (.iconst 0, 1) := by decide +kernel
theorem d_La_law_279 : decode c_La_law 279 = .ok (.ireturn, 1) := by decide +kernel
theorem d_La_law_280 : decode c_La_law 280 = .ok (.iload 5, 2) := by decide +kernel
theorem d_La_law_282 : decode c_La_law 282 = .ok (.ifCond .ne 22, 3) := by decide +kernel
theorem d_La_law_285 : decode c_La_law 285 = .ok (.aload_n 3, 1) := by decide +kernel
theorem d_La_law_286 : decode c_La_law 286 = .ok (.iconst 0, 1) := by decide +kernel
theorem d_La_law_287 : decode c_La_law 287 = .ok (.laload, 1) := by decide +kernel
theorem d_La_law_288 : decode c_La_law 288 = .ok (.iload 6, 2) := by decide +kernel
theorem d_La_law_290 : decode c_La_law 290 = .ok (.ifCond .eq 7, 3) := by decide +kernel
theorem d_La_law_293 : decode c_La_law 293 = .ok (.lconst 1, 1) := by decide +kernel
theorem d_La_law_294 : decode c_La_law 294 = .ok (.goto 4, 3) := by decide +kernel
theorem d_La_law_297 : decode c_La_law 297 = .ok (.lconst 0, 1) := by decide +kernel
theorem d_La_law_298 : decode c_La_law 298 = .ok (.lcmp, 1) := by decide +kernel
theorem d_La_law_299 : decode c_La_law 299 = .ok (.ifCond .eq 5, 3) := by decide +kernel
theorem d_La_law_302 : decode c_La_law 302 = .ok (.iconst 0, 1) := by decide +kernel
theorem d_La_law_303 : decode c_La_law 303 = .ok (.ireturn, 1) := by decide +kernel
theorem d_La_law_304 : decode c_La_law 304 = .ok (.goto 809, 3) := by decide +kernel
theorem d_La_law_307 : decode c_La_law 307 = .ok (.aload_n 1, 1) := by decide +kernel
theorem d_La_law_308 : decode c_La_law 308 = .ok (.aload_n 0, 1) := by decide +kernel
theorem d_La_law_309 : decode c_La_law 309 = .ok (.iload 4, 2) := by decide +kernel
theorem d_La_law_311 : decode c_La_law 311 = .ok (.iconst 1, 1) := by decide +kernel
theorem d_La_law_312 : decode c_La_law 312 = .ok (.iadd, 1) := by decide +kernel
theorem d_La_law_313 : decode c_La_law 313 = .ok (.iaload, 1) := by decide +kernel
theorem d_La_law_314 : decode c_La_law 314 = .ok (.aload_n 0, 1) := by decide +kernel
theorem d_La_law_315 : decode c_La_law 315 = .ok (.iload 4, 2) := by decide +kernel
theorem d_La_law_317 : decode c_La_law 317 = .ok (.iconst 2, 1) := by decide +kernel
theorem d_La_law_318 : decode c_La_law 318 = .ok (.iadd, 1) := by decide +kernel
theorem d_La_law_319 : decode c_La_law 319 = .ok (.iaload, 1) := by decide +kernel
theorem d_La_law_320 : decode c_La_law 320 = .ok (.aload_n 3, 1) := by decide +kernel
theorem d_La_law_321 : decode c_La_law 321 = .ok (.invokestatic 83, 3) := by decide +kernel
theorem d_La_law_324 : decode c_La_law 324 = .ok (.istore 5, 2) := by decide +kernel
theorem d_La_law_326 : decode c_La_law 326 = .ok (.aload_n 2, 1) := by decide +kernel
theorem d_La_law_327 : decode c_La_law 327 = .ok (.aload_n 0, 1) := by decide +kernel
theorem d_La_law_328 : decode c_La_law 328 = .ok (.iload 4, 2) := by decide +kernel
theorem d_La_law_330 : decode c_La_law 330 = .ok (.iconst 1, 1) := by decide +kernel
theorem d_La_law_331 : decode c_La_law 331 = .ok (.iadd, 1) := by decide +kernel
theorem d_La_law_332 : decode c_La_law 332 = .ok (.iaload, 1) := by decide +kernel
theorem d_La_law_333 : decode c_La_law 333 = .ok (.aload_n 0, 1) := by decide +kernel
theorem d_La_law_334 : decode c_La_law 334 = .ok (.iload 4, 2) := by decide +kernel
theorem d_La_law_336 : decode c_La_law 336 = .ok (.iconst 2, 1) := by decide +kernel
theorem d_La_law_337 : decode c_La_law 337 = .ok (.iadd, 1) := by decide +kernel
theorem d_La_law_338 : decode c_La_law 338 = .ok (.iaload, 1) := by decide +kernel
theorem d_La_law_339 : decode c_La_law 339 = .ok (.invokevirtual 85, 3) := by decide +kernel
theorem d_La_law_342 : decode c_La_law 342 = .ok (.istore 6, 2) := by decide +kernel
theorem d_La_law_344 : decode c_La_law 344 = .ok (.aload_n 2, 1) := by decide +kernel
theorem d_La_law_345 : decode c_La_law 345 = .ok (.invokevirtual 72, 3) := by decide +kernel
theorem d_La_law_348 : decode c_La_law 348 = .ok (.iload 5, 2) := by decide +kernel
theorem d_La_law_350 : decode c_La_law 350 = .ok (.if_icmp .eq 5, 3) := by decide +kernel
theorem d_La_law_353 : decode c_La_law 353 = .ok (.iconst 0, 1) := by decide +kernel
theorem d_La_law_354 : decode c_La_law 354 = .ok (.ireturn, 1) := by decide +kernel
theorem d_La_law_355 : decode c_La_law 355 = .ok (.iload 5, 2) := by decide +kernel
theorem d_La_law_357 : decode c_La_law 357 = .ok (.ifCond .ne 15, 3) := by decide +kernel
theorem d_La_law_360 : decode c_La_law 360 = .ok (.aload_n 3, 1) := by decide +kernel
theorem d_La_law_361 : decode c_La_law 361 = .ok (.iconst 0, 1) := by decide +kernel
theorem d_La_law_362 : decode c_La_law 362 = .ok (.laload, 1) := by decide +kernel
theorem d_La_law_363 : decode c_La_law 363 = .ok (.iload 6, 2) := by decide +kernel
theorem d_La_law_365 : decode c_La_law 365 = .ok (.i2l, 1) := by decide +kernel
theorem d_La_law_366 : decode c_La_law 366 = .ok (.lcmp, 1) := by decide +kernel
theorem d_La_law_367 : decode c_La_law 367 = .ok (.ifCond .eq 5, 3) := by decide +kernel
theorem d_La_law_370 : decode c_La_law 370 = .ok (.iconst 0, 1) := by decide +kernel
theorem d_La_law_371 : decode c_La_law 371 = .ok (.ireturn, 1) := by decide +kernel
theorem d_La_law_372 : decode c_La_law 372 = .ok (.goto 741, 3) := by decide +kernel
theorem d_La_law_375 : decode c_La_law 375 = .ok (.aload_n 1, 1) := by decide +kernel
theorem d_La_law_376 : decode c_La_law 376 = .ok (.aload_n 0, 1) := by decide +kernel
theorem d_La_law_377 : decode c_La_law 377 = .ok (.iload 4, 2) := by decide +kernel
theorem d_La_law_379 : decode c_La_law 379 = .ok (.iconst 1, 1) := by decide +kernel
theorem d_La_law_380 : decode c_La_law 380 = .ok (.iadd, 1) := by decide +kernel
theorem d_La_law_381 : decode c_La_law 381 = .ok (.iaload, 1) := by decide +kernel
theorem d_La_law_382 : decode c_La_law 382 = .ok (.aload_n 0, 1) := by decide +kernel
theorem d_La_law_383 : decode c_La_law 383 = .ok (.iload 4, 2) := by decide +kernel
theorem d_La_law_385 : decode c_La_law 385 = .ok (.iconst 2, 1) := by decide +kernel
theorem d_La_law_386 : decode c_La_law 386 = .ok (.iadd, 1) := by decide +kernel
theorem d_La_law_387 : decode c_La_law 387 = .ok (.iaload, 1) := by decide +kernel
theorem d_La_law_388 : decode c_La_law 388 = .ok (.aload_n 0, 1) := by decide +kernel
theorem d_La_law_389 : decode c_La_law 389 = .ok (.iload 4, 2) := by decide +kernel
theorem d_La_law_391 : decode c_La_law 391 = .ok (.iconst 3, 1) := by decide +kernel
theorem d_La_law_392 : decode c_La_law 392 = .ok (.iadd, 1) := by decide +kernel
theorem d_La_law_393 : decode c_La_law 393 = .ok (.iaload, 1) := by decide +kernel
theorem d_La_law_394 : decode c_La_law 394 = .ok (.aload_n 3, 1) := by decide +kernel
theorem d_La_law_395 : decode c_La_law 395 = .ok (.invokestatic 86, 3) := by decide +kernel
theorem d_La_law_398 : decode c_La_law 398 = .ok (.istore 5, 2) := by decide +kernel
theorem d_La_law_400 : decode c_La_law 400 = .ok (.aload_n 2, 1) := by decide +kernel
theorem d_La_law_401 : decode c_La_law 401 = .ok (.aload_n 0, 1) := by decide +kernel
theorem d_La_law_402 : decode c_La_law 402 = .ok (.iload 4, 2) := by decide +kernel
theorem d_La_law_404 : decode c_La_law 404 = .ok (.iconst 1, 1) := by decide +kernel
theorem d_La_law_405 : decode c_La_law 405 = .ok (.iadd, 1) := by decide +kernel
theorem d_La_law_406 : decode c_La_law 406 = .ok (.iaload, 1) := by decide +kernel
theorem d_La_law_407 : decode c_La_law 407 = .ok (.aload_n 0, 1) := by decide +kernel
theorem d_La_law_408 : decode c_La_law 408 = .ok (.iload 4, 2) := by decide +kernel
theorem d_La_law_410 : decode c_La_law 410 = .ok (.iconst 2, 1) := by decide +kernel
theorem d_La_law_411 : decode c_La_law 411 = .ok (.iadd, 1) := by decide +kernel
theorem d_La_law_412 : decode c_La_law 412 = .ok (.iaload, 1) := by decide +kernel
theorem d_La_law_413 : decode c_La_law 413 = .ok (.aload_n 0, 1) := by decide +kernel
theorem d_La_law_414 : decode c_La_law 414 = .ok (.iload 4, 2) := by decide +kernel
theorem d_La_law_416 : decode c_La_law 416 = .ok (.iconst 3, 1) := by decide +kernel
theorem d_La_law_417 : decode c_La_law 417 = .ok (.iadd, 1) := by decide +kernel
theorem d_La_law_418 : decode c_La_law 418 = .ok (.iaload, 1) := by decide +kernel
theorem d_La_law_419 : decode c_La_law 419 = .ok (.invokevirtual 89, 3) := by decide +kernel
theorem d_La_law_422 : decode c_La_law 422 = .ok (.istore 6, 2) := by decide +kernel
theorem d_La_law_424 : decode c_La_law 424 = .ok (.aload_n 2, 1) := by decide +kernel
theorem d_La_law_425 : decode c_La_law 425 = .ok (.invokevirtual 72, 3) := by decide +kernel
theorem d_La_law_428 : decode c_La_law 428 = .ok (.iload 5, 2) := by decide +kernel
theorem d_La_law_430 : decode c_La_law 430 = .ok (.if_icmp .eq 5, 3) := by decide +kernel
theorem d_La_law_433 : decode c_La_law 433 = .ok (.iconst 0, 1) := by decide +kernel
theorem d_La_law_434 : decode c_La_law 434 = .ok (.ireturn, 1) := by decide +kernel
theorem d_La_law_435 : decode c_La_law 435 = .ok (.iload 5, 2) := by decide +kernel
theorem d_La_law_437 : decode c_La_law 437 = .ok (.ifCond .ne 22, 3) := by decide +kernel
theorem d_La_law_440 : decode c_La_law 440 = .ok (.aload_n 3, 1) := by decide +kernel
theorem d_La_law_441 : decode c_La_law 441 = .ok (.iconst 0, 1) := by decide +kernel
theorem d_La_law_442 : decode c_La_law 442 = .ok (.laload, 1) := by decide +kernel
theorem d_La_law_443 : decode c_La_law 443 = .ok (.iload 6, 2) := by decide +kernel
theorem d_La_law_445 : decode c_La_law 445 = .ok (.ifCond .eq 7, 3) := by decide +kernel
theorem d_La_law_448 : decode c_La_law 448 = .ok (.lconst 1, 1) := by decide +kernel
theorem d_La_law_449 : decode c_La_law 449 = .ok (.goto 4, 3) := by decide +kernel
theorem d_La_law_452 : decode c_La_law 452 = .ok (.lconst 0, 1) := by decide +kernel
theorem d_La_law_453 : decode c_La_law 453 = .ok (.lcmp, 1) := by decide +kernel
theorem d_La_law_454 : decode c_La_law 454 = .ok (.ifCond .eq 5, 3) := by decide +kernel
theorem d_La_law_457 : decode c_La_law 457 = .ok (.iconst 0, 1) := by decide +kernel
theorem d_La_law_458 : decode c_La_law 458 = .ok (.ireturn, 1) := by decide +kernel
theorem d_La_law_459 : decode c_La_law 459 = .ok (.goto 654, 3) := by decide +kernel
theorem d_La_law_462 : decode c_La_law 462 = .ok (.aload_n 1, 1) := by decide +kernel
theorem d_La_law_463 : decode c_La_law 463 = .ok (.aload_n 0, 1) := by decide +kernel
theorem d_La_law_464 : decode c_La_law 464 = .ok (.iload 4, 2) := by decide +kernel
theorem d_La_law_466 : decode c_La_law 466 = .ok (.iconst 1, 1) := by decide +kernel
theorem d_La_law_467 : decode c_La_law 467 = .ok (.iadd, 1) := by decide +kernel
theorem d_La_law_468 : decode c_La_law 468 = .ok (.iaload, 1) := by decide +kernel
theorem d_La_law_469 : decode c_La_law 469 = .ok (.aload_n 0, 1) := by decide +kernel
theorem d_La_law_470 : decode c_La_law 470 = .ok (.iload 4, 2) := by decide +kernel
theorem d_La_law_472 : decode c_La_law 472 = .ok (.iconst 2, 1) := by decide +kernel
theorem d_La_law_473 : decode c_La_law 473 = .ok (.iadd, 1) := by decide +kernel
theorem d_La_law_474 : decode c_La_law 474 = .ok (.iaload, 1) := by decide +kernel
theorem d_La_law_475 : decode c_La_law 475 = .ok (.aload_n 0, 1) := by decide +kernel
theorem d_La_law_476 : decode c_La_law 476 = .ok (.iload 4, 2) := by decide +kernel
theorem d_La_law_478 : decode c_La_law 478 = .ok (.iconst 3, 1) := by decide +kernel
theorem d_La_law_479 : decode c_La_law 479 = .ok (.iadd, 1) := by decide +kernel
theorem d_La_law_480 : decode c_La_law 480 = .ok (.iaload, 1) := by decide +kernel
theorem d_La_law_481 : decode c_La_law 481 = .ok (.aload_n 3, 1) := by decide +kernel
theorem d_La_law_482 : decode c_La_law 482 = .ok (.invokestatic 90, 3) := by decide +kernel
theorem d_La_law_485 : decode c_La_law 485 = .ok (.istore 5, 2) := by decide +kernel
theorem d_La_law_487 : decode c_La_law 487 = .ok (.aload_n 2, 1) := by decide +kernel
theorem d_La_law_488 : decode c_La_law 488 = .ok (.aload_n 0, 1) := by decide +kernel
theorem d_La_law_489 : decode c_La_law 489 = .ok (.iload 4, 2) := by decide +kernel
theorem d_La_law_491 : decode c_La_law 491 = .ok (.iconst 1, 1) := by decide +kernel
theorem d_La_law_492 : decode c_La_law 492 = .ok (.iadd, 1) := by decide +kernel
theorem d_La_law_493 : decode c_La_law 493 = .ok (.iaload, 1) := by decide +kernel
theorem d_La_law_494 : decode c_La_law 494 = .ok (.aload_n 0, 1) := by decide +kernel
theorem d_La_law_495 : decode c_La_law 495 = .ok (.iload 4, 2) := by decide +kernel
theorem d_La_law_497 : decode c_La_law 497 = .ok (.iconst 2, 1) := by decide +kernel
theorem d_La_law_498 : decode c_La_law 498 = .ok (.iadd, 1) := by decide +kernel
theorem d_La_law_499 : decode c_La_law 499 = .ok (.iaload, 1) := by decide +kernel
theorem d_La_law_500 : decode c_La_law 500 = .ok (.aload_n 0, 1) := by decide +kernel
theorem d_La_law_501 : decode c_La_law 501 = .ok (.iload 4, 2) := by decide +kernel
theorem d_La_law_503 : decode c_La_law 503 = .ok (.iconst 3, 1) := by decide +kernel
theorem d_La_law_504 : decode c_La_law 504 = .ok (.iadd, 1) := by decide +kernel
theorem d_La_law_505 : decode c_La_law 505 = .ok (.iaload, 1) := by decide +kernel
theorem d_La_law_506 : decode c_La_law 506 = .ok (.invokevirtual 92, 3) := by decide +kernel
theorem d_La_law_509 : decode c_La_law 509 = .ok (.istore 6, 2) := by decide +kernel
theorem d_La_law_511 : decode c_La_law 511 = .ok (.aload_n 2, 1) := by decide +kernel
theorem d_La_law_512 : decode c_La_law 512 = .ok (.invokevirtual 72, 3) := by decide +kernel
theorem d_La_law_515 : decode c_La_law 515 = .ok (.iload 5, 2) := by decide +kernel
theorem d_La_law_517 : decode c_La_law 517 = .ok (.if_icmp .eq 5, 3) := by decide +kernel
theorem d_La_law_520 : decode c_La_law 520 = .ok (.iconst 0, 1) := by decide +kernel
theorem d_La_law_521 : decode c_La_law 521 = .ok (.ireturn, 1) := by decide +kernel
theorem d_La_law_522 : decode c_La_law 522 = .ok (.iload 5, 2) := by decide +kernel
theorem d_La_law_524 : decode c_La_law 524 = .ok (.ifCond .ne 15, 3) := by decide +kernel
theorem d_La_law_527 : decode c_La_law 527 = .ok (.aload_n 3, 1) := by decide +kernel
theorem d_La_law_528 : decode c_La_law 528 = .ok (.iconst 0, 1) := by decide +kernel
theorem d_La_law_529 : decode c_La_law 529 = .ok (.laload, 1) := by decide +kernel
theorem d_La_law_530 : decode c_La_law 530 = .ok (.iload 6, 2) := by decide +kernel
theorem d_La_law_532 : decode c_La_law 532 = .ok (.i2l, 1) := by decide +kernel
theorem d_La_law_533 : decode c_La_law 533 = .ok (.lcmp, 1) := by decide +kernel
theorem d_La_law_534 : decode c_La_law 534 = .ok (.ifCond .eq 5, 3) := by decide +kernel
theorem d_La_law_537 : decode c_La_law 537 = .ok (.iconst 0, 1) := by decide +kernel
theorem d_La_law_538 : decode c_La_law 538 = .ok (.ireturn, 1) := by decide +kernel
theorem d_La_law_539 : decode c_La_law 539 = .ok (.goto 574, 3) := by decide +kernel
theorem d_La_law_542 : decode c_La_law 542 = .ok (.aload_n 1, 1) := by decide +kernel
theorem d_La_law_543 : decode c_La_law 543 = .ok (.invokevirtual 93, 3) := by decide +kernel
theorem d_La_law_546 : decode c_La_law 546 = .ok (.aload_n 2, 1) := by decide +kernel
theorem d_La_law_547 : decode c_La_law 547 = .ok (.invokevirtual 96, 3) := by decide +kernel
theorem d_La_law_550 : decode c_La_law 550 = .ok (.if_icmp .eq 563, 3) := by decide +kernel
theorem d_La_law_553 : decode c_La_law 553 = .ok (.iconst 0, 1) := by decide +kernel
theorem d_La_law_554 : decode c_La_law 554 = .ok (.ireturn, 1) := by decide +kernel
theorem d_La_law_555 : decode c_La_law 555 = .ok (.aload_n 1, 1) := by decide +kernel
theorem d_La_law_556 : decode c_La_law 556 = .ok (.aload_n 0, 1) := by decide +kernel
theorem d_La_law_557 : decode c_La_law 557 = .ok (.iload 4, 2) := by decide +kernel
theorem d_La_law_559 : decode c_La_law 559 = .ok (.iconst 1, 1) := by decide +kernel
theorem d_La_law_560 : decode c_La_law 560 = .ok (.iadd, 1) := by decide +kernel
theorem d_La_law_561 : decode c_La_law 561 = .ok (.iaload, 1) := by decide +kernel
theorem d_La_law_562 : decode c_La_law 562 = .ok (.aload_n 0, 1) := by decide +kernel
theorem d_La_law_563 : decode c_La_law 563 = .ok (.iload 4, 2) := by decide +kernel
theorem d_La_law_565 : decode c_La_law 565 = .ok (.iconst 2, 1) := by decide +kernel
theorem d_La_law_566 : decode c_La_law 566 = .ok (.iadd, 1) := by decide +kernel
theorem d_La_law_567 : decode c_La_law 567 = .ok (.iaload, 1) := by decide +kernel
theorem d_La_law_568 : decode c_La_law 568 = .ok (.aload_n 0, 1) := by decide +kernel
theorem d_La_law_569 : decode c_La_law 569 = .ok (.iload 4, 2) := by decide +kernel
theorem d_La_law_571 : decode c_La_law 571 = .ok (.iconst 3, 1) := by decide +kernel
theorem d_La_law_572 : decode c_La_law 572 = .ok (.iadd, 1) := by decide +kernel
theorem d_La_law_573 : decode c_La_law 573 = .ok (.iaload, 1) := by decide +kernel
theorem d_La_law_574 : decode c_La_law 574 = .ok (.aload_n 3, 1) := by decide +kernel
theorem d_La_law_575 : decode c_La_law 575 = .ok (.invokestatic 97, 3) := by decide +kernel
theorem d_La_law_578 : decode c_La_law 578 = .ok (.istore 5, 2) := by decide +kernel
theorem d_La_law_580 : decode c_La_law 580 = .ok (.aload_n 2, 1) := by decide +kernel
theorem d_La_law_581 : decode c_La_law 581 = .ok (.aload_n 0, 1) := by decide +kernel
theorem d_La_law_582 : decode c_La_law 582 = .ok (.iload 4, 2) := by decide +kernel
theorem d_La_law_584 : decode c_La_law 584 = .ok (.iconst 1, 1) := by decide +kernel
theorem d_La_law_585 : decode c_La_law 585 = .ok (.iadd, 1) := by decide +kernel
theorem d_La_law_586 : decode c_La_law 586 = .ok (.iaload, 1) := by decide +kernel
theorem d_La_law_587 : decode c_La_law 587 = .ok (.aload_n 0, 1) := by decide +kernel
theorem d_La_law_588 : decode c_La_law 588 = .ok (.iload 4, 2) := by decide +kernel
theorem d_La_law_590 : decode c_La_law 590 = .ok (.iconst 2, 1) := by decide +kernel
theorem d_La_law_591 : decode c_La_law 591 = .ok (.iadd, 1) := by decide +kernel
theorem d_La_law_592 : decode c_La_law 592 = .ok (.iaload, 1) := by decide +kernel
theorem d_La_law_593 : decode c_La_law 593 = .ok (.aload_n 0, 1) := by decide +kernel
theorem d_La_law_594 : decode c_La_law 594 = .ok (.iload 4, 2) := by decide +kernel
theorem d_La_law_596 : decode c_La_law 596 = .ok (.iconst 3, 1) := by decide +kernel
theorem d_La_law_597 : decode c_La_law 597 = .ok (.iadd, 1) := by decide +kernel
theorem d_La_law_598 : decode c_La_law 598 = .ok (.iaload, 1) := by decide +kernel
theorem d_La_law_599 : decode c_La_law 599 = .ok (.invokevirtual 99, 3) := by decide +kernel
theorem d_La_law_602 : decode c_La_law 602 = .ok (.istore 6, 2) := by decide +kernel
theorem d_La_law_604 : decode c_La_law 604 = .ok (.aload_n 2, 1) := by decide +kernel
theorem d_La_law_605 : decode c_La_law 605 = .ok (.invokevirtual 72, 3) := by decide +kernel
theorem d_La_law_608 : decode c_La_law 608 = .ok (.iload 5, 2) := by decide +kernel
theorem d_La_law_610 : decode c_La_law 610 = .ok (.if_icmp .eq 5, 3) := by decide +kernel
theorem d_La_law_613 : decode c_La_law 613 = .ok (.iconst 0, 1) := by decide +kernel
theorem d_La_law_614 : decode c_La_law 614 = .ok (.ireturn, 1) := by decide +kernel
theorem d_La_law_615 : decode c_La_law 615 = .ok (.iload 5, 2) := by decide +kernel
theorem d_La_law_617 : decode c_La_law 617 = .ok (.ifCond .ne 15, 3) := by decide +kernel
theorem d_La_law_620 : decode c_La_law 620 = .ok (.aload_n 3, 1) := by decide +kernel
theorem d_La_law_621 : decode c_La_law 621 = .ok (.iconst 0, 1) := by decide +kernel
theorem d_La_law_622 : decode c_La_law 622 = .ok (.laload, 1) := by decide +kernel
theorem d_La_law_623 : decode c_La_law 623 = .ok (.iload 6, 2) := by decide +kernel
theorem d_La_law_625 : decode c_La_law 625 = .ok (.i2l, 1) := by decide +kernel
theorem d_La_law_626 : decode c_La_law 626 = .ok (.lcmp, 1) := by decide +kernel
theorem d_La_law_627 : decode c_La_law 627 = .ok (.ifCond .eq 5, 3) := by decide +kernel
theorem d_La_law_630 : decode c_La_law 630 = .ok (.iconst 0, 1) := by decide +kernel
theorem d_La_law_631 : decode c_La_law 631 = .ok (.ireturn, 1) := by decide +kernel
theorem d_La_law_632 : decode c_La_law 632 = .ok (.goto 481, 3) := by decide +kernel
theorem d_La_law_635 : decode c_La_law 635 = .ok (.aload_n 1, 1) := by decide +kernel
theorem d_La_law_636 : decode c_La_law 636 = .ok (.aload_n 0, 1) := by decide +kernel
theorem d_La_law_637 : decode c_La_law 637 = .ok (.iload 4, 2) := by decide +kernel
theorem d_La_law_639 : decode c_La_law 639 = .ok (.iconst 1, 1) := by decide +kernel
theorem d_La_law_640 : decode c_La_law 640 = .ok (.iadd, 1) := by decide +kernel
theorem d_La_law_641 : decode c_La_law 641 = .ok (.iaload, 1) := by decide +kernel
theorem d_La_law_642 : decode c_La_law 642 = .ok (.aload_n 0, 1) := by decide +kernel
theorem d_La_law_643 : decode c_La_law 643 = .ok (.iload 4, 2) := by decide +kernel
theorem d_La_law_645 : decode c_La_law 645 = .ok (.iconst 2, 1) := by decide +kernel
theorem d_La_law_646 : decode c_La_law 646 = .ok (.iadd, 1) := by decide +kernel
theorem d_La_law_647 : decode c_La_law 647 = .ok (.iaload, 1) := by decide +kernel
theorem d_La_law_648 : decode c_La_law 648 = .ok (.aload_n 3, 1) := by decide +kernel
theorem d_La_law_649 : decode c_La_law 649 = .ok (.invokestatic 100, 3) := by decide +kernel
theorem d_La_law_652 : decode c_La_law 652 = .ok (.istore 5, 2) := by decide +kernel
theorem d_La_law_654 : decode c_La_law 654 = .ok (.aload_n 2, 1) := by decide +kernel
theorem d_La_law_655 : decode c_La_law 655 = .ok (.aload_n 0, 1) := by decide +kernel
theorem d_La_law_656 : decode c_La_law 656 = .ok (.iload 4, 2) := by decide +kernel
theorem d_La_law_658 : decode c_La_law 658 = .ok (.iconst 1, 1) := by decide +kernel
theorem d_La_law_659 : decode c_La_law 659 = .ok (.iadd, 1) := by decide +kernel
theorem d_La_law_660 : decode c_La_law 660 = .ok (.iaload, 1) := by decide +kernel
theorem d_La_law_661 : decode c_La_law 661 = .ok (.aload_n 0, 1) := by decide +kernel
theorem d_La_law_662 : decode c_La_law 662 = .ok (.iload 4, 2) := by decide +kernel
theorem d_La_law_664 : decode c_La_law 664 = .ok (.iconst 2, 1) := by decide +kernel
theorem d_La_law_665 : decode c_La_law 665 = .ok (.iadd, 1) := by decide +kernel
theorem d_La_law_666 : decode c_La_law 666 = .ok (.iaload, 1) := by decide +kernel
theorem d_La_law_667 : decode c_La_law 667 = .ok (.invokevirtual 102, 3) := by decide +kernel
theorem d_La_law_670 : decode c_La_law 670 = .ok (.istore 6, 2) := by decide +kernel
theorem d_La_law_672 : decode c_La_law 672 = .ok (.aload_n 2, 1) := by decide +kernel
theorem d_La_law_673 : decode c_La_law 673 = .ok (.invokevirtual 72, 3) := by decide +kernel
theorem d_La_law_676 : decode c_La_law 676 = .ok (.iload 5, 2) := by decide +kernel
theorem d_La_law_678 : decode c_La_law 678 = .ok (.if_icmp .eq 5, 3) := by decide +kernel
theorem d_La_law_681 : decode c_La_law 681 = .ok (.iconst 0, 1) := by decide +kernel
theorem d_La_law_682 : decode c_La_law 682 = .ok (.ireturn, 1) := by decide +kernel
theorem d_La_law_683 : decode c_La_law 683 = .ok (.iload 5, 2) := by decide +kernel
theorem d_La_law_685 : decode c_La_law 685 = .ok (.ifCond .ne 15, 3) := by decide +kernel
theorem d_La_law_688 : decode c_La_law 688 = .ok (.aload_n 3, 1) := by decide +kernel
theorem d_La_law_689 : decode c_La_law 689 = .ok (.iconst 0, 1) := by decide +kernel
theorem d_La_law_690 : decode c_La_law 690 = .ok (.laload, 1) := by decide +kernel
theorem d_La_law_691 : decode c_La_law 691 = .ok (.iload 6, 2) := by decide +kernel
theorem d_La_law_693 : decode c_La_law 693 = .ok (.i2l, 1) := by decide +kernel
theorem d_La_law_694 : decode c_La_law 694 = .ok (.lcmp, 1) := by decide +kernel
theorem d_La_law_695 : decode c_La_law 695 = .ok (.ifCond .eq 5, 3) := by decide +kernel
theorem d_La_law_698 : decode c_La_law 698 = .ok (.iconst 0, 1) := by decide +kernel
theorem d_La_law_699 : decode c_La_law 699 = .ok (.ireturn, 1) := by decide +kernel
theorem d_La_law_700 : decode c_La_law 700 = .ok (.goto 413, 3) := by decide +kernel
theorem d_La_law_703 : decode c_La_law 703 = .ok (.aload_n 1, 1) := by decide +kernel
theorem d_La_law_704 : decode c_La_law 704 = .ok (.aload_n 0, 1) := by decide +kernel
theorem d_La_law_705 : decode c_La_law 705 = .ok (.iload 4, 2) := by decide +kernel
theorem d_La_law_707 : decode c_La_law 707 = .ok (.iconst 1, 1) := by decide +kernel
theorem d_La_law_708 : decode c_La_law 708 = .ok (.iadd, 1) := by decide +kernel
theorem d_La_law_709 : decode c_La_law 709 = .ok (.iaload, 1) := by decide +kernel
theorem d_La_law_710 : decode c_La_law 710 = .ok (.aload_n 3, 1) := by decide +kernel
theorem d_La_law_711 : decode c_La_law 711 = .ok (.invokestatic 103, 3) := by decide +kernel
theorem d_La_law_714 : decode c_La_law 714 = .ok (.istore 5, 2) := by decide +kernel
theorem d_La_law_716 : decode c_La_law 716 = .ok (.aload_n 2, 1) := by decide +kernel
theorem d_La_law_717 : decode c_La_law 717 = .ok (.aload_n 0, 1) := by decide +kernel
theorem d_La_law_718 : decode c_La_law 718 = .ok (.iload 4, 2) := by decide +kernel
theorem d_La_law_720 : decode c_La_law 720 = .ok (.iconst 1, 1) := by decide +kernel
theorem d_La_law_721 : decode c_La_law 721 = .ok (.iadd, 1) := by decide +kernel
theorem d_La_law_722 : decode c_La_law 722 = .ok (.iaload, 1) := by decide +kernel
theorem d_La_law_723 : decode c_La_law 723 = .ok (.invokevirtual 105, 3) := by decide +kernel
theorem d_La_law_726 : decode c_La_law 726 = .ok (.istore 6, 2) := by decide +kernel
theorem d_La_law_728 : decode c_La_law 728 = .ok (.aload_n 2, 1) := by decide +kernel
theorem d_La_law_729 : decode c_La_law 729 = .ok (.invokevirtual 72, 3) := by decide +kernel
theorem d_La_law_732 : decode c_La_law 732 = .ok (.iload 5, 2) := by decide +kernel
theorem d_La_law_734 : decode c_La_law 734 = .ok (.if_icmp .eq 5, 3) := by decide +kernel
theorem d_La_law_737 : decode c_La_law 737 = .ok (.iconst 0, 1) := by decide +kernel
theorem d_La_law_738 : decode c_La_law 738 = .ok (.ireturn, 1) := by decide +kernel
theorem d_La_law_739 : decode c_La_law 739 = .ok (.iload 5, 2) := by decide +kernel
theorem d_La_law_741 : decode c_La_law 741 = .ok (.ifCond .ne 15, 3) := by decide +kernel
theorem d_La_law_744 : decode c_La_law 744 = .ok (.aload_n 3, 1) := by decide +kernel
theorem d_La_law_745 : decode c_La_law 745 = .ok (.iconst 0, 1) := by decide +kernel
theorem d_La_law_746 : decode c_La_law 746 = .ok (.laload, 1) := by decide +kernel
theorem d_La_law_747 : decode c_La_law 747 = .ok (.iload 6, 2) := by decide +kernel
theorem d_La_law_749 : decode c_La_law 749 = .ok (.i2l, 1) := by decide +kernel
theorem d_La_law_750 : decode c_La_law 750 = .ok (.lcmp, 1) := by decide +kernel
theorem d_La_law_751 : decode c_La_law 751 = .ok (.ifCond .eq 5, 3) := by decide +kernel
theorem d_La_law_754 : decode c_La_law 754 = .ok (.iconst 0, 1) := by decide +kernel
theorem d_La_law_755 : decode c_La_law 755 = .ok (.ireturn, 1) := by decide +kernel
theorem d_La_law_756 : decode c_La_law 756 = .ok (.goto 357, 3) := by decide +kernel
theorem d_La_law_759 : decode c_La_law 759 = .ok (.aload_n 1, 1) := by decide +kernel
theorem d_La_law_760 : decode c_La_law 760 = .ok (.aload_n 0, 1) := by decide +kernel
theorem d_La_law_761 : decode c_La_law 761 = .ok (.iload 4, 2) := by decide +kernel
theorem d_La_law_763 : decode c_La_law 763 = .ok (.iconst 1, 1) := by decide +kernel
theorem d_La_law_764 : decode c_La_law 764 = .ok (.iadd, 1) := by decide +kernel
theorem d_La_law_765 : decode c_La_law 765 = .ok (.iaload, 1) := by decide +kernel
theorem d_La_law_766 : decode c_La_law 766 = .ok (.aload_n 3, 1) := by decide +kernel
theorem d_La_law_767 : decode c_La_law 767 = .ok (.invokestatic 106, 3) := by decide +kernel
theorem d_La_law_770 : decode c_La_law 770 = .ok (.istore 5, 2) := by decide +kernel
theorem d_La_law_772 : decode c_La_law 772 = .ok (.aload_n 2, 1) := by decide +kernel
theorem d_La_law_773 : decode c_La_law 773 = .ok (.aload_n 0, 1) := by decide +kernel
theorem d_La_law_774 : decode c_La_law 774 = .ok (.iload 4, 2) := by decide +kernel
theorem d_La_law_776 : decode c_La_law 776 = .ok (.iconst 1, 1) := by decide +kernel
theorem d_La_law_777 : decode c_La_law 777 = .ok (.iadd, 1) := by decide +kernel
theorem d_La_law_778 : decode c_La_law 778 = .ok (.iaload, 1) := by decide +kernel
theorem d_La_law_779 : decode c_La_law 779 = .ok (.invokevirtual 108, 3) := by decide +kernel
theorem d_La_law_782 : decode c_La_law 782 = .ok (.istore 6, 2) := by decide +kernel
theorem d_La_law_784 : decode c_La_law 784 = .ok (.aload_n 2, 1) := by decide +kernel
theorem d_La_law_785 : decode c_La_law 785 = .ok (.invokevirtual 72, 3) := by decide +kernel
theorem d_La_law_788 : decode c_La_law 788 = .ok (.iload 5, 2) := by decide +kernel
theorem d_La_law_790 : decode c_La_law 790 = .ok (.if_icmp .eq 5, 3) := by decide +kernel
theorem d_La_law_793 : decode c_La_law 793 = .ok (.iconst 0, 1) := by decide +kernel
theorem d_La_law_794 : decode c_La_law 794 = .ok (.ireturn, 1) := by decide +kernel
theorem d_La_law_795 : decode c_La_law 795 = .ok (.iload 5, 2) := by decide +kernel
theorem d_La_law_797 : decode c_La_law 797 = .ok (.ifCond .ne 15, 3) := by decide +kernel
theorem d_La_law_800 : decode c_La_law 800 = .ok (.aload_n 3, 1) := by decide +kernel
theorem d_La_law_801 : decode c_La_law 801 = .ok (.iconst 0, 1) := by decide +kernel
theorem d_La_law_802 : decode c_La_law 802 = .ok (.laload, 1) := by decide +kernel
theorem d_La_law_803 : decode c_La_law 803 = .ok (.iload 6, 2) := by decide +kernel
theorem d_La_law_805 : decode c_La_law 805 = .ok (.i2l, 1) := by decide +kernel
theorem d_La_law_806 : decode c_La_law 806 = .ok (.lcmp, 1) := by decide +kernel
theorem d_La_law_807 : decode c_La_law 807 = .ok (.ifCond .eq 5, 3) := by decide +kernel
theorem d_La_law_810 : decode c_La_law 810 = .ok (.iconst 0, 1) := by decide +kernel
theorem d_La_law_811 : decode c_La_law 811 = .ok (.ireturn, 1) := by decide +kernel
theorem d_La_law_812 : decode c_La_law 812 = .ok (.goto 301, 3) := by decide +kernel
theorem d_La_law_815 : decode c_La_law 815 = .ok (.aload_n 1, 1) := by decide +kernel
theorem d_La_law_816 : decode c_La_law 816 = .ok (.aload_n 0, 1) := by decide +kernel
theorem d_La_law_817 : decode c_La_law 817 = .ok (.iload 4, 2) := by decide +kernel
theorem d_La_law_819 : decode c_La_law 819 = .ok (.iconst 1, 1) := by decide +kernel
theorem d_La_law_820 : decode c_La_law 820 = .ok (.iadd, 1) := by decide +kernel
theorem d_La_law_821 : decode c_La_law 821 = .ok (.iaload, 1) := by decide +kernel
theorem d_La_law_822 : decode c_La_law 822 = .ok (.invokevirtual 109, 3) := by decide +kernel
theorem d_La_law_825 : decode c_La_law 825 = .ok (.aload_n 2, 1) := by decide +kernel
theorem d_La_law_826 : decode c_La_law 826 = .ok (.aload_n 0, 1) := by decide +kernel
theorem d_La_law_827 : decode c_La_law 827 = .ok (.iload 4, 2) := by decide +kernel
theorem d_La_law_829 : decode c_La_law 829 = .ok (.iconst 1, 1) := by decide +kernel
theorem d_La_law_830 : decode c_La_law 830 = .ok (.iadd, 1) := by decide +kernel
theorem d_La_law_831 : decode c_La_law 831 = .ok (.iaload, 1) := by decide +kernel
theorem d_La_law_832 : decode c_La_law 832 = .ok (.invokevirtual 112, 3) := by decide +kernel
theorem d_La_law_835 : decode c_La_law 835 = .ok (.if_icmp .eq 278, 3) := by decide +kernel
theorem d_La_law_838 : decode c_La_law 838 = .ok (.iconst 0, 1) := by decide +kernel
theorem d_La_law_839 : decode c_La_law 839 = .ok (.ireturn, 1) := by decide +kernel
theorem d_La_law_840 : decode c_La_law 840 = .ok (.aload_n 1, 1) := by decide +kernel
theorem d_La_law_841 : decode c_La_law 841 = .ok (.aload_n 0, 1) := by decide +kernel
theorem d_La_law_842 : decode c_La_law 842 = .ok (.iload 4, 2) := by decide +kernel
theorem d_La_law_844 : decode c_La_law 844 = .ok (.iconst 1, 1) := by decide +kernel
theorem d_La_law_845 : decode c_La_law 845 = .ok (.iadd, 1) := by decide +kernel
theorem d_La_law_846 : decode c_La_law 846 = .ok (.iaload, 1) := by decide +kernel
theorem d_La_law_847 : decode c_La_law 847 = .ok (.aload_n 3, 1) := by decide +kernel
theorem d_La_law_848 : decode c_La_law 848 = .ok (.invokestatic 113, 3) := by decide +kernel
theorem d_La_law_851 : decode c_La_law 851 = .ok (.istore 5, 2) := by decide +kernel
theorem d_La_law_853 : decode c_La_law 853 = .ok (.aload_n 2, 1) := by decide +kernel
theorem d_La_law_854 : decode c_La_law 854 = .ok (.aload_n 0, 1) := by decide +kernel
theorem d_La_law_855 : decode c_La_law 855 = .ok (.iload 4, 2) := by decide +kernel
theorem d_La_law_857 : decode c_La_law 857 = .ok (.iconst 1, 1) := by decide +kernel
theorem d_La_law_858 : decode c_La_law 858 = .ok (.iadd, 1) := by decide +kernel
theorem d_La_law_859 : decode c_La_law 859 = .ok (.iaload, 1) := by decide +kernel
theorem d_La_law_860 : decode c_La_law 860 = .ok (.invokevirtual 115, 3) := by decide +kernel
theorem d_La_law_863 : decode c_La_law 863 = .ok (.istore 6, 2) := by decide +kernel
theorem d_La_law_865 : decode c_La_law 865 = .ok (.aload_n 2, 1) := by decide +kernel
theorem d_La_law_866 : decode c_La_law 866 = .ok (.invokevirtual 72, 3) := by decide +kernel
theorem d_La_law_869 : decode c_La_law 869 = .ok (.iload 5, 2) := by decide +kernel
theorem d_La_law_871 : decode c_La_law 871 = .ok (.if_icmp .eq 5, 3) := by decide +kernel
theorem d_La_law_874 : decode c_La_law 874 = .ok (.iconst 0, 1) := by decide +kernel
theorem d_La_law_875 : decode c_La_law 875 = .ok (.ireturn, 1) := by decide +kernel
theorem d_La_law_876 : decode c_La_law 876 = .ok (.iload 5, 2) := by decide +kernel
theorem d_La_law_878 : decode c_La_law 878 = .ok (.ifCond .ne 15, 3) := by decide +kernel
theorem d_La_law_881 : decode c_La_law 881 = .ok (.aload_n 3, 1) := by decide +kernel
theorem d_La_law_882 : decode c_La_law 882 = .ok (.iconst 0, 1) := by decide +kernel
theorem d_La_law_883 : decode c_La_law 883 = .ok (.laload, 1) := by decide +kernel
theorem d_La_law_884 : decode c_La_law 884 = .ok (.iload 6, 2) := by decide +kernel
theorem d_La_law_886 : decode c_La_law 886 = .ok (.i2l, 1) := by decide +kernel
theorem d_La_law_887 : decode c_La_law 887 = .ok (.lcmp, 1) := by decide +kernel
theorem d_La_law_888 : decode c_La_law 888 = .ok (.ifCond .eq 5, 3) := by decide +kernel
theorem d_La_law_891 : decode c_La_law 891 = .ok (.iconst 0, 1) := by decide +kernel
theorem d_La_law_892 : decode c_La_law 892 = .ok (.ireturn, 1) := by decide +kernel
theorem d_La_law_893 : decode c_La_law 893 = .ok (.goto 220, 3) := by decide +kernel
theorem d_La_law_896 : decode c_La_law 896 = .ok (.aload_n 1, 1) := by decide +kernel
theorem d_La_law_897 : decode c_La_law 897 = .ok (.aload_n 0, 1) := by decide +kernel
theorem d_La_law_898 : decode c_La_law 898 = .ok (.iload 4, 2) := by decide +kernel
theorem d_La_law_900 : decode c_La_law 900 = .ok (.iconst 1, 1) := by decide +kernel
theorem d_La_law_901 : decode c_La_law 901 = .ok (.iadd, 1) := by decide +kernel
theorem d_La_law_902 : decode c_La_law 902 = .ok (.iaload, 1) := by decide +kernel
theorem d_La_law_903 : decode c_La_law 903 = .ok (.aload_n 0, 1) := by decide +kernel
theorem d_La_law_904 : decode c_La_law 904 = .ok (.iload 4, 2) := by decide +kernel
theorem d_La_law_906 : decode c_La_law 906 = .ok (.iconst 2, 1) := by decide +kernel
theorem d_La_law_907 : decode c_La_law 907 = .ok (.iadd, 1) := by decide +kernel
theorem d_La_law_908 : decode c_La_law 908 = .ok (.iaload, 1) := by decide +kernel
theorem d_La_law_909 : decode c_La_law 909 = .ok (.aload_n 3, 1) := by decide +kernel
theorem d_La_law_910 : decode c_La_law 910 = .ok (.invokestatic 116, 3) := by decide +kernel
theorem d_La_law_913 : decode c_La_law 913 = .ok (.istore 5, 2) := by decide +kernel
theorem d_La_law_915 : decode c_La_law 915 = .ok (.aload_n 2, 1) := by decide +kernel
theorem d_La_law_916 : decode c_La_law 916 = .ok (.aload_n 0, 1) := by decide +kernel
theorem d_La_law_917 : decode c_La_law 917 = .ok (.iload 4, 2) := by decide +kernel
theorem d_La_law_919 : decode c_La_law 919 = .ok (.iconst 1, 1) := by decide +kernel
theorem d_La_law_920 : decode c_La_law 920 = .ok (.iadd, 1) := by decide +kernel
theorem d_La_law_921 : decode c_La_law 921 = .ok (.iaload, 1) := by decide +kernel
theorem d_La_law_922 : decode c_La_law 922 = .ok (.aload_n 0, 1) := by decide +kernel
theorem d_La_law_923 : decode c_La_law 923 = .ok (.iload 4, 2) := by decide +kernel
theorem d_La_law_925 : decode c_La_law 925 = .ok (.iconst 2, 1) := by decide +kernel
theorem d_La_law_926 : decode c_La_law 926 = .ok (.iadd, 1) := by decide +kernel
theorem d_La_law_927 : decode c_La_law 927 = .ok (.iaload, 1) := by decide +kernel
theorem d_La_law_928 : decode c_La_law 928 = .ok (.invokevirtual 118, 3) := by decide +kernel
theorem d_La_law_931 : decode c_La_law 931 = .ok (.istore 6, 2) := by decide +kernel
theorem d_La_law_933 : decode c_La_law 933 = .ok (.aload_n 2, 1) := by decide +kernel
theorem d_La_law_934 : decode c_La_law 934 = .ok (.invokevirtual 72, 3) := by decide +kernel
theorem d_La_law_937 : decode c_La_law 937 = .ok (.iload 5, 2) := by decide +kernel
theorem d_La_law_939 : decode c_La_law 939 = .ok (.if_icmp .eq 5, 3) := by decide +kernel
theorem d_La_law_942 : decode c_La_law 942 = .ok (.iconst 0, 1) := by decide +kernel
theorem d_La_law_943 : decode c_La_law 943 = .ok (.ireturn, 1) := by decide +kernel
theorem d_La_law_944 : decode c_La_law 944 = .ok (.iload 5, 2) := by decide +kernel
theorem d_La_law_946 : decode c_La_law 946 = .ok (.ifCond .ne 15, 3) := by decide +kernel
theorem d_La_law_949 : decode c_La_law 949 = .ok (.aload_n 3, 1) := by decide +kernel
theorem d_La_law_950 : decode c_La_law 950 = .ok (.iconst 0, 1) := by decide +kernel
theorem d_La_law_951 : decode c_La_law 951 = .ok (.laload, 1) := by decide +kernel
theorem d_La_law_952 : decode c_La_law 952 = .ok (.iload 6, 2) := by decide +kernel
theorem d_La_law_954 : decode c_La_law 954 = .ok (.i2l, 1) := by decide +kernel
theorem d_La_law_955 : decode c_La_law 955 = .ok (.lcmp, 1) := by decide +kernel
theorem d_La_law_956 : decode c_La_law 956 = .ok (.ifCond .eq 5, 3) := by decide +kernel
theorem d_La_law_959 : decode c_La_law 959 = .ok (.iconst 0, 1) := by decide +kernel
theorem d_La_law_960 : decode c_La_law 960 = .ok (.ireturn, 1) := by decide +kernel
theorem d_La_law_961 : decode c_La_law 961 = .ok (.goto 152, 3) := by decide +kernel
theorem d_La_law_964 : decode c_La_law 964 = .ok (.aload_n 1, 1) := by decide +kernel
theorem d_La_law_965 : decode c_La_law 965 = .ok (.aload_n 0, 1) := by decide +kernel
theorem d_La_law_966 : decode c_La_law 966 = .ok (.iload 4, 2) := by decide +kernel
theorem d_La_law_968 : decode c_La_law 968 = .ok (.iconst 1, 1) := by decide +kernel
theorem d_La_law_969 : decode c_La_law 969 = .ok (.iadd, 1) := by decide +kernel
theorem d_La_law_970 : decode c_La_law 970 = .ok (.iaload, 1) := by decide +kernel
theorem d_La_law_971 : decode c_La_law 971 = .ok (.aload_n 3, 1) := by decide +kernel
theorem d_La_law_972 : decode c_La_law 972 = .ok (.invokestatic 119, 3) := by decide +kernel
theorem d_La_law_975 : decode c_La_law 975 = .ok (.istore 5, 2) := by decide +kernel
theorem d_La_law_977 : decode c_La_law 977 = .ok (.aload_n 2, 1) := by decide +kernel
theorem d_La_law_978 : decode c_La_law 978 = .ok (.aload_n 0, 1) := by decide +kernel
theorem d_La_law_979 : decode c_La_law 979 = .ok (.iload 4, 2) := by decide +kernel
theorem d_La_law_981 : decode c_La_law 981 = .ok (.iconst 1, 1) := by decide +kernel
theorem d_La_law_982 : decode c_La_law 982 = .ok (.iadd, 1) := by decide +kernel
theorem d_La_law_983 : decode c_La_law 983 = .ok (.iaload, 1) := by decide +kernel
theorem d_La_law_984 : decode c_La_law 984 = .ok (.invokevirtual 121, 3) := by decide +kernel
theorem d_La_law_987 : decode c_La_law 987 = .ok (.istore 6, 2) := by decide +kernel
theorem d_La_law_989 : decode c_La_law 989 = .ok (.aload_n 2, 1) := by decide +kernel
theorem d_La_law_990 : decode c_La_law 990 = .ok (.invokevirtual 72, 3) := by decide +kernel
theorem d_La_law_993 : decode c_La_law 993 = .ok (.iload 5, 2) := by decide +kernel
theorem d_La_law_995 : decode c_La_law 995 = .ok (.if_icmp .eq 5, 3) := by decide +kernel
theorem d_La_law_998 : decode c_La_law 998 = .ok (.iconst 0, 1) := by decide +kernel
theorem d_La_law_999 : decode c_La_law 999 = .ok (.ireturn, 1) := by decide +kernel
theorem d_La_law_1000 : decode c_La_law 1000 = .ok (.iload 5, 2) := by decide +kernel
theorem d_La_law_1002 : decode c_La_law 1002 = .ok (.ifCond .ne 15, 3) := by decide +kernel
theorem d_La_law_1005 : decode c_La_law 1005 = .ok (.aload_n 3, 1) := by decide +kernel
theorem d_La_law_1006 : decode c_La_law 1006 = .ok (.iconst 0, 1) := by decide +kernel
theorem d_La_law_1007 : decode c_La_law 1007 = .ok (.laload, 1) := by decide +kernel
theorem d_La_law_1008 : decode c_La_law 1008 = .ok (.iload 6, 2) := by decide +kernel
theorem d_La_law_1010 : decode c_La_law 1010 = .ok (.i2l, 1) := by decide +kernel
theorem d_La_law_1011 : decode c_La_law 1011 = .ok (.lcmp, 1) := by decide +kernel
theorem d_La_law_1012 : decode c_La_law 1012 = .ok (.ifCond .eq 5, 3) := by decide +kernel
theorem d_La_law_1015 : decode c_La_law 1015 = .ok (.iconst 0, 1) := by decide +kernel
theorem d_La_law_1016 : decode c_La_law 1016 = .ok (.ireturn, 1) := by decide +kernel
theorem d_La_law_1017 : decode c_La_law 1017 = .ok (.goto 96, 3) := by decide +kernel
theorem d_La_law_1020 : decode c_La_law 1020 = .ok (.aload_n 1, 1) := by decide +kernel
theorem d_La_law_1021 : decode c_La_law 1021 = .ok (.aload_n 0, 1) := by decide +kernel
theorem d_La_law_1022 : decode c_La_law 1022 = .ok (.iload 4, 2) := by decide +kernel
theorem d_La_law_1024 : decode c_La_law 1024 = .ok (.iconst 1, 1) := by decide +kernel
theorem d_La_law_1025 : decode c_La_law 1025 = .ok (.iadd, 1) := by decide +kernel
theorem d_La_law_1026 : decode c_La_law 1026 = .ok (.iaload, 1) := by decide +kernel
theorem d_La_law_1027 : decode c_La_law 1027 = .ok (.aload_n 0, 1) := by decide +kernel
theorem d_La_law_1028 : decode c_La_law 1028 = .ok (.iload 4, 2) := by decide +kernel
theorem d_La_law_1030 : decode c_La_law 1030 = .ok (.iconst 2, 1) := by decide +kernel
theorem d_La_law_1031 : decode c_La_law 1031 = .ok (.iadd, 1) := by decide +kernel
theorem d_La_law_1032 : decode c_La_law 1032 = .ok (.iaload, 1) := by decide +kernel
theorem d_La_law_1033 : decode c_La_law 1033 = .ok (.aload_n 3, 1) := by decide +kernel
theorem d_La_law_1034 : decode c_La_law 1034 = .ok (.invokestatic 122, 3) := by decide +kernel
theorem d_La_law_1037 : decode c_La_law 1037 = .ok (.istore 5, 2) := by decide +kernel
theorem d_La_law_1039 : decode c_La_law 1039 = .ok (.aload_n 2, 1) := by decide +kernel
theorem d_La_law_1040 : decode c_La_law 1040 = .ok (.aload_n 0, 1) := by decide +kernel
theorem d_La_law_1041 : decode c_La_law 1041 = .ok (.iload 4, 2) := by decide +kernel
theorem d_La_law_1043 : decode c_La_law 1043 = .ok (.iconst 1, 1) := by decide +kernel
theorem d_La_law_1044 : decode c_La_law 1044 = .ok (.iadd, 1) := by decide +kernel
theorem d_La_law_1045 : decode c_La_law 1045 = .ok (.iaload, 1) := by decide +kernel
theorem d_La_law_1046 : decode c_La_law 1046 = .ok (.aload_n 0, 1) := by decide +kernel
theorem d_La_law_1047 : decode c_La_law 1047 = .ok (.iload 4, 2) := by decide +kernel
theorem d_La_law_1049 : decode c_La_law 1049 = .ok (.iconst 2, 1) := by decide +kernel
theorem d_La_law_1050 : decode c_La_law 1050 = .ok (.iadd, 1) := by decide +kernel
theorem d_La_law_1051 : decode c_La_law 1051 = .ok (.iaload, 1) := by decide +kernel
theorem d_La_law_1052 : decode c_La_law 1052 = .ok (.invokevirtual 124, 3) := by decide +kernel
theorem d_La_law_1055 : decode c_La_law 1055 = .ok (.istore 6, 2) := by decide +kernel
theorem d_La_law_1057 : decode c_La_law 1057 = .ok (.aload_n 2, 1) := by decide +kernel
theorem d_La_law_1058 : decode c_La_law 1058 = .ok (.invokevirtual 72, 3) := by decide +kernel
theorem d_La_law_1061 : decode c_La_law 1061 = .ok (.iload 5, 2) := by decide +kernel
theorem d_La_law_1063 : decode c_La_law 1063 = .ok (.if_icmp .eq 5, 3) := by decide +kernel
theorem d_La_law_1066 : decode c_La_law 1066 = .ok (.iconst 0, 1) := by decide +kernel
theorem d_La_law_1067 : decode c_La_law 1067 = .ok (.ireturn, 1) := by decide +kernel
theorem d_La_law_1068 : decode c_La_law 1068 = .ok (.iload 5, 2) := by decide +kernel
theorem d_La_law_1070 : decode c_La_law 1070 = .ok (.ifCond .ne 15, 3) := by decide +kernel
theorem d_La_law_1073 : decode c_La_law 1073 = .ok (.aload_n 3, 1) := by decide +kernel
theorem d_La_law_1074 : decode c_La_law 1074 = .ok (.iconst 0, 1) := by decide +kernel
theorem d_La_law_1075 : decode c_La_law 1075 = .ok (.laload, 1) := by decide +kernel
theorem d_La_law_1076 : decode c_La_law 1076 = .ok (.iload 6, 2) := by decide +kernel
theorem d_La_law_1078 : decode c_La_law 1078 = .ok (.i2l, 1) := by decide +kernel
theorem d_La_law_1079 : decode c_La_law 1079 = .ok (.lcmp, 1) := by decide +kernel
theorem d_La_law_1080 : decode c_La_law 1080 = .ok (.ifCond .eq 5, 3) := by decide +kernel
theorem d_La_law_1083 : decode c_La_law 1083 = .ok (.iconst 0, 1) := by decide +kernel
theorem d_La_law_1084 : decode c_La_law 1084 = .ok (.ireturn, 1) := by decide +kernel
theorem d_La_law_1085 : decode c_La_law 1085 = .ok (.goto 28, 3) := by decide +kernel
theorem d_La_law_1088 : decode c_La_law 1088 = .ok (.aload_n 1, 1) := by decide +kernel
theorem d_La_law_1089 : decode c_La_law 1089 = .ok (.aload_n 0, 1) := by decide +kernel
theorem d_La_law_1090 : decode c_La_law 1090 = .ok (.iload 4, 2) := by decide +kernel
theorem d_La_law_1092 : decode c_La_law 1092 = .ok (.iconst 1, 1) := by decide +kernel
theorem d_La_law_1093 : decode c_La_law 1093 = .ok (.iadd, 1) := by decide +kernel
theorem d_La_law_1094 : decode c_La_law 1094 = .ok (.iaload, 1) := by decide +kernel
theorem d_La_law_1095 : decode c_La_law 1095 = .ok (.invokevirtual 125, 3) := by decide +kernel
theorem d_La_law_1098 : decode c_La_law 1098 = .ok (.aload_n 2, 1) := by decide +kernel
theorem d_La_law_1099 : decode c_La_law 1099 = .ok (.aload_n 0, 1) := by decide +kernel
theorem d_La_law_1100 : decode c_La_law 1100 = .ok (.iload 4, 2) := by decide +kernel
theorem d_La_law_1102 : decode c_La_law 1102 = .ok (.iconst 1, 1) := by decide +kernel
theorem d_La_law_1103 : decode c_La_law 1103 = .ok (.iadd, 1) := by decide +kernel
theorem d_La_law_1104 : decode c_La_law 1104 = .ok (.iaload, 1) := by decide +kernel
theorem d_La_law_1105 : decode c_La_law 1105 = .ok (.invokevirtual 128, 3) := by decide +kernel
theorem d_La_law_1108 : decode c_La_law 1108 = .ok (.if_icmp .eq 5, 3) := by decide +kernel
theorem d_La_law_1111 : decode c_La_law 1111 = .ok (.iconst 0, 1) := by decide +kernel
theorem d_La_law_1112 : decode c_La_law 1112 = .ok (.ireturn, 1) := by decide +kernel
theorem d_La_law_1113 : decode c_La_law 1113 = .ok (.iinc 4 4, 3) := by decide +kernel
theorem d_La_law_1116 : decode c_La_law 1116 = .ok (.goto (-1093), 3) := by decide +kernel
theorem d_La_law_1119 : decode c_La_law 1119 = .ok (.iconst 1, 1) := by decide +kernel
theorem d_La_law_1120 : decode c_La_law 1120 = .ok (.ireturn, 1) := by decide +kernel
