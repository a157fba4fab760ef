theorem dX8_seen_4 : decode cX8_seen 4 = .ok (.invokevirtual 268, 3) := by decide +kernel
theorem dX8_seen_7 : decode cX8_seen 7 = .ok (.iload_n 1, 1) := by decide +kernel
theorem dX8_seen_8 : decode cX8_seen 8 = .ok (.iload_n 2, 1) := by decide +kernel
theorem dX8_seen_9 : decode cX8_seen 9 = .ok (.iload 4, 2) := by decide +kernel
theorem dX8_seen_11 : decode cX8_seen 11 = .ok (.invokevirtual 271, 3) := by decide +kernel
theorem dX8_seen_14 : decode cX8_seen 14 = .ok (.invokevirtual 180, 3) := by decide +kernel
theorem dX8_seen_17 : decode cX8_seen 17 = .ok (.ifCond .eq 5, 3) := by decide +kernel
theorem dX8_seen_20 : decode cX8_seen 20 = .ok (.iconst (-1), 1) := by decide +kernel
theorem dX8_seen_21 : decode cX8_seen 21 = .ok (.ireturn, 1) := by decide +kernel
theorem dX8_seen_22 : decode cX8_seen 22 = .ok (.aload_n 0, 1) := by decide +kernel
theorem dX8_seen_23 : decode cX8_seen 23 = .ok (.iload_n 1, 1) := by decide +kernel
theorem dX8_seen_24 : decode cX8_seen 24 = .ok (.iload_n 2, 1) := by decide +kernel
theorem dX8_seen_25 : decode cX8_seen 25 = .ok (.invokevirtual 275, 3) := by decide +kernel
theorem dX8_seen_28 : decode cX8_seen 28 = .ok (.aload_n 0, 1) := by decide +kernel
theorem dX8_seen_29 : decode cX8_seen 29 = .ok (.getfield 42, 3) := by decide +kernel
theorem dX8_seen_32 : decode cX8_seen 32 = .ok (.iload_n 3, 1) := by decide +kernel
theorem dX8_seen_33 : decode cX8_seen 33 = .ok (.iload 4, 2) := by decide +kernel
theorem dX8_seen_35 : decode cX8_seen 35 = .ok (.invokestatic 224, 3) := by decide +kernel
theorem dX8_seen_38 : decode cX8_seen 38 = .ok (.iaload, 1) := by decide +kernel
theorem dX8_seen_39 : decode cX8_seen 39 = .ok (.ireturn, 1) := by decide +kernel
theorem dX8_taken_0 : decode cX8_taken 0 = .ok (.aload_n 0, 1) := by decide +kernel
theorem dX8_taken_1 : decode cX8_taken 1 = .ok (.aload_n 0, 1) := by decide +kernel
theorem dX8_taken_2 : decode cX8_taken 2 = .ok (.aload_n 0, 1) := by decide +kernel
theorem dX8_taken_3 : decode cX8_taken 3 = .ok (.iload_n 3, 1) := by decide +kernel
theorem dX8_taken_4 : decode cX8_taken 4 = .ok (.invokevirtual 268, 3) := by decide +kernel
theorem dX8_taken_7 : decode cX8_taken 7 = .ok (.iload_n 1, 1) := by decide +kernel
theorem dX8_taken_8 : decode cX8_taken 8 = .ok (.iload_n 2, 1) := by decide +kernel
theorem dX8_taken_9 : decode cX8_taken 9 = .ok (.iload 4, 2) := by decide +kernel
theorem dX8_taken_11 : decode cX8_taken 11 = .ok (.invokevirtual 271, 3) := by decide +kernel
theorem dX8_taken_14 : decode cX8_taken 14 = .ok (.invokevirtual 180, 3) := by decide +kernel
theorem dX8_taken_17 : decode cX8_taken 17 = .ok (.ifCond .eq 5, 3) := by decide +kernel
theorem dX8_taken_20 : decode cX8_taken 20 = .ok (.iconst (-1), 1) := by decide +kernel
theorem dX8_taken_21 : decode cX8_taken 21 = .ok (.ireturn, 1) := by decide +kernel
theorem dX8_taken_22 : decode cX8_taken 22 = .ok (.aload_n 0, 1) := by decide +kernel
theorem dX8_taken_23 : decode cX8_taken 23 = .ok (.iload_n 1, 1) := by decide +kernel
theorem dX8_taken_24 : decode cX8_taken 24 = .ok (.iload_n 2, 1) := by decide +kernel
theorem dX8_taken_25 : decode cX8_taken 25 = .ok (.invokevirtual 275, 3) := by decide +kernel
theorem dX8_taken_28 : decode cX8_taken 28 = .ok (.aload_n 0, 1) := by decide +kernel
theorem dX8_taken_29 : decode cX8_taken 29 = .ok (.getfield 45, 3) := by decide +kernel
theorem dX8_taken_32 : decode cX8_taken 32 = .ok (.iload_n 3, 1) := by decide +kernel
theorem dX8_taken_33 : decode cX8_taken 33 = .ok (.iload 4, 2) := by decide +kernel
theorem dX8_taken_35 : decode cX8_taken 35 = .ok (.invokestatic 224, 3) := by decide +kernel
theorem dX8_taken_38 : decode cX8_taken 38 = .ok (.iaload, 1) := by decide +kernel
theorem dX8_taken_39 : decode cX8_taken 39 = .ok (.ireturn, 1) := by decide +kernel
theorem dX8_withdrawn_0 : decode cX8_withdrawn 0 = .ok (.aload_n 0, 1) := by decide +kernel
theorem dX8_withdrawn_1 : decode cX8_withdrawn 1 = .ok (.aload_n 0, 1) := by decide +kernel
theorem dX8_withdrawn_2 : decode cX8_withdrawn 2 = .ok (.aload_n 0, 1) := by decide +kernel
theorem dX8_withdrawn_3 : decode cX8_withdrawn 3 = .ok (.iload_n 3, 1) := by decide +kernel
theorem dX8_withdrawn_4 : decode cX8_withdrawn 4 = .ok (.invokevirtual 268, 3) := by decide +kernel
theorem dX8_withdrawn_7 : decode cX8_withdrawn 7 = .ok (.iload_n 1, 1) := by decide +kernel
theorem dX8_withdrawn_8 : decode cX8_withdrawn 8 = .ok (.iload_n 2, 1) := by decide +kernel
theorem dX8_withdrawn_9 : decode cX8_withdrawn 9 = .ok (.iload 4, 2) := by decide +kernel
theorem dX8_withdrawn_11 : decode cX8_withdrawn 11 = .ok (.invokevirtual 271, 3) := by decide +kernel
theorem dX8_withdrawn_14 : decode cX8_withdrawn 14 = .ok (.invokevirtual 180, 3) := by decide +kernel
theorem dX8_withdrawn_17 : decode cX8_withdrawn 17 = .ok (.ifCond .eq 5, 3) := by decide +kernel
theorem dX8_withdrawn_20 : decode cX8_withdrawn 20 = .ok (.iconst (-1), 1) := by decide +kernel
theorem dX8_withdrawn_21 : decode cX8_withdrawn 21 = .ok (.ireturn, 1) := by decide +kernel
theorem dX8_withdrawn_22 : decode cX8_withdrawn 22 = .ok (.aload_n 0, 1) := by decide +kernel
theorem dX8_withdrawn_23 : decode cX8_withdrawn 23 = .ok (.iload_n 1, 1) := by decide +kernel
theorem dX8_withdrawn_24 : decode cX8_withdrawn 24 = .ok (.iload_n 2, 1) := by decide +kernel
theorem dX8_withdrawn_25 : decode cX8_withdrawn 25 = .ok (.invokevirtual 275, 3) := by decide +kernel
theorem dX8_withdrawn_28 : decode cX8_withdrawn 28 = .ok (.aload_n 0, 1) := by decide +kernel
theorem dX8_withdrawn_29 : decode cX8_withdrawn 29 = .ok (.getfield 48, 3) := by decide +kernel
theorem dX8_withdrawn_32 : decode cX8_withdrawn 32 = .ok (.iload_n 3, 1) := by decide +kernel
theorem dX8_withdrawn_33 : decode cX8_withdrawn 33 = .ok (.iload 4, 2) := by decide +kernel
theorem dX8_withdrawn_35 : decode cX8_withdrawn 35 = .ok (.invokestatic 224, 3) := by decide +kernel
theorem dX8_withdrawn_38 : decode cX8_withdrawn 38 = .ok (.iaload, 1) := by decide +kernel
theorem dX8_withdrawn_39 : decode cX8_withdrawn 39 = .ok (.ireturn, 1) := by decide +kernel
theorem dX8_winners_0 : decode cX8_winners 0 = .ok (.aload_n 0, 1) := by decide +kernel
theorem dX8_winners_1 : decode cX8_winners 1 = .ok (.aload_n 0, 1) := by decide +kernel
theorem dX8_winners_2 : decode cX8_winners 2 = .ok (.iconst 1, 1) := by decide +kernel
theorem dX8_winners_3 : decode cX8_winners 3 = .ok (.iload_n 1, 1) := by decide +kernel
theorem dX8_winners_4 : decode cX8_winners 4 = .ok (.iload_n 2, 1) := by decide +kernel
theorem dX8_winners_5 : decode cX8_winners 5 = .ok (.iload_n 3, 1) := by decide +kernel
theorem dX8_winners_6 : decode cX8_winners 6 = .ok (.invokevirtual 271, 3) := by decide +kernel
theorem dX8_winners_9 : decode cX8_winners 9 = .ok (.invokevirtual 180, 3) := by decide +kernel
theorem dX8_winners_12 : decode cX8_winners 12 = .ok (.ifCond .eq 5, 3) := by decide +kernel
theorem dX8_winners_15 : decode cX8_winners 15 = .ok (.iconst (-1), 1) := by decide +kernel
theorem dX8_winners_16 : decode cX8_winners 16 = .ok (.ireturn, 1) := by decide +kernel
theorem dX8_winners_17 : decode cX8_winners 17 = .ok (.aload_n 0, 1) := by decide +kernel
theorem dX8_winners_18 : decode cX8_winners 18 = .ok (.iload_n 1, 1) := by decide +kernel
theorem dX8_winners_19 : decode cX8_winners 19 = .ok (.iload_n 2, 1) := by decide +kernel
theorem dX8_winners_20 : decode cX8_winners 20 = .ok (.invokevirtual 275, 3) := by decide +kernel
theorem dX8_winners_23 : decode cX8_winners 23 = .ok (.aload_n 0, 1) := by decide +kernel
theorem dX8_winners_24 : decode cX8_winners 24 = .ok (.iload_n 3, 1) := by decide +kernel
theorem dX8_winners_25 : decode cX8_winners 25 = .ok (.invokevirtual 262, 3) := by decide +kernel
theorem dX8_winners_28 : decode cX8_winners 28 = .ok (.ireturn, 1) := by decide +kernel
theorem dX8_settles_0 : decode cX8_settles 0 = .ok (.aload_n 0, 1) := by decide +kernel
theorem dX8_settles_1 : decode cX8_settles 1 = .ok (.aload_n 0, 1) := by decide +kernel
theorem dX8_settles_2 : decode cX8_settles 2 = .ok (.iconst 1, 1) := by decide +kernel
theorem dX8_settles_3 : decode cX8_settles 3 = .ok (.iload_n 1, 1) := by decide +kernel
theorem dX8_settles_4 : decode cX8_settles 4 = .ok (.iload_n 2, 1) := by decide +kernel
theorem dX8_settles_5 : decode cX8_settles 5 = .ok (.iconst 0, 1) := by decide +kernel
theorem dX8_settles_6 : decode cX8_settles 6 = .ok (.invokevirtual 271, 3) := by decide +kernel
theorem dX8_settles_9 : decode cX8_settles 9 = .ok (.invokevirtual 180, 3) := by decide +kernel
theorem dX8_settles_12 : decode cX8_settles 12 = .ok (.ifCond .eq 5, 3) := by decide +kernel
theorem dX8_settles_15 : decode cX8_settles 15 = .ok (.iconst (-1), 1) := by decide +kernel
theorem dX8_settles_16 : decode cX8_settles 16 = .ok (.ireturn, 1) := by decide +kernel
theorem dX8_settles_17 : decode cX8_settles 17 = .ok (.aload_n 0, 1) := by decide +kernel
theorem dX8_settles_18 : decode cX8_settles 18 = .ok (.iload_n 1, 1) := by decide +kernel
theorem dX8_settles_19 : decode cX8_settles 19 = .ok (.iload_n 2, 1) := by decide +kernel
theorem dX8_settles_20 : decode cX8_settles 20 = .ok (.invokevirtual 275, 3) := by decide +kernel
theorem dX8_settles_23 : decode cX8_settles 23 = .ok (.aload_n 0, 1) := by decide +kernel
theorem dX8_settles_24 : decode cX8_settles 24 = .ok (.invokevirtual 278, 3) := by decide +kernel
theorem dX8_settles_27 : decode cX8_settles 27 = .ok (.ireturn, 1) := by decide +kernel
theorem dX8_sure_0 : decode cX8_sure 0 = .ok (.aload_n 0, 1) := by decide +kernel
theorem dX8_sure_1 : decode cX8_sure 1 = .ok (.aload_n 0, 1) := by decide +kernel
theorem dX8_sure_2 : decode cX8_sure 2 = .ok (.iconst 1, 1) := by decide +kernel
theorem dX8_sure_3 : decode cX8_sure 3 = .ok (.iload_n 1, 1) := by decide +kernel
theorem dX8_sure_4 : decode cX8_sure 4 = .ok (.iload_n 2, 1) := by decide +kernel
theorem dX8_sure_5 : decode cX8_sure 5 = .ok (.iconst 0, 1) := by decide +kernel
theorem dX8_sure_6 : decode cX8_sure 6 = .ok (.invokevirtual 271, 3) := by decide +kernel
theorem dX8_sure_9 : decode cX8_sure 9 = .ok (.invokevirtual 180, 3) := by decide +kernel
theorem dX8_sure_12 : decode cX8_sure 12 = .ok (.ifCond .eq 5, 3) := by decide +kernel
theorem dX8_sure_15 : decode cX8_sure 15 = .ok (.iconst (-1), 1) := by decide +kernel
theorem dX8_sure_16 : decode cX8_sure 16 = .ok (.ireturn, 1) := by decide +kernel
theorem dX8_sure_17 : decode cX8_sure 17 = .ok (.aload_n 0, 1) := by decide +kernel
theorem dX8_sure_18 : decode cX8_sure 18 = .ok (.iload_n 1, 1) := by decide +kernel
theorem dX8_sure_19 : decode cX8_sure 19 = .ok (.iload_n 2, 1) := by decide +kernel
theorem dX8_sure_20 : decode cX8_sure 20 = .ok (.invokevirtual 275, 3) := by decide +kernel
theorem dX8_sure_23 : decode cX8_sure 23 = .ok (.aload_n 0, 1) := by decide +kernel
theorem dX8_sure_24 : decode cX8_sure 24 = .ok (.invokevirtual 281, 3) := by decide +kernel
theorem dX8_sure_27 : decode cX8_sure 27 = .ok (.ireturn, 1) := by decide +kernel
theorem dX8_right_0 : decode cX8_right 0 = .ok (.aload_n 0, 1) := by decide +kernel
theorem dX8_right_1 : decode cX8_right 1 = .ok (.aload_n 0, 1) := by decide +kernel
theorem dX8_right_2 : decode cX8_right 2 = .ok (.iconst 1, 1) := by decide +kernel
theorem dX8_right_3 : decode cX8_right 3 = .ok (.iload_n 1, 1) := by decide +kernel
theorem dX8_right_4 : decode cX8_right 4 = .ok (.iload_n 2, 1) := by decide +kernel
theorem dX8_right_5 : decode cX8_right 5 = .ok (.iconst 0, 1) := by decide +kernel
theorem dX8_right_6 : decode cX8_right 6 = .ok (.invokevirtual 271, 3) := by decide +kernel
theorem dX8_right_9 : decode cX8_right 9 = .ok (.invokevirtual 180, 3) := by decide +kernel
theorem dX8_right_12 : decode cX8_right 12 = .ok (.ifCond .eq 5, 3) := by decide +kernel
theorem dX8_right_15 : decode cX8_right 15 = .ok (.iconst (-1), 1) := by decide +kernel
theorem dX8_right_16 : decode cX8_right 16 = .ok (.ireturn, 1) := by decide +kernel
theorem dX8_right_17 : decode cX8_right 17 = .ok (.aload_n 0, 1) := by decide +kernel
theorem dX8_right_18 : decode cX8_right 18 = .ok (.iload_n 1, 1) := by decide +kernel
theorem dX8_right_19 : decode cX8_right 19 = .ok (.iload_n 2, 1) := by decide +kernel
theorem dX8_right_20 : decode cX8_right 20 = .ok (.invokevirtual 275, 3) := by decide +kernel
theorem dX8_right_23 : decode cX8_right 23 = .ok (.aload_n 0, 1) := by decide +kernel
theorem dX8_right_24 : decode cX8_right 24 = .ok (.invokevirtual 259, 3) := by decide +kernel
theorem dX8_right_27 : decode cX8_right 27 = .ok (.ireturn, 1) := by decide +kernel
theorem dX8_dips_0 : decode cX8_dips 0 = .ok (.aload_n 0, 1) := by decide +kernel
theorem dX8_dips_1 : decode cX8_dips 1 = .ok (.aload_n 0, 1) := by decide +kernel
theorem dX8_dips_2 : decode cX8_dips 2 = .ok (.iconst 1, 1) := by decide +kernel
theorem dX8_dips_3 : decode cX8_dips 3 = .ok (.iload_n 1, 1) := by decide +kernel
theorem dX8_dips_4 : decode cX8_dips 4 = .ok (.iload_n 2, 1) := by decide +kernel
theorem dX8_dips_5 : decode cX8_dips 5 = .ok (.iconst 0, 1) := by decide +kernel
theorem dX8_dips_6 : decode cX8_dips 6 = .ok (.invokevirtual 271, 3) := by decide +kernel
theorem dX8_dips_9 : decode cX8_dips 9 = .ok (.invokevirtual 180, 3) := by decide +kernel
theorem dX8_dips_12 : decode cX8_dips 12 = .ok (.ifCond .eq 5, 3) := by decide +kernel
theorem dX8_dips_15 : decode cX8_dips 15 = .ok (.iconst (-1), 1) := by decide +kernel
theorem dX8_dips_16 : decode cX8_dips 16 = .ok (.ireturn, 1) := by decide +kernel
theorem dX8_dips_17 : decode cX8_dips 17 = .ok (.aload_n 0, 1) := by decide +kernel
theorem dX8_dips_18 : decode cX8_dips 18 = .ok (.iload_n 1, 1) := by decide +kernel
theorem dX8_dips_19 : decode cX8_dips 19 = .ok (.iload_n 2, 1) := by decide +kernel
theorem dX8_dips_20 : decode cX8_dips 20 = .ok (.invokevirtual 275, 3) := by decide +kernel
theorem dX8_dips_23 : decode cX8_dips 23 = .ok (.aload_n 0, 1) := by decide +kernel
theorem dX8_dips_24 : decode cX8_dips 24 = .ok (.getfield 234, 3) := by decide +kernel
theorem dX8_dips_27 : decode cX8_dips 27 = .ok (.ireturn, 1) := by decide +kernel
theorem dX8_faulty_0 : decode cX8_faulty 0 = .ok (.aload_n 0, 1) := by decide +kernel
theorem dX8_faulty_1 : decode cX8_faulty 1 = .ok (.aload_n 0, 1) := by decide +kernel
theorem dX8_faulty_2 : decode cX8_faulty 2 = .ok (.iconst 1, 1) := by decide +kernel
theorem dX8_faulty_3 : decode cX8_faulty 3 = .ok (.iload_n 1, 1) := by decide +kernel
theorem dX8_faulty_4 : decode cX8_faulty 4 = .ok (.iload_n 2, 1) := by decide +kernel
theorem dX8_faulty_5 : decode cX8_faulty 5 = .ok (.iload_n 3, 1) := by decide +kernel
theorem dX8_faulty_6 : decode cX8_faulty 6 = .ok (.invokevirtual 271, 3) := by decide +kernel
theorem dX8_faulty_9 : decode cX8_faulty 9 = .ok (.invokevirtual 180, 3) := by decide +kernel
theorem dX8_faulty_12 : decode cX8_faulty 12 = .ok (.ifCond .eq 5, 3) := by decide +kernel
theorem dX8_faulty_15 : decode cX8_faulty 15 = .ok (.iconst (-1), 1) := by decide +kernel
theorem dX8_faulty_16 : decode cX8_faulty 16 = .ok (.ireturn, 1) := by decide +kernel
theorem dX8_faulty_17 : decode cX8_faulty 17 = .ok (.aload_n 0, 1) := by decide +kernel
theorem dX8_faulty_18 : decode cX8_faulty 18 = .ok (.iload_n 1, 1) := by decide +kernel
theorem dX8_faulty_19 : decode cX8_faulty 19 = .ok (.iload_n 2, 1) := by decide +kernel
theorem dX8_faulty_20 : decode cX8_faulty 20 = .ok (.invokevirtual 275, 3) := by decide +kernel
theorem dX8_faulty_23 : decode cX8_faulty 23 = .ok (.aload_n 0, 1) := by decide +kernel
theorem dX8_faulty_24 : decode cX8_faulty 24 = .ok (.iload_n 3, 1) := by decide +kernel
theorem dX8_faulty_25 : decode cX8_faulty 25 = .ok (.invokevirtual 284, 3) := by decide +kernel
theorem dX8_faulty_28 : decode cX8_faulty 28 = .ok (.ifCond .eq 7, 3) := by decide +kernel
theorem dX8_faulty_31 : decode cX8_faulty 31 = .ok (.iconst 1, 1) := by decide +kernel
theorem dX8_faulty_32 : decode cX8_faulty 32 = .ok (.goto 4, 3) := by decide +kernel
theorem dX8_faulty_35 : decode cX8_faulty 35 = .ok (.iconst 0, 1) := by decide +kernel
theorem dX8_faulty_36 : decode cX8_faulty 36 = .ok (.ireturn, 1) := by decide +kernel
theorem dX8_edges_0 : decode cX8_edges 0 = .ok (.aload_n 0, 1) := by decide +kernel
theorem dX8_edges_1 : decode cX8_edges 1 = .ok (.aload_n 0, 1) := by decide +kernel
theorem dX8_edges_2 : decode cX8_edges 2 = .ok (.aload_n 0, 1) := by decide +kernel
theorem dX8_edges_3 : decode cX8_edges 3 = .ok (.iload_n 3, 1) := by decide +kernel
theorem dX8_edges_4 : decode cX8_edges 4 = .ok (.invokevirtual 268, 3) := by decide +kernel
theorem dX8_edges_7 : decode cX8_edges 7 = .ok (.ifCond .eq 17, 3) := by decide +kernel
theorem dX8_edges_10 : decode cX8_edges 10 = .ok (.iload 4, 2) := by decide +kernel
theorem dX8_edges_12 : decode cX8_edges 12 = .ok (.iconst 0, 1) := by decide +kernel
theorem dX8_edges_13 : decode cX8_edges 13 = .ok (.iconst 5, 1) := by decide +kernel
theorem dX8_edges_14 : decode cX8_edges 14 = .ok (.invokestatic 83, 3) := by decide +kernel
theorem dX8_edges_17 : decode cX8_edges 17 = .ok (.ifCond .eq 7, 3) := by decide +kernel
theorem dX8_edges_20 : decode cX8_edges 20 = .ok (.iconst 1, 1) := by decide +kernel
theorem dX8_edges_21 : decode cX8_edges 21 = .ok (.goto 4, 3) := by decide +kernel
theorem dX8_edges_24 : decode cX8_edges 24 = .ok (.iconst 0, 1) := by decide +kernel
theorem dX8_edges_25 : decode cX8_edges 25 = .ok (.iload_n 1, 1) := by decide +kernel
theorem dX8_edges_26 : decode cX8_edges 26 = .ok (.iload_n 2, 1) := by decide +kernel
theorem dX8_edges_27 : decode cX8_edges 27 = .ok (.iconst 0, 1) := by decide +kernel
theorem dX8_edges_28 : decode cX8_edges 28 = .ok (.invokevirtual 271, 3) := by decide +kernel
theorem dX8_edges_31 : decode cX8_edges 31 = .ok (.invokevirtual 180, 3) := by decide +kernel
theorem dX8_edges_34 : decode cX8_edges 34 = .ok (.ifCond .eq 5, 3) := by decide +kernel
theorem dX8_edges_37 : decode cX8_edges 37 = .ok (.iconst (-1), 1) := by decide +kernel
theorem dX8_edges_38 : decode cX8_edges 38 = .ok (.ireturn, 1) := by decide +kernel
theorem dX8_edges_39 : decode cX8_edges 39 = .ok (.aload_n 0, 1) := by decide +kernel
theorem dX8_edges_40 : decode cX8_edges 40 = .ok (.iload_n 1, 1) := by decide +kernel
theorem dX8_edges_41 : decode cX8_edges 41 = .ok (.iload_n 2, 1) := by decide +kernel
theorem dX8_edges_42 : decode cX8_edges 42 = .ok (.invokevirtual 275, 3) := by decide +kernel
theorem dX8_edges_45 : decode cX8_edges 45 = .ok (.iconst 0, 1) := by decide +kernel
theorem dX8_edges_46 : decode cX8_edges 46 = .ok (.istore 5, 2) := by decide +kernel
theorem dX8_edges_48 : decode cX8_edges 48 = .ok (.iconst 1, 1) := by decide +kernel
theorem dX8_edges_49 : decode cX8_edges 49 = .ok (.istore 6, 2) := by decide +kernel
theorem dX8_edges_51 : decode cX8_edges 51 = .ok (.iload 6, 2) := by decide +kernel
theorem dX8_edges_53 : decode cX8_edges 53 = .ok (.sipush 401, 3) := by decide +kernel
theorem dX8_edges_56 : decode cX8_edges 56 = .ok (.if_icmp .ge 52, 3) := by decide +kernel
theorem dX8_edges_59 : decode cX8_edges 59 = .ok (.iload 5, 2) := by decide +kernel
theorem dX8_edges_61 : decode cX8_edges 61 = .ok (.aload_n 0, 1) := by decide +kernel
theorem dX8_edges_62 : decode cX8_edges 62 = .ok (.getfield 42, 3) := by decide +kernel
theorem dX8_edges_65 : decode cX8_edges 65 = .ok (.iload_n 3, 1) := by decide +kernel
theorem dX8_edges_66 : decode cX8_edges 66 = .ok (.iload 6, 2) := by decide +kernel
theorem dX8_edges_68 : decode cX8_edges 68 = .ok (.invokestatic 224, 3) := by decide +kernel
theorem dX8_edges_71 : decode cX8_edges 71 = .ok (.iaload, 1) := by decide +kernel
theorem dX8_edges_72 : decode cX8_edges 72 = .ok (.aload_n 0, 1) := by decide +kernel
theorem dX8_edges_73 : decode cX8_edges 73 = .ok (.getfield 42, 3) := by decide +kernel
theorem dX8_edges_76 : decode cX8_edges 76 = .ok (.iload_n 3, 1) := by decide +kernel
theorem dX8_edges_77 : decode cX8_edges 77 = .ok (.iload 6, 2) := by decide +kernel
theorem dX8_edges_79 : decode cX8_edges 79 = .ok (.iconst 1, 1) := by decide +kernel
theorem dX8_edges_80 : decode cX8_edges 80 = .ok (.isub, 1) := by decide +kernel
theorem dX8_edges_81 : decode cX8_edges 81 = .ok (.invokestatic 224, 3) := by decide +kernel
theorem dX8_edges_84 : decode cX8_edges 84 = .ok (.iaload, 1) := by decide +kernel
theorem dX8_edges_85 : decode cX8_edges 85 = .ok (.ixor, 1) := by decide +kernel
theorem dX8_edges_86 : decode cX8_edges 86 = .ok (.iload 4, 2) := by decide +kernel
theorem dX8_edges_88 : decode cX8_edges 88 = .ok (.invokestatic 221, 3) := by decide +kernel
theorem dX8_edges_91 : decode cX8_edges 91 = .ok (.ifCond .eq 7, 3) := by decide +kernel
theorem dX8_edges_94 : decode cX8_edges 94 = .ok (.iconst 1, 1) := by decide +kernel
theorem dX8_edges_95 : decode cX8_edges 95 = .ok (.goto 4, 3) := by decide +kernel
theorem dX8_edges_98 : decode cX8_edges 98 = .ok (.iconst 0, 1) := by decide +kernel
theorem dX8_edges_99 : decode cX8_edges 99 = .ok (.iadd, 1) := by decide +kernel
theorem dX8_edges_100 : decode cX8_edges 100 = .ok (.istore 5, 2) := by decide +kernel
theorem dX8_edges_102 : decode cX8_edges 102 = .ok (.iinc 6 1, 3) := by decide +kernel
theorem dX8_edges_105 : decode cX8_edges 105 = .ok (.goto (-54), 3) := by decide +kernel
theorem dX8_edges_108 : decode cX8_edges 108 = .ok (.iload 5, 2) := by decide +kernel
theorem dX8_edges_110 : decode cX8_edges 110 = .ok (.ireturn, 1) := by decide +kernel
theorem dX8_filters_0 : decode cX8_filters 0 = .ok (.aload_n 0, 1) := by decide +kernel
theorem dX8_filters_1 : decode cX8_filters 1 = .ok (.aload_n 0, 1) := by decide +kernel
theorem dX8_filters_2 : decode cX8_filters 2 = .ok (.iconst 1, 1) := by decide +kernel
theorem dX8_filters_3 : decode cX8_filters 3 = .ok (.iload_n 1, 1) := by decide +kernel
theorem dX8_filters_4 : decode cX8_filters 4 = .ok (.iload_n 2, 1) := by decide +kernel
theorem dX8_filters_5 : decode cX8_filters 5 = .ok (.iconst 0, 1) := by decide +kernel
theorem dX8_filters_6 : decode cX8_filters 6 = .ok (.invokevirtual 271, 3) := by decide +kernel
theorem dX8_filters_9 : decode cX8_filters 9 = .ok (.invokevirtual 180, 3) := by decide +kernel
theorem dX8_filters_12 : decode cX8_filters 12 = .ok (.ifCond .eq 5, 3) := by decide +kernel
theorem dX8_filters_15 : decode cX8_filters 15 = .ok (.iconst (-1), 1) := by decide +kernel
theorem dX8_filters_16 : decode cX8_filters 16 = .ok (.ireturn, 1) := by decide +kernel
theorem dX8_filters_17 : decode cX8_filters 17 = .ok (.aload_n 0, 1) := by decide +kernel
theorem dX8_filters_18 : decode cX8_filters 18 = .ok (.getfield 17, 3) := by decide +kernel
theorem dX8_filters_21 : decode cX8_filters 21 = .ok (.iconst 1, 1) := by decide +kernel
theorem dX8_filters_22 : decode cX8_filters 22 = .ok (.iaload, 1) := by decide +kernel
theorem dX8_filters_23 : decode cX8_filters 23 = .ok (.istore_n 3, 1) := by decide +kernel
theorem dX8_filters_24 : decode cX8_filters 24 = .ok (.bipush (-2), 2) := by decide +kernel
theorem dX8_filters_26 : decode cX8_filters 26 = .ok (.istore 4, 2) := by decide +kernel
theorem dX8_filters_28 : decode cX8_filters 28 = .ok (.bipush 20, 2) := by decide +kernel
theorem dX8_filters_30 : decode cX8_filters 30 = .ok (.istore 5, 2) := by decide +kernel
theorem dX8_filters_32 : decode cX8_filters 32 = .ok (.iload 5, 2) := by decide +kernel
theorem dX8_filters_34 : decode cX8_filters 34 = .ok (.ifCond .lt 56, 3) := by decide +kernel
theorem dX8_filters_37 : decode cX8_filters 37 = .ok (.aload_n 0, 1) := by decide +kernel
theorem dX8_filters_38 : decode cX8_filters 38 = .ok (.getfield 17, 3) := by decide +kernel
theorem dX8_filters_41 : decode cX8_filters 41 = .ok (.iconst 1, 1) := by decide +kernel
theorem dX8_filters_42 : decode cX8_filters 42 = .ok (.iload 5, 2) := by decide +kernel
theorem dX8_filters_44 : decode cX8_filters 44 = .ok (.iastore, 1) := by decide +kernel
theorem dX8_filters_45 : decode cX8_filters 45 = .ok (.aload_n 0, 1) := by decide +kernel
theorem dX8_filters_46 : decode cX8_filters 46 = .ok (.iload_n 1, 1) := by decide +kernel
theorem dX8_filters_47 : decode cX8_filters 47 = .ok (.iload_n 2, 1) := by decide +kernel
theorem dX8_filters_48 : decode cX8_filters 48 = .ok (.invokevirtual 275, 3) := by decide +kernel
theorem dX8_filters_51 : decode cX8_filters 51 = .ok (.aload_n 0, 1) := by decide +kernel
theorem dX8_filters_52 : decode cX8_filters 52 = .ok (.invokevirtual 281, 3) := by decide +kernel
theorem dX8_filters_55 : decode cX8_filters 55 = .ok (.istore 6, 2) := by decide +kernel
theorem dX8_filters_57 : decode cX8_filters 57 = .ok (.iload 6, 2) := by decide +kernel
theorem dX8_filters_59 : decode cX8_filters 59 = .ok (.bipush (-2), 2) := by decide +kernel
theorem dX8_filters_61 : decode cX8_filters 61 = .ok (.if_icmp .eq 19, 3) := by decide +kernel
theorem dX8_filters_64 : decode cX8_filters 64 = .ok (.iload 6, 2) := by decide +kernel
theorem dX8_filters_66 : decode cX8_filters 66 = .ok (.aload_n 0, 1) := by decide +kernel
theorem dX8_filters_67 : decode cX8_filters 67 = .ok (.getfield 17, 3) := by decide +kernel
theorem dX8_filters_70 : decode cX8_filters 70 = .ok (.iconst 2, 1) := by decide +kernel
theorem dX8_filters_71 : decode cX8_filters 71 = .ok (.iaload, 1) := by decide +kernel
theorem dX8_filters_72 : decode cX8_filters 72 = .ok (.if_icmp .gt 8, 3) := by decide +kernel
theorem dX8_filters_75 : decode cX8_filters 75 = .ok (.iload 5, 2) := by decide +kernel
theorem dX8_filters_77 : decode cX8_filters 77 = .ok (.goto 5, 3) := by decide +kernel
theorem dX8_filters_80 : decode cX8_filters 80 = .ok (.iload 4, 2) := by decide +kernel
theorem dX8_filters_82 : decode cX8_filters 82 = .ok (.istore 4, 2) := by decide +kernel
theorem dX8_filters_84 : decode cX8_filters 84 = .ok (.iinc 5 (-1), 3) := by decide +kernel
theorem dX8_filters_87 : decode cX8_filters 87 = .ok (.goto (-55), 3) := by decide +kernel
theorem dX8_filters_90 : decode cX8_filters 90 = .ok (.aload_n 0, 1) := by decide +kernel
theorem dX8_filters_91 : decode cX8_filters 91 = .ok (.getfield 17, 3) := by decide +kernel
theorem dX8_filters_94 : decode cX8_filters 94 = .ok (.iconst 1, 1) := by decide +kernel
theorem dX8_filters_95 : decode cX8_filters 95 = .ok (.iload_n 3, 1) := by decide +kernel
theorem dX8_filters_96 : decode cX8_filters 96 = .ok (.iastore, 1) := by decide +kernel
theorem dX8_filters_97 : decode cX8_filters 97 = .ok (.iload 4, 2) := by decide +kernel
theorem dX8_filters_99 : decode cX8_filters 99 = .ok (.ireturn, 1) := by decide +kernel
theorem dX8_settled_0 : decode cX8_settled 0 = .ok (.aload_n 0, 1) := by decide +kernel
theorem dX8_settled_1 : decode cX8_settled 1 = .ok (.aload_n 0, 1) := by decide +kernel
theorem dX8_settled_2 : decode cX8_settled 2 = .ok (.iconst 1, 1) := by decide +kernel
theorem dX8_settled_3 : decode cX8_settled 3 = .ok (.iload_n 1, 1) := by decide +kernel
theorem dX8_settled_4 : decode cX8_settled 4 = .ok (.iconst 1, 1) := by decide +kernel
theorem dX8_settled_5 : decode cX8_settled 5 = .ok (.iload_n 2, 1) := by decide +kernel
theorem dX8_settled_6 : decode cX8_settled 6 = .ok (.invokevirtual 271, 3) := by decide +kernel
theorem dX8_settled_9 : decode cX8_settled 9 = .ok (.invokevirtual 180, 3) := by decide +kernel
theorem dX8_settled_12 : decode cX8_settled 12 = .ok (.ifCond .eq 5, 3) := by decide +kernel
theorem dX8_settled_15 : decode cX8_settled 15 = .ok (.iconst (-1), 1) := by decide +kernel
theorem dX8_settled_16 : decode cX8_settled 16 = .ok (.ireturn, 1) := by decide +kernel
theorem dX8_settled_17 : decode cX8_settled 17 = .ok (.iconst 0, 1) := by decide +kernel
theorem dX8_settled_18 : decode cX8_settled 18 = .ok (.istore_n 3, 1) := by decide +kernel
theorem dX8_settled_19 : decode cX8_settled 19 = .ok (.iconst 1, 1) := by decide +kernel
theorem dX8_settled_20 : decode cX8_settled 20 = .ok (.istore 4, 2) := by decide +kernel
theorem dX8_settled_22 : decode cX8_settled 22 = .ok (.iload 4, 2) := by decide +kernel
theorem dX8_settled_24 : decode cX8_settled 24 = .ok (.iconst 1, 1) := by decide +kernel
theorem dX8_settled_25 : decode cX8_settled 25 = .ok (.aload_n 0, 1) := by decide +kernel
theorem dX8_settled_26 : decode cX8_settled 26 = .ok (.getfield 17, 3) := by decide +kernel
theorem dX8_settled_29 : decode cX8_settled 29 = .ok (.iconst 3, 1) := by decide +kernel
theorem dX8_settled_30 : decode cX8_settled 30 = .ok (.iaload, 1) := by decide +kernel
theorem dX8_settled_31 : decode cX8_settled 31 = .ok (.ishl, 1) := by decide +kernel
theorem dX8_settled_32 : decode cX8_settled 32 = .ok (.if_icmp .ge 32, 3) := by decide +kernel
theorem dX8_settled_35 : decode cX8_settled 35 = .ok (.aload_n 0, 1) := by decide +kernel
theorem dX8_settled_36 : decode cX8_settled 36 = .ok (.iload_n 1, 1) := by decide +kernel
theorem dX8_settled_37 : decode cX8_settled 37 = .ok (.iload 4, 2) := by decide +kernel
theorem dX8_settled_39 : decode cX8_settled 39 = .ok (.invokevirtual 275, 3) := by decide +kernel
theorem dX8_settled_42 : decode cX8_settled 42 = .ok (.iload_n 3, 1) := by decide +kernel
theorem dX8_settled_43 : decode cX8_settled 43 = .ok (.aload_n 0, 1) := by decide +kernel
theorem dX8_settled_44 : decode cX8_settled 44 = .ok (.invokevirtual 278, 3) := by decide +kernel
theorem dX8_settled_47 : decode cX8_settled 47 = .ok (.iload_n 2, 1) := by decide +kernel
theorem dX8_settled_48 : decode cX8_settled 48 = .ok (.if_icmp .gt 7, 3) := by decide +kernel
theorem dX8_settled_51 : decode cX8_settled 51 = .ok (.iconst 1, 1) := by decide +kernel
theorem dX8_settled_52 : decode cX8_settled 52 = .ok (.goto 4, 3) := by decide +kernel
theorem dX8_settled_55 : decode cX8_settled 55 = .ok (.iconst 0, 1) := by decide +kernel
theorem dX8_settled_56 : decode cX8_settled 56 = .ok (.iadd, 1) := by decide +kernel
theorem dX8_settled_57 : decode cX8_settled 57 = .ok (.istore_n 3, 1) := by decide +kernel
theorem dX8_settled_58 : decode cX8_settled 58 = .ok (.iinc 4 1, 3) := by decide +kernel
theorem dX8_settled_61 : decode cX8_settled 61 = .ok (.goto (-39), 3) := by decide +kernel
theorem dX8_settled_64 : decode cX8_settled 64 = .ok (.iload_n 3, 1) := by decide +kernel
theorem dX8_settled_65 : decode cX8_settled 65 = .ok (.ireturn, 1) := by decide +kernel
theorem dX8_slowest_0 : decode cX8_slowest 0 = .ok (.aload_n 0, 1) := by decide +kernel
theorem dX8_slowest_1 : decode cX8_slowest 1 = .ok (.aload_n 0, 1) := by decide +kernel
theorem dX8_slowest_2 : decode cX8_slowest 2 = .ok (.iconst 1, 1) := by decide +kernel
theorem dX8_slowest_3 : decode cX8_slowest 3 = .ok (.iload_n 1, 1) := by decide +kernel
theorem dX8_slowest_4 : decode cX8_slowest 4 = .ok (.iconst 1, 1) := by decide +kernel
theorem dX8_slowest_5 : decode cX8_slowest 5 = .ok (.iconst 0, 1) := by decide +kernel
theorem dX8_slowest_6 : decode cX8_slowest 6 = .ok (.invokevirtual 271, 3) := by decide +kernel
theorem dX8_slowest_9 : decode cX8_slowest 9 = .ok (.invokevirtual 180, 3) := by decide +kernel
theorem dX8_slowest_12 : decode cX8_slowest 12 = .ok (.ifCond .eq 5, 3) := by decide +kernel
theorem dX8_slowest_15 : decode cX8_slowest 15 = .ok (.iconst (-1), 1) := by decide +kernel
theorem dX8_slowest_16 : decode cX8_slowest 16 = .ok (.ireturn, 1) := by decide +kernel
theorem dX8_slowest_17 : decode cX8_slowest 17 = .ok (.iconst 0, 1) := by decide +kernel
theorem dX8_slowest_18 : decode cX8_slowest 18 = .ok (.istore_n 2, 1) := by decide +kernel
theorem dX8_slowest_19 : decode cX8_slowest 19 = .ok (.iconst (-1), 1) := by decide +kernel
theorem dX8_slowest_20 : decode cX8_slowest 20 = .ok (.istore_n 3, 1) := by decide +kernel
theorem dX8_slowest_21 : decode cX8_slowest 21 = .ok (.iconst 1, 1) := by decide +kernel
theorem dX8_slowest_22 : decode cX8_slowest 22 = .ok (.istore 4, 2) := by decide +kernel
theorem dX8_slowest_24 : decode cX8_slowest 24 = .ok (.iload 4, 2) := by decide +kernel
theorem dX8_slowest_26 : decode cX8_slowest 26 = .ok (.iconst 1, 1) := by decide +kernel
theorem dX8_slowest_27 : decode cX8_slowest 27 = .ok (.aload_n 0, 1) := by decide +kernel
theorem dX8_slowest_28 : decode cX8_slowest 28 = .ok (.getfield 17, 3) := by decide +kernel
theorem dX8_slowest_31 : decode cX8_slowest 31 = .ok (.iconst 3, 1) := by decide +kernel
theorem dX8_slowest_32 : decode cX8_slowest 32 = .ok (.iaload, 1) := by decide +kernel
theorem dX8_slowest_33 : decode cX8_slowest 33 = .ok (.ishl, 1) := by decide +kernel
theorem dX8_slowest_34 : decode cX8_slowest 34 = .ok (.if_icmp .ge 32, 3) := by decide +kernel
theorem dX8_slowest_37 : decode cX8_slowest 37 = .ok (.aload_n 0, 1) := by decide +kernel
theorem dX8_slowest_38 : decode cX8_slowest 38 = .ok (.iload_n 1, 1) := by decide +kernel
theorem dX8_slowest_39 : decode cX8_slowest 39 = .ok (.iload 4, 2) := by decide +kernel
theorem dX8_slowest_41 : decode cX8_slowest 41 = .ok (.invokevirtual 275, 3) := by decide +kernel
theorem dX8_slowest_44 : decode cX8_slowest 44 = .ok (.aload_n 0, 1) := by decide +kernel
theorem dX8_slowest_45 : decode cX8_slowest 45 = .ok (.invokevirtual 278, 3) := by decide +kernel
theorem dX8_slowest_48 : decode cX8_slowest 48 = .ok (.iload_n 3, 1) := by decide +kernel
theorem dX8_slowest_49 : decode cX8_slowest 49 = .ok (.if_icmp .le 11, 3) := by decide +kernel
theorem dX8_slowest_52 : decode cX8_slowest 52 = .ok (.aload_n 0, 1) := by decide +kernel
theorem dX8_slowest_53 : decode cX8_slowest 53 = .ok (.invokevirtual 278, 3) := by decide +kernel
theorem dX8_slowest_56 : decode cX8_slowest 56 = .ok (.istore_n 3, 1) := by decide +kernel
theorem dX8_slowest_57 : decode cX8_slowest 57 = .ok (.iload 4, 2) := by decide +kernel
theorem dX8_slowest_59 : decode cX8_slowest 59 = .ok (.istore_n 2, 1) := by decide +kernel
theorem dX8_slowest_60 : decode cX8_slowest 60 = .ok (.iinc 4 1, 3) := by decide +kernel
theorem dX8_slowest_63 : decode cX8_slowest 63 = .ok (.goto (-39), 3) := by decide +kernel
theorem dX8_slowest_66 : decode cX8_slowest 66 = .ok (.iload_n 2, 1) := by decide +kernel
theorem dX8_slowest_67 : decode cX8_slowest 67 = .ok (.ireturn, 1) := by decide +kernel
theorem dX8_enough_0 : decode cX8_enough 0 = .ok (.aload_n 0, 1) := by decide +kernel
theorem dX8_enough_1 : decode cX8_enough 1 = .ok (.aload_n 0, 1) := by decide +kernel
theorem dX8_enough_2 : decode cX8_enough 2 = .ok (.iconst 1, 1) := by decide +kernel
theorem dX8_enough_3 : decode cX8_enough 3 = .ok (.iload_n 1, 1) := by decide +kernel
theorem dX8_enough_4 : decode cX8_enough 4 = .ok (.iconst 1, 1) := by decide +kernel
theorem dX8_enough_5 : decode cX8_enough 5 = .ok (.iconst 0, 1) := by decide +kernel
theorem dX8_enough_6 : decode cX8_enough 6 = .ok (.invokevirtual 271, 3) := by decide +kernel
theorem dX8_enough_9 : decode cX8_enough 9 = .ok (.invokevirtual 180, 3) := by decide +kernel
theorem dX8_enough_12 : decode cX8_enough 12 = .ok (.ifCond .eq 5, 3) := by decide +kernel
theorem dX8_enough_15 : decode cX8_enough 15 = .ok (.iconst (-1), 1) := by decide +kernel
theorem dX8_enough_16 : decode cX8_enough 16 = .ok (.ireturn, 1) := by decide +kernel
theorem dX8_enough_17 : decode cX8_enough 17 = .ok (.iconst 0, 1) := by decide +kernel
theorem dX8_enough_18 : decode cX8_enough 18 = .ok (.istore_n 2, 1) := by decide +kernel
theorem dX8_enough_19 : decode cX8_enough 19 = .ok (.iconst 1, 1) := by decide +kernel
theorem dX8_enough_20 : decode cX8_enough 20 = .ok (.istore_n 3, 1) := by decide +kernel
theorem dX8_enough_21 : decode cX8_enough 21 = .ok (.iload_n 3, 1) := by decide +kernel
theorem dX8_enough_22 : decode cX8_enough 22 = .ok (.iconst 1, 1) := by decide +kernel
theorem dX8_enough_23 : decode cX8_enough 23 = .ok (.aload_n 0, 1) := by decide +kernel
theorem dX8_enough_24 : decode cX8_enough 24 = .ok (.getfield 17, 3) := by decide +kernel
theorem dX8_enough_27 : decode cX8_enough 27 = .ok (.iconst 3, 1) := by decide +kernel
theorem dX8_enough_28 : decode cX8_enough 28 = .ok (.iaload, 1) := by decide +kernel
theorem dX8_enough_29 : decode cX8_enough 29 = .ok (.ishl, 1) := by decide +kernel
theorem dX8_enough_30 : decode cX8_enough 30 = .ok (.if_icmp .ge 44, 3) := by decide +kernel
theorem dX8_enough_33 : decode cX8_enough 33 = .ok (.aload_n 0, 1) := by decide +kernel
theorem dX8_enough_34 : decode cX8_enough 34 = .ok (.iload_n 1, 1) := by decide +kernel
theorem dX8_enough_35 : decode cX8_enough 35 = .ok (.iload_n 3, 1) := by decide +kernel
theorem dX8_enough_36 : decode cX8_enough 36 = .ok (.invokevirtual 275, 3) := by decide +kernel
theorem dX8_enough_39 : decode cX8_enough 39 = .ok (.aload_n 0, 1) := by decide +kernel
theorem dX8_enough_40 : decode cX8_enough 40 = .ok (.invokevirtual 281, 3) := by decide +kernel
theorem dX8_enough_43 : decode cX8_enough 43 = .ok (.istore 4, 2) := by decide +kernel
theorem dX8_enough_45 : decode cX8_enough 45 = .ok (.iload 4, 2) := by decide +kernel
theorem dX8_enough_47 : decode cX8_enough 47 = .ok (.bipush (-2), 2) := by decide +kernel
theorem dX8_enough_49 : decode cX8_enough 49 = .ok (.if_icmp .ne 6, 3) := by decide +kernel
theorem dX8_enough_52 : decode cX8_enough 52 = .ok (.bipush (-2), 2) := by decide +kernel
theorem dX8_enough_54 : decode cX8_enough 54 = .ok (.ireturn, 1) := by decide +kernel
theorem dX8_enough_55 : decode cX8_enough 55 = .ok (.iload 4, 2) := by decide +kernel
theorem dX8_enough_57 : decode cX8_enough 57 = .ok (.iload_n 2, 1) := by decide +kernel
theorem dX8_enough_58 : decode cX8_enough 58 = .ok (.if_icmp .le 8, 3) := by decide +kernel
theorem dX8_enough_61 : decode cX8_enough 61 = .ok (.iload 4, 2) := by decide +kernel
theorem dX8_enough_63 : decode cX8_enough 63 = .ok (.goto 4, 3) := by decide +kernel
theorem dX8_enough_66 : decode cX8_enough 66 = .ok (.iload_n 2, 1) := by decide +kernel
theorem dX8_enough_67 : decode cX8_enough 67 = .ok (.istore_n 2, 1) := by decide +kernel
theorem dX8_enough_68 : decode cX8_enough 68 = .ok (.iinc 3 1, 3) := by decide +kernel
theorem dX8_enough_71 : decode cX8_enough 71 = .ok (.goto (-50), 3) := by decide +kernel
theorem dX8_enough_74 : decode cX8_enough 74 = .ok (.iload_n 2, 1) := by decide +kernel
theorem dX8_enough_75 : decode cX8_enough 75 = .ok (.ireturn, 1) := by decide +kernel
theorem dX8_elects_0 : decode cX8_elects 0 = .ok (.aload_n 0, 1) := by decide +kernel
theorem dX8_elects_1 : decode cX8_elects 1 = .ok (.iconst 0, 1) := by decide +kernel
theorem dX8_elects_2 : decode cX8_elects 2 = .ok (.putfield 287, 3) := by decide +kernel
theorem dX8_elects_5 : decode cX8_elects 5 = .ok (.aload_n 0, 1) := by decide +kernel
theorem dX8_elects_6 : decode cX8_elects 6 = .ok (.iconst 0, 1) := by decide +kernel
theorem dX8_elects_7 : decode cX8_elects 7 = .ok (.putfield 290, 3) := by decide +kernel
theorem dX8_elects_10 : decode cX8_elects 10 = .ok (.aload_n 0, 1) := by decide +kernel
theorem dX8_elects_11 : decode cX8_elects 11 = .ok (.iconst 0, 1) := by decide +kernel
theorem dX8_elects_12 : decode cX8_elects 12 = .ok (.putfield 293, 3) := by decide +kernel
theorem dX8_elects_15 : decode cX8_elects 15 = .ok (.iload_n 1, 1) := by decide +kernel
theorem dX8_elects_16 : decode cX8_elects 16 = .ok (.istore_n 3, 1) := by decide +kernel
theorem dX8_elects_17 : decode cX8_elects 17 = .ok (.iconst 1, 1) := by decide +kernel
theorem dX8_elects_18 : decode cX8_elects 18 = .ok (.istore 4, 2) := by decide +kernel
theorem dX8_elects_20 : decode cX8_elects 20 = .ok (.iload 4, 2) := by decide +kernel
theorem dX8_elects_22 : decode cX8_elects 22 = .ok (.iconst 3, 1) := by decide +kernel
theorem dX8_elects_23 : decode cX8_elects 23 = .ok (.if_icmp .ge 152, 3) := by decide +kernel
theorem dX8_elects_26 : decode cX8_elects 26 = .ok (.iload_n 3, 1) := by decide +kernel
theorem dX8_elects_27 : decode cX8_elects 27 = .ok (.ifCond .eq 148, 3) := by decide +kernel
theorem dX8_elects_30 : decode cX8_elects 30 = .ok (.iconst 0, 1) := by decide +kernel
theorem dX8_elects_31 : decode cX8_elects 31 = .ok (.istore 5, 2) := by decide +kernel
theorem dX8_elects_33 : decode cX8_elects 33 = .ok (.iload 5, 2) := by decide +kernel
theorem dX8_elects_35 : decode cX8_elects 35 = .ok (.aload_n 0, 1) := by decide +kernel
theorem dX8_elects_36 : decode cX8_elects 36 = .ok (.getfield 17, 3) := by decide +kernel
theorem dX8_elects_39 : decode cX8_elects 39 = .ok (.iconst 3, 1) := by decide +kernel
theorem dX8_elects_40 : decode cX8_elects 40 = .ok (.iaload, 1) := by decide +kernel
theorem dX8_elects_41 : decode cX8_elects 41 = .ok (.if_icmp .ge 52, 3) := by decide +kernel
theorem dX8_elects_44 : decode cX8_elects 44 = .ok (.aload_n 0, 1) := by decide +kernel
theorem dX8_elects_45 : decode cX8_elects 45 = .ok (.getfield 36, 3) := by decide +kernel
theorem dX8_elects_48 : decode cX8_elects 48 = .ok (.iload 5, 2) := by decide +kernel
theorem dX8_elects_50 : decode cX8_elects 50 = .ok (.iload_n 2, 1) := by decide +kernel
theorem dX8_elects_51 : decode cX8_elects 51 = .ok (.ifCond .eq 27, 3) := by decide +kernel
theorem dX8_elects_54 : decode cX8_elects 54 = .ok (.aload_n 0, 1) := by decide +kernel
theorem dX8_elects_55 : decode cX8_elects 55 = .ok (.getfield 27, 3) := by decide +kernel
theorem dX8_elects_58 : decode cX8_elects 58 = .ok (.iload 5, 2) := by decide +kernel
theorem dX8_elects_60 : decode cX8_elects 60 = .ok (.iload 4, 2) := by decide +kernel
theorem dX8_elects_62 : decode cX8_elects 62 = .ok (.iconst 1, 1) := by decide +kernel
theorem dX8_elects_63 : decode cX8_elects 63 = .ok (.if_icmp .ne 7, 3) := by decide +kernel
theorem dX8_elects_66 : decode cX8_elects 66 = .ok (.iconst 4, 1) := by decide +kernel
theorem dX8_elects_67 : decode cX8_elects 67 = .ok (.goto 4, 3) := by decide +kernel
theorem dX8_elects_70 : decode cX8_elects 70 = .ok (.iconst 5, 1) := by decide +kernel
theorem dX8_elects_71 : decode cX8_elects 71 = .ok (.invokestatic 201, 3) := by decide +kernel
theorem dX8_elects_74 : decode cX8_elects 74 = .ok (.iaload, 1) := by decide +kernel
theorem dX8_elects_75 : decode cX8_elects 75 = .ok (.goto 11, 3) := by decide +kernel
theorem dX8_elects_78 : decode cX8_elects 78 = .ok (.aload_n 0, 1) := by decide +kernel
theorem dX8_elects_79 : decode cX8_elects 79 = .ok (.iload 5, 2) := by decide +kernel
theorem dX8_elects_81 : decode cX8_elects 81 = .ok (.iload 4, 2) := by decide +kernel
theorem dX8_elects_83 : decode cX8_elects 83 = .ok (.invokevirtual 250, 3) := by decide +kernel
theorem dX8_elects_86 : decode cX8_elects 86 = .ok (.iastore, 1) := by decide +kernel
theorem dX8_elects_87 : decode cX8_elects 87 = .ok (.iinc 5 1, 3) := by decide +kernel
theorem dX8_elects_90 : decode cX8_elects 90 = .ok (.goto (-57), 3) := by decide +kernel
theorem dX8_elects_93 : decode cX8_elects 93 = .ok (.aload_n 0, 1) := by decide +kernel
theorem dX8_elects_94 : decode cX8_elects 94 = .ok (.iload_n 3, 1) := by decide +kernel
theorem dX8_elects_95 : decode cX8_elects 95 = .ok (.invokevirtual 253, 3) := by decide +kernel
theorem dX8_elects_98 : decode cX8_elects 98 = .ok (.aload_n 0, 1) := by decide +kernel
theorem dX8_elects_99 : decode cX8_elects 99 = .ok (.dup, 1) := by decide +kernel
theorem dX8_elects_100 : decode cX8_elects 100 = .ok (.getfield 287, 3) := by decide +kernel
theorem dX8_elects_103 : decode cX8_elects 103 = .ok (.aload_n 0, 1) := by decide +kernel
theorem dX8_elects_104 : decode cX8_elects 104 = .ok (.aload_n 0, 1) := by decide +kernel
theorem dX8_elects_105 : decode cX8_elects 105 = .ok (.getfield 17, 3) := by decide +kernel
theorem dX8_elects_108 : decode cX8_elects 108 = .ok (.iconst 2, 1) := by decide +kernel
theorem dX8_elects_109 : decode cX8_elects 109 = .ok (.iaload, 1) := by decide +kernel
theorem dX8_elects_110 : decode cX8_elects 110 = .ok (.invokevirtual 284, 3) := by decide +kernel
theorem dX8_elects_113 : decode cX8_elects 113 = .ok (.ifCond .eq 7, 3) := by decide +kernel
theorem dX8_elects_116 : decode cX8_elects 116 = .ok (.iconst 1, 1) := by decide +kernel
theorem dX8_elects_117 : decode cX8_elects 117 = .ok (.goto 4, 3) := by decide +kernel
theorem dX8_elects_120 : decode cX8_elects 120 = .ok (.iconst 0, 1) := by decide +kernel
theorem dX8_elects_121 : decode cX8_elects 121 = .ok (.iadd, 1) := by decide +kernel
theorem dX8_elects_122 : decode cX8_elects 122 = .ok (.putfield 287, 3) := by decide +kernel
theorem dX8_elects_125 : decode cX8_elects 125 = .ok (.aload_n 0, 1) := by decide +kernel
theorem dX8_elects_126 : decode cX8_elects 126 = .ok (.aload_n 0, 1) := by decide +kernel
theorem dX8_elects_127 : decode cX8_elects 127 = .ok (.getfield 17, 3) := by decide +kernel
theorem dX8_elects_130 : decode cX8_elects 130 = .ok (.iconst 2, 1) := by decide +kernel
theorem dX8_elects_131 : decode cX8_elects 131 = .ok (.iaload, 1) := by decide +kernel
theorem dX8_elects_132 : decode cX8_elects 132 = .ok (.invokevirtual 262, 3) := by decide +kernel
theorem dX8_elects_135 : decode cX8_elects 135 = .ok (.istore_n 3, 1) := by decide +kernel
theorem dX8_elects_136 : decode cX8_elects 136 = .ok (.aload_n 0, 1) := by decide +kernel
theorem dX8_elects_137 : decode cX8_elects 137 = .ok (.iload 4, 2) := by decide +kernel
theorem dX8_elects_139 : decode cX8_elects 139 = .ok (.iconst 1, 1) := by decide +kernel
theorem dX8_elects_140 : decode cX8_elects 140 = .ok (.if_icmp .ne 7, 3) := by decide +kernel
theorem dX8_elects_143 : decode cX8_elects 143 = .ok (.iload_n 3, 1) := by decide +kernel
theorem dX8_elects_144 : decode cX8_elects 144 = .ok (.goto 7, 3) := by decide +kernel
theorem dX8_elects_147 : decode cX8_elects 147 = .ok (.aload_n 0, 1) := by decide +kernel
theorem dX8_elects_148 : decode cX8_elects 148 = .ok (.getfield 290, 3) := by decide +kernel
theorem dX8_elects_151 : decode cX8_elects 151 = .ok (.putfield 290, 3) := by decide +kernel
theorem dX8_elects_154 : decode cX8_elects 154 = .ok (.aload_n 0, 1) := by decide +kernel
theorem dX8_elects_155 : decode cX8_elects 155 = .ok (.iload 4, 2) := by decide +kernel
theorem dX8_elects_157 : decode cX8_elects 157 = .ok (.iconst 2, 1) := by decide +kernel
theorem dX8_elects_158 : decode cX8_elects 158 = .ok (.if_icmp .ne 7, 3) := by decide +kernel
theorem dX8_elects_161 : decode cX8_elects 161 = .ok (.iload_n 3, 1) := by decide +kernel
theorem dX8_elects_162 : decode cX8_elects 162 = .ok (.goto 4, 3) := by decide +kernel
theorem dX8_elects_165 : decode cX8_elects 165 = .ok (.iconst 0, 1) := by decide +kernel
theorem dX8_elects_166 : decode cX8_elects 166 = .ok (.putfield 293, 3) := by decide +kernel
theorem dX8_elects_169 : decode cX8_elects 169 = .ok (.iinc 4 1, 3) := by decide +kernel
theorem dX8_elects_172 : decode cX8_elects 172 = .ok (.goto (-152), 3) := by decide +kernel
theorem dX8_elects_175 : decode cX8_elects 175 = .ok (.iconst 0, 1) := by decide +kernel
theorem dX8_elects_176 : decode cX8_elects 176 = .ok (.istore 4, 2) := by decide +kernel
theorem dX8_elects_178 : decode cX8_elects 178 = .ok (.iload_n 3, 1) := by decide +kernel
theorem dX8_elects_179 : decode cX8_elects 179 = .ok (.ifCond .eq 18, 3) := by decide +kernel
theorem dX8_elects_182 : decode cX8_elects 182 = .ok (.iload_n 3, 1) := by decide +kernel
theorem dX8_elects_183 : decode cX8_elects 183 = .ok (.iload 4, 2) := by decide +kernel
theorem dX8_elects_185 : decode cX8_elects 185 = .ok (.invokestatic 221, 3) := by decide +kernel
theorem dX8_elects_188 : decode cX8_elects 188 = .ok (.ifCond .ne 9, 3) := by decide +kernel
theorem dX8_elects_191 : decode cX8_elects 191 = .ok (.iinc 4 1, 3) := by decide +kernel
theorem dX8_elects_194 : decode cX8_elects 194 = .ok (.goto (-16), 3) := by decide +kernel
theorem dX8_elects_197 : decode cX8_elects 197 = .ok (.iload_n 3, 1) := by decide +kernel
theorem dX8_elects_198 : decode cX8_elects 198 = .ok (.invokestatic 209, 3) := by decide +kernel
theorem dX8_elects_201 : decode cX8_elects 201 = .ok (.iconst 1, 1) := by decide +kernel
theorem dX8_elects_202 : decode cX8_elects 202 = .ok (.if_icmp .ne 8, 3) := by decide +kernel
theorem dX8_elects_205 : decode cX8_elects 205 = .ok (.iload 4, 2) := by decide +kernel
theorem dX8_elects_207 : decode cX8_elects 207 = .ok (.goto 5, 3) := by decide +kernel
theorem dX8_elects_210 : decode cX8_elects 210 = .ok (.bipush (-2), 2) := by decide +kernel
theorem dX8_elects_212 : decode cX8_elects 212 = .ok (.ireturn, 1) := by decide +kernel
theorem dX8_would_0 : decode cX8_would 0 = .ok (.aload_n 0, 1) := by decide +kernel
theorem dX8_would_1 : decode cX8_would 1 = .ok (.aload_n 0, 1) := by decide +kernel
theorem dX8_would_2 : decode cX8_would 2 = .ok (.getfield 192, 3) := by decide +kernel
theorem dX8_would_5 : decode cX8_would 5 = .ok (.ifCond .ne 7, 3) := by decide +kernel
theorem dX8_would_8 : decode cX8_would 8 = .ok (.iconst 1, 1) := by decide +kernel
theorem dX8_would_9 : decode cX8_would 9 = .ok (.goto 16, 3) := by decide +kernel
theorem dX8_would_12 : decode cX8_would 12 = .ok (.aload_n 0, 1) := by decide +kernel
theorem dX8_would_13 : decode cX8_would 13 = .ok (.iload_n 1, 1) := by decide +kernel
theorem dX8_would_14 : decode cX8_would 14 = .ok (.invokevirtual 265, 3) := by decide +kernel
theorem dX8_would_17 : decode cX8_would 17 = .ok (.ifCond .eq 7, 3) := by decide +kernel
theorem dX8_would_20 : decode cX8_would 20 = .ok (.iconst 0, 1) := by decide +kernel
theorem dX8_would_21 : decode cX8_would 21 = .ok (.goto 4, 3) := by decide +kernel
theorem dX8_would_24 : decode cX8_would 24 = .ok (.iconst 2, 1) := by decide +kernel
theorem dX8_would_25 : decode cX8_would 25 = .ok (.invokevirtual 180, 3) := by decide +kernel
theorem dX8_would_28 : decode cX8_would 28 = .ok (.ifCond .eq 5, 3) := by decide +kernel
theorem dX8_would_31 : decode cX8_would 31 = .ok (.iconst (-1), 1) := by decide +kernel
theorem dX8_would_32 : decode cX8_would 32 = .ok (.ireturn, 1) := by decide +kernel
theorem dX8_would_33 : decode cX8_would 33 = .ok (.aload_n 0, 1) := by decide +kernel
theorem dX8_would_34 : decode cX8_would 34 = .ok (.iload_n 1, 1) := by decide +kernel
theorem dX8_would_35 : decode cX8_would 35 = .ok (.iconst 0, 1) := by decide +kernel
theorem dX8_would_36 : decode cX8_would 36 = .ok (.invokevirtual 296, 3) := by decide +kernel
theorem dX8_would_39 : decode cX8_would 39 = .ok (.ireturn, 1) := by decide +kernel
theorem dX8_asks_0 : decode cX8_asks 0 = .ok (.aload_n 0, 1) := by decide +kernel
theorem dX8_asks_1 : decode cX8_asks 1 = .ok (.getfield 27, 3) := by decide +kernel
theorem dX8_asks_4 : decode cX8_asks 4 = .ok (.iload_n 1, 1) := by decide +kernel
theorem dX8_asks_5 : decode cX8_asks 5 = .ok (.iconst 0, 1) := by decide +kernel
theorem dX8_asks_6 : decode cX8_asks 6 = .ok (.invokestatic 201, 3) := by decide +kernel
theorem dX8_asks_9 : decode cX8_asks 9 = .ok (.iaload, 1) := by decide +kernel
theorem dX8_asks_10 : decode cX8_asks 10 = .ok (.ifCond .gt 13, 3) := by decide +kernel
theorem dX8_asks_13 : decode cX8_asks 13 = .ok (.aload_n 0, 1) := by decide +kernel
theorem dX8_asks_14 : decode cX8_asks 14 = .ok (.getfield 27, 3) := by decide +kernel
theorem dX8_asks_17 : decode cX8_asks 17 = .ok (.iconst 1, 1) := by decide +kernel
theorem dX8_asks_18 : decode cX8_asks 18 = .ok (.iaload, 1) := by decide +kernel
theorem dX8_asks_19 : decode cX8_asks 19 = .ok (.iload_n 1, 1) := by decide +kernel
theorem dX8_asks_20 : decode cX8_asks 20 = .ok (.if_icmp .ne 20, 3) := by decide +kernel
theorem dX8_asks_23 : decode cX8_asks 23 = .ok (.aload_n 0, 1) := by decide +kernel
theorem dX8_asks_24 : decode cX8_asks 24 = .ok (.getfield 27, 3) := by decide +kernel
theorem dX8_asks_27 : decode cX8_asks 27 = .ok (.iload_n 1, 1) := by decide +kernel
theorem dX8_asks_28 : decode cX8_asks 28 = .ok (.bipush 8, 2) := by decide +kernel
theorem dX8_asks_30 : decode cX8_asks 30 = .ok (.invokestatic 201, 3) := by decide +kernel
theorem dX8_asks_33 : decode cX8_asks 33 = .ok (.dup2, 1) := by decide +kernel
theorem dX8_asks_34 : decode cX8_asks 34 = .ok (.iaload, 1) := by decide +kernel
theorem dX8_asks_35 : decode cX8_asks 35 = .ok (.iconst 1, 1) := by decide +kernel
theorem dX8_asks_36 : decode cX8_asks 36 = .ok (.iadd, 1) := by decide +kernel
theorem dX8_asks_37 : decode cX8_asks 37 = .ok (.iastore, 1) := by decide +kernel
theorem dX8_asks_38 : decode cX8_asks 38 = .ok (.iconst 0, 1) := by decide +kernel
theorem dX8_asks_39 : decode cX8_asks 39 = .ok (.ireturn, 1) := by decide +kernel
theorem dX8_asks_40 : decode cX8_asks 40 = .ok (.aload_n 0, 1) := by decide +kernel
theorem dX8_asks_41 : decode cX8_asks 41 = .ok (.getfield 27, 3) := by decide +kernel
theorem dX8_asks_44 : decode cX8_asks 44 = .ok (.iload_n 1, 1) := by decide +kernel
theorem dX8_asks_45 : decode cX8_asks 45 = .ok (.iconst 0, 1) := by decide +kernel
theorem dX8_asks_46 : decode cX8_asks 46 = .ok (.invokestatic 201, 3) := by decide +kernel
theorem dX8_asks_49 : decode cX8_asks 49 = .ok (.iload_n 2, 1) := by decide +kernel
theorem dX8_asks_50 : decode cX8_asks 50 = .ok (.iastore, 1) := by decide +kernel
theorem dX8_asks_51 : decode cX8_asks 51 = .ok (.aload_n 0, 1) := by decide +kernel
theorem dX8_asks_52 : decode cX8_asks 52 = .ok (.getfield 27, 3) := by decide +kernel
theorem dX8_asks_55 : decode cX8_asks 55 = .ok (.iload_n 1, 1) := by decide +kernel
theorem dX8_asks_56 : decode cX8_asks 56 = .ok (.iconst 1, 1) := by decide +kernel
theorem dX8_asks_57 : decode cX8_asks 57 = .ok (.invokestatic 201, 3) := by decide +kernel
theorem dX8_asks_60 : decode cX8_asks 60 = .ok (.aload_n 0, 1) := by decide +kernel
theorem dX8_asks_61 : decode cX8_asks 61 = .ok (.getfield 27, 3) := by decide +kernel
theorem dX8_asks_64 : decode cX8_asks 64 = .ok (.iconst 0, 1) := by decide +kernel
theorem dX8_asks_65 : decode cX8_asks 65 = .ok (.iaload, 1) := by decide +kernel
theorem dX8_asks_66 : decode cX8_asks 66 = .ok (.iastore, 1) := by decide +kernel
theorem dX8_asks_67 : decode cX8_asks 67 = .ok (.iconst 1, 1) := by decide +kernel
theorem dX8_asks_68 : decode cX8_asks 68 = .ok (.ireturn, 1) := by decide +kernel
theorem dX8_askingOnes_0 : decode cX8_askingOnes 0 = .ok (.iconst 0, 1) := by decide +kernel
theorem dX8_askingOnes_1 : decode cX8_askingOnes 1 = .ok (.istore_n 1, 1) := by decide +kernel
theorem dX8_askingOnes_2 : decode cX8_askingOnes 2 = .ok (.iconst 0, 1) := by decide +kernel
theorem dX8_askingOnes_3 : decode cX8_askingOnes 3 = .ok (.istore_n 2, 1) := by decide +kernel
theorem dX8_askingOnes_4 : decode cX8_askingOnes 4 = .ok (.iload_n 2, 1) := by decide +kernel
theorem dX8_askingOnes_5 : decode cX8_askingOnes 5 = .ok (.aload_n 0, 1) := by decide +kernel
theorem dX8_askingOnes_6 : decode cX8_askingOnes 6 = .ok (.getfield 17, 3) := by decide +kernel
theorem dX8_askingOnes_9 : decode cX8_askingOnes 9 = .ok (.iconst 3, 1) := by decide +kernel
theorem dX8_askingOnes_10 : decode cX8_askingOnes 10 = .ok (.iaload, 1) := by decide +kernel
theorem dX8_askingOnes_11 : decode cX8_askingOnes 11 = .ok (.if_icmp .ge 32, 3) := by decide +kernel
theorem dX8_askingOnes_14 : decode cX8_askingOnes 14 = .ok (.iload_n 1, 1) := by decide +kernel
theorem dX8_askingOnes_15 : decode cX8_askingOnes 15 = .ok (.aload_n 0, 1) := by decide +kernel
theorem dX8_askingOnes_16 : decode cX8_askingOnes 16 = .ok (.getfield 27, 3) := by decide +kernel
theorem dX8_askingOnes_19 : decode cX8_askingOnes 19 = .ok (.iload_n 2, 1) := by decide +kernel
theorem dX8_askingOnes_20 : decode cX8_askingOnes 20 = .ok (.iconst 0, 1) := by decide +kernel
theorem dX8_askingOnes_21 : decode cX8_askingOnes 21 = .ok (.invokestatic 201, 3) := by decide +kernel
theorem dX8_askingOnes_24 : decode cX8_askingOnes 24 = .ok (.iaload, 1) := by decide +kernel
theorem dX8_askingOnes_25 : decode cX8_askingOnes 25 = .ok (.ifCond .le 9, 3) := by decide +kernel
theorem dX8_askingOnes_28 : decode cX8_askingOnes 28 = .ok (.iconst 1, 1) := by decide +kernel
theorem dX8_askingOnes_29 : decode cX8_askingOnes 29 = .ok (.iload_n 2, 1) := by decide +kernel
theorem dX8_askingOnes_30 : decode cX8_askingOnes 30 = .ok (.ishl, 1) := by decide +kernel
theorem dX8_askingOnes_31 : decode cX8_askingOnes 31 = .ok (.goto 4, 3) := by decide +kernel
theorem dX8_askingOnes_34 : decode cX8_askingOnes 34 = .ok (.iconst 0, 1) := by decide +kernel
theorem dX8_askingOnes_35 : decode cX8_askingOnes 35 = .ok (.ior, 1) := by decide +kernel
theorem dX8_askingOnes_36 : decode cX8_askingOnes 36 = .ok (.istore_n 1, 1) := by decide +kernel
theorem dX8_askingOnes_37 : decode cX8_askingOnes 37 = .ok (.iinc 2 1, 3) := by decide +kernel
theorem dX8_askingOnes_40 : decode cX8_askingOnes 40 = .ok (.goto (-36), 3) := by decide +kernel
theorem dX8_askingOnes_43 : decode cX8_askingOnes 43 = .ok (.iload_n 1, 1) := by decide +kernel
theorem dX8_askingOnes_44 : decode cX8_askingOnes 44 = .ok (.ireturn, 1) := by decide +kernel
theorem dX8_beginsArbitration_0 : decode cX8_beginsArbitration 0 = .ok (.aload_n 0, 1) := by decide +kernel
theorem dX8_beginsArbitration_1 : decode cX8_beginsArbitration 1 = .ok (.getfield 27, 3) := by decide +kernel
theorem dX8_beginsArbitration_4 : decode cX8_beginsArbitration 4 = .ok (.iconst 4, 1) := by decide +kernel
theorem dX8_beginsArbitration_5 : decode cX8_beginsArbitration 5 = .ok (.aload_n 0, 1) := by decide +kernel
theorem dX8_beginsArbitration_6 : decode cX8_beginsArbitration 6 = .ok (.getfield 27, 3) := by decide +kernel
theorem dX8_beginsArbitration_9 : decode cX8_beginsArbitration 9 = .ok (.iconst 0, 1) := by decide +kernel
theorem dX8_beginsArbitration_10 : decode cX8_beginsArbitration 10 = .ok (.iaload, 1) := by decide +kernel
theorem dX8_beginsArbitration_11 : decode cX8_beginsArbitration 11 = .ok (.iconst 2, 1) := by decide +kernel
theorem dX8_beginsArbitration_12 : decode cX8_beginsArbitration 12 = .ok (.aload_n 0, 1) := by decide +kernel
theorem dX8_beginsArbitration_13 : decode cX8_beginsArbitration 13 = .ok (.getfield 17, 3) := by decide +kernel
theorem dX8_beginsArbitration_16 : decode cX8_beginsArbitration 16 = .ok (.iconst 2, 1) := by decide +kernel
theorem dX8_beginsArbitration_17 : decode cX8_beginsArbitration 17 = .ok (.iaload, 1) := by decide +kernel
theorem dX8_beginsArbitration_18 : decode cX8_beginsArbitration 18 = .ok (.imul, 1) := by decide +kernel
theorem dX8_beginsArbitration_19 : decode cX8_beginsArbitration 19 = .ok (.iadd, 1) := by decide +kernel
theorem dX8_beginsArbitration_20 : decode cX8_beginsArbitration 20 = .ok (.iastore, 1) := by decide +kernel
theorem dX8_beginsArbitration_21 : decode cX8_beginsArbitration 21 = .ok (.aload_n 0, 1) := by decide +kernel
theorem dX8_beginsArbitration_22 : decode cX8_beginsArbitration 22 = .ok (.getfield 27, 3) := by decide +kernel
theorem dX8_beginsArbitration_25 : decode cX8_beginsArbitration 25 = .ok (.iconst 5, 1) := by decide +kernel
theorem dX8_beginsArbitration_26 : decode cX8_beginsArbitration 26 = .ok (.aload_n 0, 1) := by decide +kernel
theorem dX8_beginsArbitration_27 : decode cX8_beginsArbitration 27 = .ok (.invokevirtual 300, 3) := by decide +kernel
theorem dX8_beginsArbitration_30 : decode cX8_beginsArbitration 30 = .ok (.iastore, 1) := by decide +kernel
theorem dX8_beginsArbitration_31 : decode cX8_beginsArbitration 31 = .ok (.iconst 0, 1) := by decide +kernel
theorem dX8_beginsArbitration_32 : decode cX8_beginsArbitration 32 = .ok (.istore_n 1, 1) := by decide +kernel
theorem dX8_beginsArbitration_33 : decode cX8_beginsArbitration 33 = .ok (.iload_n 1, 1) := by decide +kernel
theorem dX8_beginsArbitration_34 : decode cX8_beginsArbitration 34 = .ok (.aload_n 0, 1) := by decide +kernel
theorem dX8_beginsArbitration_35 : decode cX8_beginsArbitration 35 = .ok (.getfield 17, 3) := by decide +kernel
theorem dX8_beginsArbitration_38 : decode cX8_beginsArbitration 38 = .ok (.iconst 3, 1) := by decide +kernel
theorem dX8_beginsArbitration_39 : decode cX8_beginsArbitration 39 = .ok (.iaload, 1) := by decide +kernel
theorem dX8_beginsArbitration_40 : decode cX8_beginsArbitration 40 = .ok (.if_icmp .ge 41, 3) := by decide +kernel
theorem dX8_beginsArbitration_43 : decode cX8_beginsArbitration 43 = .ok (.aload_n 0, 1) := by decide +kernel
theorem dX8_beginsArbitration_44 : decode cX8_beginsArbitration 44 = .ok (.getfield 27, 3) := by decide +kernel
theorem dX8_beginsArbitration_47 : decode cX8_beginsArbitration 47 = .ok (.iload_n 1, 1) := by decide +kernel
theorem dX8_beginsArbitration_48 : decode cX8_beginsArbitration 48 = .ok (.iconst 4, 1) := by decide +kernel
theorem dX8_beginsArbitration_49 : decode cX8_beginsArbitration 49 = .ok (.invokestatic 201, 3) := by decide +kernel
theorem dX8_beginsArbitration_52 : decode cX8_beginsArbitration 52 = .ok (.aload_n 0, 1) := by decide +kernel
theorem dX8_beginsArbitration_53 : decode cX8_beginsArbitration 53 = .ok (.iload_n 1, 1) := by decide +kernel
theorem dX8_beginsArbitration_54 : decode cX8_beginsArbitration 54 = .ok (.iconst 1, 1) := by decide +kernel
theorem dX8_beginsArbitration_55 : decode cX8_beginsArbitration 55 = .ok (.invokevirtual 250, 3) := by decide +kernel
theorem dX8_beginsArbitration_58 : decode cX8_beginsArbitration 58 = .ok (.iastore, 1) := by decide +kernel
theorem dX8_beginsArbitration_59 : decode cX8_beginsArbitration 59 = .ok (.aload_n 0, 1) := by decide +kernel
theorem dX8_beginsArbitration_60 : decode cX8_beginsArbitration 60 = .ok (.getfield 27, 3) := by decide +kernel
theorem dX8_beginsArbitration_63 : decode cX8_beginsArbitration 63 = .ok (.iload_n 1, 1) := by decide +kernel
theorem dX8_beginsArbitration_64 : decode cX8_beginsArbitration 64 = .ok (.iconst 5, 1) := by decide +kernel
theorem dX8_beginsArbitration_65 : decode cX8_beginsArbitration 65 = .ok (.invokestatic 201, 3) := by decide +kernel
theorem dX8_beginsArbitration_68 : decode cX8_beginsArbitration 68 = .ok (.aload_n 0, 1) := by decide +kernel
theorem dX8_beginsArbitration_69 : decode cX8_beginsArbitration 69 = .ok (.iload_n 1, 1) := by decide +kernel
theorem dX8_beginsArbitration_70 : decode cX8_beginsArbitration 70 = .ok (.iconst 2, 1) := by decide +kernel
theorem dX8_beginsArbitration_71 : decode cX8_beginsArbitration 71 = .ok (.invokevirtual 250, 3) := by decide +kernel
theorem dX8_beginsArbitration_74 : decode cX8_beginsArbitration 74 = .ok (.iastore, 1) := by decide +kernel
theorem dX8_beginsArbitration_75 : decode cX8_beginsArbitration 75 = .ok (.iinc 1 1, 3) := by decide +kernel
theorem dX8_beginsArbitration_78 : decode cX8_beginsArbitration 78 = .ok (.goto (-45), 3) := by decide +kernel
theorem dX8_beginsArbitration_81 : decode cX8_beginsArbitration 81 = .ok (.return_, 1) := by decide +kernel
theorem dX8_isElected_0 : decode cX8_isElected 0 = .ok (.aload_n 0, 1) := by decide +kernel
theorem dX8_isElected_1 : decode cX8_isElected 1 = .ok (.getfield 27, 3) := by decide +kernel
theorem dX8_isElected_4 : decode cX8_isElected 4 = .ok (.iload_n 1, 1) := by decide +kernel
theorem dX8_isElected_5 : decode cX8_isElected 5 = .ok (.bipush 11, 2) := by decide +kernel
theorem dX8_isElected_7 : decode cX8_isElected 7 = .ok (.invokestatic 201, 3) := by decide +kernel
theorem dX8_isElected_10 : decode cX8_isElected 10 = .ok (.dup2, 1) := by decide +kernel
theorem dX8_isElected_11 : decode cX8_isElected 11 = .ok (.iaload, 1) := by decide +kernel
theorem dX8_isElected_12 : decode cX8_isElected 12 = .ok (.iconst 1, 1) := by decide +kernel
theorem dX8_isElected_13 : decode cX8_isElected 13 = .ok (.iadd, 1) := by decide +kernel
theorem dX8_isElected_14 : decode cX8_isElected 14 = .ok (.iastore, 1) := by decide +kernel
theorem dX8_isElected_15 : decode cX8_isElected 15 = .ok (.aload_n 0, 1) := by decide +kernel
theorem dX8_isElected_16 : decode cX8_isElected 16 = .ok (.getfield 27, 3) := by decide +kernel
theorem dX8_isElected_19 : decode cX8_isElected 19 = .ok (.iload_n 1, 1) := by decide +kernel
theorem dX8_isElected_20 : decode cX8_isElected 20 = .ok (.iconst 2, 1) := by decide +kernel
theorem dX8_isElected_21 : decode cX8_isElected 21 = .ok (.invokestatic 201, 3) := by decide +kernel
theorem dX8_isElected_24 : decode cX8_isElected 24 = .ok (.iaload, 1) := by decide +kernel
theorem dX8_isElected_25 : decode cX8_isElected 25 = .ok (.ifCond .ne 39, 3) := by decide +kernel
theorem dX8_isElected_28 : decode cX8_isElected 28 = .ok (.aload_n 0, 1) := by decide +kernel
theorem dX8_isElected_29 : decode cX8_isElected 29 = .ok (.getfield 27, 3) := by decide +kernel
theorem dX8_isElected_32 : decode cX8_isElected 32 = .ok (.bipush 6, 2) := by decide +kernel
theorem dX8_isElected_34 : decode cX8_isElected 34 = .ok (.dup2, 1) := by decide +kernel
theorem dX8_isElected_35 : decode cX8_isElected 35 = .ok (.iaload, 1) := by decide +kernel
theorem dX8_isElected_36 : decode cX8_isElected 36 = .ok (.iconst 1, 1) := by decide +kernel
theorem dX8_isElected_37 : decode cX8_isElected 37 = .ok (.iadd, 1) := by decide +kernel
theorem dX8_isElected_38 : decode cX8_isElected 38 = .ok (.iastore, 1) := by decide +kernel
theorem dX8_isElected_39 : decode cX8_isElected 39 = .ok (.iconst 0, 1) := by decide +kernel
theorem dX8_isElected_40 : decode cX8_isElected 40 = .ok (.istore_n 2, 1) := by decide +kernel
theorem dX8_isElected_41 : decode cX8_isElected 41 = .ok (.iload_n 2, 1) := by decide +kernel
theorem dX8_isElected_42 : decode cX8_isElected 42 = .ok (.bipush 6, 2) := by decide +kernel
theorem dX8_isElected_44 : decode cX8_isElected 44 = .ok (.if_icmp .ge 20, 3) := by decide +kernel
theorem dX8_isElected_47 : decode cX8_isElected 47 = .ok (.aload_n 0, 1) := by decide +kernel
theorem dX8_isElected_48 : decode cX8_isElected 48 = .ok (.getfield 27, 3) := by decide +kernel
theorem dX8_isElected_51 : decode cX8_isElected 51 = .ok (.iload_n 2, 1) := by decide +kernel
theorem dX8_isElected_52 : decode cX8_isElected 52 = .ok (.iconst 2, 1) := by decide +kernel
theorem dX8_isElected_53 : decode cX8_isElected 53 = .ok (.invokestatic 201, 3) := by decide +kernel
theorem dX8_isElected_56 : decode cX8_isElected 56 = .ok (.iconst 1, 1) := by decide +kernel
theorem dX8_isElected_57 : decode cX8_isElected 57 = .ok (.iastore, 1) := by decide +kernel
theorem dX8_isElected_58 : decode cX8_isElected 58 = .ok (.iinc 2 1, 3) := by decide +kernel
theorem dX8_isElected_61 : decode cX8_isElected 61 = .ok (.goto (-20), 3) := by decide +kernel
theorem dX8_isElected_64 : decode cX8_isElected 64 = .ok (.aload_n 0, 1) := by decide +kernel
theorem dX8_isElected_65 : decode cX8_isElected 65 = .ok (.getfield 27, 3) := by decide +kernel
theorem dX8_isElected_68 : decode cX8_isElected 68 = .ok (.iload_n 1, 1) := by decide +kernel
theorem dX8_isElected_69 : decode cX8_isElected 69 = .ok (.iconst 2, 1) := by decide +kernel
theorem dX8_isElected_70 : decode cX8_isElected 70 = .ok (.invokestatic 201, 3) := by decide +kernel
theorem dX8_isElected_73 : decode cX8_isElected 73 = .ok (.iconst 0, 1) := by decide +kernel
theorem dX8_isElected_74 : decode cX8_isElected 74 = .ok (.iastore, 1) := by decide +kernel
theorem dX8_isElected_75 : decode cX8_isElected 75 = .ok (.return_, 1) := by decide +kernel
theorem dX8_logs_0 : decode cX8_logs 0 = .ok (.bipush 95, 2) := by decide +kernel
theorem dX8_logs_2 : decode cX8_logs 2 = .ok (.istore_n 3, 1) := by decide +kernel
theorem dX8_logs_3 : decode cX8_logs 3 = .ok (.iload_n 3, 1) := by decide +kernel
theorem dX8_logs_4 : decode cX8_logs 4 = .ok (.bipush 6, 2) := by decide +kernel
theorem dX8_logs_6 : decode cX8_logs 6 = .ok (.if_icmp .lt 30, 3) := by decide +kernel
theorem dX8_logs_9 : decode cX8_logs 9 = .ok (.aload_n 0, 1) := by decide +kernel
theorem dX8_logs_10 : decode cX8_logs 10 = .ok (.getfield 27, 3) := by decide +kernel
theorem dX8_logs_13 : decode cX8_logs 13 = .ok (.bipush 91, 2) := by decide +kernel
theorem dX8_logs_15 : decode cX8_logs 15 = .ok (.iload_n 3, 1) := by decide +kernel
theorem dX8_logs_16 : decode cX8_logs 16 = .ok (.iadd, 1) := by decide +kernel
theorem dX8_logs_17 : decode cX8_logs 17 = .ok (.aload_n 0, 1) := by decide +kernel
theorem dX8_logs_18 : decode cX8_logs 18 = .ok (.getfield 27, 3) := by decide +kernel
theorem dX8_logs_21 : decode cX8_logs 21 = .ok (.bipush 91, 2) := by decide +kernel
theorem dX8_logs_23 : decode cX8_logs 23 = .ok (.iload_n 3, 1) := by decide +kernel
theorem dX8_logs_24 : decode cX8_logs 24 = .ok (.iadd, 1) := by decide +kernel
theorem dX8_logs_25 : decode cX8_logs 25 = .ok (.bipush 6, 2) := by decide +kernel
theorem dX8_logs_27 : decode cX8_logs 27 = .ok (.isub, 1) := by decide +kernel
theorem dX8_logs_28 : decode cX8_logs 28 = .ok (.iaload, 1) := by decide +kernel
theorem dX8_logs_29 : decode cX8_logs 29 = .ok (.iastore, 1) := by decide +kernel
theorem dX8_logs_30 : decode cX8_logs 30 = .ok (.iinc 3 (-1), 3) := by decide +kernel
theorem dX8_logs_33 : decode cX8_logs 33 = .ok (.goto (-30), 3) := by decide +kernel
theorem dX8_logs_36 : decode cX8_logs 36 = .ok (.aload_n 0, 1) := by decide +kernel
theorem dX8_logs_37 : decode cX8_logs 37 = .ok (.getfield 27, 3) := by decide +kernel
theorem dX8_logs_40 : decode cX8_logs 40 = .ok (.bipush 90, 2) := by decide +kernel
theorem dX8_logs_42 : decode cX8_logs 42 = .ok (.aload_n 0, 1) := by decide +kernel
theorem dX8_logs_43 : decode cX8_logs 43 = .ok (.getfield 27, 3) := by decide +kernel
theorem dX8_logs_46 : decode cX8_logs 46 = .ok (.bipush 90, 2) := by decide +kernel
theorem dX8_logs_48 : decode cX8_logs 48 = .ok (.iaload, 1) := by decide +kernel
theorem dX8_logs_49 : decode cX8_logs 49 = .ok (.bipush 16, 2) := by decide +kernel
theorem dX8_logs_51 : decode cX8_logs 51 = .ok (.if_icmp .ne 8, 3) := by decide +kernel
theorem dX8_logs_54 : decode cX8_logs 54 = .ok (.bipush 16, 2) := by decide +kernel
theorem dX8_logs_56 : decode cX8_logs 56 = .ok (.goto 12, 3) := by decide +kernel
theorem dX8_logs_59 : decode cX8_logs 59 = .ok (.aload_n 0, 1) := by decide +kernel
theorem dX8_logs_60 : decode cX8_logs 60 = .ok (.getfield 27, 3) := by decide +kernel
theorem dX8_logs_63 : decode cX8_logs 63 = .ok (.bipush 90, 2) := by decide +kernel
theorem dX8_logs_65 : decode cX8_logs 65 = .ok (.iaload, 1) := by decide +kernel
theorem dX8_logs_66 : decode cX8_logs 66 = .ok (.iconst 1, 1) := by decide +kernel
theorem dX8_logs_67 : decode cX8_logs 67 = .ok (.iadd, 1) := by decide +kernel
theorem dX8_logs_68 : decode cX8_logs 68 = .ok (.iastore, 1) := by decide +kernel
theorem dX8_logs_69 : decode cX8_logs 69 = .ok (.aload_n 0, 1) := by decide +kernel
theorem dX8_logs_70 : decode cX8_logs 70 = .ok (.getfield 27, 3) := by decide +kernel
theorem dX8_logs_73 : decode cX8_logs 73 = .ok (.bipush 91, 2) := by decide +kernel
theorem dX8_logs_75 : decode cX8_logs 75 = .ok (.aload_n 0, 1) := by decide +kernel
theorem dX8_logs_76 : decode cX8_logs 76 = .ok (.getfield 27, 3) := by decide +kernel
theorem dX8_logs_79 : decode cX8_logs 79 = .ok (.iconst 0, 1) := by decide +kernel
theorem dX8_logs_80 : decode cX8_logs 80 = .ok (.iaload, 1) := by decide +kernel
theorem dX8_logs_81 : decode cX8_logs 81 = .ok (.iastore, 1) := by decide +kernel
theorem dX8_logs_82 : decode cX8_logs 82 = .ok (.aload_n 0, 1) := by decide +kernel
theorem dX8_logs_83 : decode cX8_logs 83 = .ok (.getfield 27, 3) := by decide +kernel
theorem dX8_logs_86 : decode cX8_logs 86 = .ok (.bipush 92, 2) := by decide +kernel
theorem dX8_logs_88 : decode cX8_logs 88 = .ok (.iload_n 1, 1) := by decide +kernel
theorem dX8_logs_89 : decode cX8_logs 89 = .ok (.iastore, 1) := by decide +kernel
theorem dX8_logs_90 : decode cX8_logs 90 = .ok (.aload_n 0, 1) := by decide +kernel
theorem dX8_logs_91 : decode cX8_logs 91 = .ok (.getfield 27, 3) := by decide +kernel
theorem dX8_logs_94 : decode cX8_logs 94 = .ok (.bipush 93, 2) := by decide +kernel
theorem dX8_logs_96 : decode cX8_logs 96 = .ok (.aload_n 0, 1) := by decide +kernel
theorem dX8_logs_97 : decode cX8_logs 97 = .ok (.getfield 290, 3) := by decide +kernel
theorem dX8_logs_100 : decode cX8_logs 100 = .ok (.iastore, 1) := by decide +kernel
theorem dX8_logs_101 : decode cX8_logs 101 = .ok (.aload_n 0, 1) := by decide +kernel
theorem dX8_logs_102 : decode cX8_logs 102 = .ok (.getfield 27, 3) := by decide +kernel
theorem dX8_logs_105 : decode cX8_logs 105 = .ok (.bipush 94, 2) := by decide +kernel
theorem dX8_logs_107 : decode cX8_logs 107 = .ok (.aload_n 0, 1) := by decide +kernel
theorem dX8_logs_108 : decode cX8_logs 108 = .ok (.getfield 293, 3) := by decide +kernel
theorem dX8_logs_111 : decode cX8_logs 111 = .ok (.iastore, 1) := by decide +kernel
theorem dX8_logs_112 : decode cX8_logs 112 = .ok (.aload_n 0, 1) := by decide +kernel
theorem dX8_logs_113 : decode cX8_logs 113 = .ok (.getfield 27, 3) := by decide +kernel
theorem dX8_logs_116 : decode cX8_logs 116 = .ok (.bipush 95, 2) := by decide +kernel
theorem dX8_logs_118 : decode cX8_logs 118 = .ok (.iload_n 2, 1) := by decide +kernel
theorem dX8_logs_119 : decode cX8_logs 119 = .ok (.iastore, 1) := by decide +kernel
theorem dX8_logs_120 : decode cX8_logs 120 = .ok (.aload_n 0, 1) := by decide +kernel
theorem dX8_logs_121 : decode cX8_logs 121 = .ok (.getfield 27, 3) := by decide +kernel
theorem dX8_logs_124 : decode cX8_logs 124 = .ok (.bipush 96, 2) := by decide +kernel
theorem dX8_logs_126 : decode cX8_logs 126 = .ok (.aload_n 0, 1) := by decide +kernel
theorem dX8_logs_127 : decode cX8_logs 127 = .ok (.getfield 287, 3) := by decide +kernel
theorem dX8_logs_130 : decode cX8_logs 130 = .ok (.iastore, 1) := by decide +kernel
theorem dX8_logs_131 : decode cX8_logs 131 = .ok (.return_, 1) := by decide +kernel
theorem dX8_endsArbitration_0 : decode cX8_endsArbitration 0 = .ok (.aload_n 0, 1) := by decide +kernel
theorem dX8_endsArbitration_1 : decode cX8_endsArbitration 1 = .ok (.aload_n 0, 1) := by decide +kernel
theorem dX8_endsArbitration_2 : decode cX8_endsArbitration 2 = .ok (.getfield 27, 3) := by decide +kernel
theorem dX8_endsArbitration_5 : decode cX8_endsArbitration 5 = .ok (.iconst 5, 1) := by decide +kernel
theorem dX8_endsArbitration_6 : decode cX8_endsArbitration 6 = .ok (.iaload, 1) := by decide +kernel
theorem dX8_endsArbitration_7 : decode cX8_endsArbitration 7 = .ok (.iconst 1, 1) := by decide +kernel
theorem dX8_endsArbitration_8 : decode cX8_endsArbitration 8 = .ok (.invokevirtual 296, 3) := by decide +kernel
theorem dX8_endsArbitration_11 : decode cX8_endsArbitration 11 = .ok (.istore_n 1, 1) := by decide +kernel
theorem dX8_endsArbitration_12 : decode cX8_endsArbitration 12 = .ok (.aload_n 0, 1) := by decide +kernel
theorem dX8_endsArbitration_13 : decode cX8_endsArbitration 13 = .ok (.getfield 27, 3) := by decide +kernel
theorem dX8_endsArbitration_16 : decode cX8_endsArbitration 16 = .ok (.iconst 3, 1) := by decide +kernel
theorem dX8_endsArbitration_17 : decode cX8_endsArbitration 17 = .ok (.iaload, 1) := by decide +kernel
theorem dX8_endsArbitration_18 : decode cX8_endsArbitration 18 = .ok (.istore_n 2, 1) := by decide +kernel
theorem dX8_endsArbitration_19 : decode cX8_endsArbitration 19 = .ok (.aload_n 0, 1) := by decide +kernel
theorem dX8_endsArbitration_20 : decode cX8_endsArbitration 20 = .ok (.aload_n 0, 1) := by decide +kernel
theorem dX8_endsArbitration_21 : decode cX8_endsArbitration 21 = .ok (.getfield 27, 3) := by decide +kernel
theorem dX8_endsArbitration_24 : decode cX8_endsArbitration 24 = .ok (.iconst 5, 1) := by decide +kernel
theorem dX8_endsArbitration_25 : decode cX8_endsArbitration 25 = .ok (.iaload, 1) := by decide +kernel
theorem dX8_endsArbitration_26 : decode cX8_endsArbitration 26 = .ok (.iload_n 1, 1) := by decide +kernel
theorem dX8_endsArbitration_27 : decode cX8_endsArbitration 27 = .ok (.invokevirtual 303, 3) := by decide +kernel
theorem dX8_endsArbitration_30 : decode cX8_endsArbitration 30 = .ok (.aload_n 0, 1) := by decide +kernel
theorem dX8_endsArbitration_31 : decode cX8_endsArbitration 31 = .ok (.getfield 27, 3) := by decide +kernel
theorem dX8_endsArbitration_34 : decode cX8_endsArbitration 34 = .ok (.bipush 9, 2) := by decide +kernel
theorem dX8_endsArbitration_36 : decode cX8_endsArbitration 36 = .ok (.dup2, 1) := by decide +kernel
theorem dX8_endsArbitration_37 : decode cX8_endsArbitration 37 = .ok (.iaload, 1) := by decide +kernel
theorem dX8_endsArbitration_38 : decode cX8_endsArbitration 38 = .ok (.aload_n 0, 1) := by decide +kernel
theorem dX8_endsArbitration_39 : decode cX8_endsArbitration 39 = .ok (.getfield 287, 3) := by decide +kernel
theorem dX8_endsArbitration_42 : decode cX8_endsArbitration 42 = .ok (.iadd, 1) := by decide +kernel
theorem dX8_endsArbitration_43 : decode cX8_endsArbitration 43 = .ok (.iastore, 1) := by decide +kernel
theorem dX8_endsArbitration_44 : decode cX8_endsArbitration 44 = .ok (.aload_n 0, 1) := by decide +kernel
theorem dX8_endsArbitration_45 : decode cX8_endsArbitration 45 = .ok (.getfield 27, 3) := by decide +kernel
theorem dX8_endsArbitration_48 : decode cX8_endsArbitration 48 = .ok (.bipush 7, 2) := by decide +kernel
theorem dX8_endsArbitration_50 : decode cX8_endsArbitration 50 = .ok (.dup2, 1) := by decide +kernel
theorem dX8_endsArbitration_51 : decode cX8_endsArbitration 51 = .ok (.iaload, 1) := by decide +kernel
theorem dX8_endsArbitration_52 : decode cX8_endsArbitration 52 = .ok (.iconst 1, 1) := by decide +kernel
theorem dX8_endsArbitration_53 : decode cX8_endsArbitration 53 = .ok (.iadd, 1) := by decide +kernel
theorem dX8_endsArbitration_54 : decode cX8_endsArbitration 54 = .ok (.iastore, 1) := by decide +kernel
theorem dX8_endsArbitration_55 : decode cX8_endsArbitration 55 = .ok (.aload_n 0, 1) := by decide +kernel
theorem dX8_endsArbitration_56 : decode cX8_endsArbitration 56 = .ok (.getfield 27, 3) := by decide +kernel
theorem dX8_endsArbitration_59 : decode cX8_endsArbitration 59 = .ok (.iconst 4, 1) := by decide +kernel
theorem dX8_endsArbitration_60 : decode cX8_endsArbitration 60 = .ok (.bipush (-2), 2) := by decide +kernel
theorem dX8_endsArbitration_62 : decode cX8_endsArbitration 62 = .ok (.iastore, 1) := by decide +kernel
theorem dX8_endsArbitration_63 : decode cX8_endsArbitration 63 = .ok (.aload_n 0, 1) := by decide +kernel
theorem dX8_endsArbitration_64 : decode cX8_endsArbitration 64 = .ok (.getfield 27, 3) := by decide +kernel
theorem dX8_endsArbitration_67 : decode cX8_endsArbitration 67 = .ok (.iconst 5, 1) := by decide +kernel
theorem dX8_endsArbitration_68 : decode cX8_endsArbitration 68 = .ok (.iconst 0, 1) := by decide +kernel
theorem dX8_endsArbitration_69 : decode cX8_endsArbitration 69 = .ok (.iastore, 1) := by decide +kernel
theorem dX8_endsArbitration_70 : decode cX8_endsArbitration 70 = .ok (.aload_n 0, 1) := by decide +kernel
theorem dX8_endsArbitration_71 : decode cX8_endsArbitration 71 = .ok (.getfield 27, 3) := by decide +kernel
theorem dX8_endsArbitration_74 : decode cX8_endsArbitration 74 = .ok (.iconst 3, 1) := by decide +kernel
theorem dX8_endsArbitration_75 : decode cX8_endsArbitration 75 = .ok (.iload_n 1, 1) := by decide +kernel
theorem dX8_endsArbitration_76 : decode cX8_endsArbitration 76 = .ok (.iastore, 1) := by decide +kernel
theorem dX8_endsArbitration_77 : decode cX8_endsArbitration 77 = .ok (.iload_n 1, 1) := by decide +kernel
theorem dX8_endsArbitration_78 : decode cX8_endsArbitration 78 = .ok (.bipush (-2), 2) := by decide +kernel
theorem dX8_endsArbitration_80 : decode cX8_endsArbitration 80 = .ok (.if_icmp .ne 15, 3) := by decide +kernel
theorem dX8_endsArbitration_83 : decode cX8_endsArbitration 83 = .ok (.aload_n 0, 1) := by decide +kernel
theorem dX8_endsArbitration_84 : decode cX8_endsArbitration 84 = .ok (.getfield 27, 3) := by decide +kernel
theorem dX8_endsArbitration_87 : decode cX8_endsArbitration 87 = .ok (.bipush 8, 2) := by decide +kernel
theorem dX8_endsArbitration_89 : decode cX8_endsArbitration 89 = .ok (.dup2, 1) := by decide +kernel
theorem dX8_endsArbitration_90 : decode cX8_endsArbitration 90 = .ok (.iaload, 1) := by decide +kernel
theorem dX8_endsArbitration_91 : decode cX8_endsArbitration 91 = .ok (.iconst 1, 1) := by decide +kernel
theorem dX8_endsArbitration_92 : decode cX8_endsArbitration 92 = .ok (.iadd, 1) := by decide +kernel
theorem dX8_endsArbitration_93 : decode cX8_endsArbitration 93 = .ok (.iastore, 1) := by decide +kernel
theorem dX8_endsArbitration_94 : decode cX8_endsArbitration 94 = .ok (.return_, 1) := by decide +kernel
theorem dX8_endsArbitration_95 : decode cX8_endsArbitration 95 = .ok (.iload_n 2, 1) := by decide +kernel
theorem dX8_endsArbitration_96 : decode cX8_endsArbitration 96 = .ok (.bipush (-2), 2) := by decide +kernel
theorem dX8_endsArbitration_98 : decode cX8_endsArbitration 98 = .ok (.if_icmp .eq 34, 3) := by decide +kernel
theorem dX8_endsArbitration_101 : decode cX8_endsArbitration 101 = .ok (.iload_n 2, 1) := by decide +kernel
theorem dX8_endsArbitration_102 : decode cX8_endsArbitration 102 = .ok (.iload_n 1, 1) := by decide +kernel
theorem dX8_endsArbitration_103 : decode cX8_endsArbitration 103 = .ok (.if_icmp .eq 29, 3) := by decide +kernel
theorem dX8_endsArbitration_106 : decode cX8_endsArbitration 106 = .ok (.aload_n 0, 1) := by decide +kernel
theorem dX8_endsArbitration_107 : decode cX8_endsArbitration 107 = .ok (.getfield 27, 3) := by decide +kernel
theorem dX8_endsArbitration_110 : decode cX8_endsArbitration 110 = .ok (.bipush 10, 2) := by decide +kernel
theorem dX8_endsArbitration_112 : decode cX8_endsArbitration 112 = .ok (.dup2, 1) := by decide +kernel
theorem dX8_endsArbitration_113 : decode cX8_endsArbitration 113 = .ok (.iaload, 1) := by decide +kernel
theorem dX8_endsArbitration_114 : decode cX8_endsArbitration 114 = .ok (.iconst 1, 1) := by decide +kernel
theorem dX8_endsArbitration_115 : decode cX8_endsArbitration 115 = .ok (.iadd, 1) := by decide +kernel
theorem dX8_endsArbitration_116 : decode cX8_endsArbitration 116 = .ok (.iastore, 1) := by decide +kernel
theorem dX8_endsArbitration_117 : decode cX8_endsArbitration 117 = .ok (.aload_n 0, 1) := by decide +kernel
theorem dX8_endsArbitration_118 : decode cX8_endsArbitration 118 = .ok (.getfield 27, 3) := by decide +kernel
theorem dX8_endsArbitration_121 : decode cX8_endsArbitration 121 = .ok (.iload_n 2, 1) := by decide +kernel
theorem dX8_endsArbitration_122 : decode cX8_endsArbitration 122 = .ok (.bipush 9, 2) := by decide +kernel
theorem dX8_endsArbitration_124 : decode cX8_endsArbitration 124 = .ok (.invokestatic 201, 3) := by decide +kernel
theorem dX8_endsArbitration_127 : decode cX8_endsArbitration 127 = .ok (.dup2, 1) := by decide +kernel
theorem dX8_endsArbitration_128 : decode cX8_endsArbitration 128 = .ok (.iaload, 1) := by decide +kernel
theorem dX8_endsArbitration_129 : decode cX8_endsArbitration 129 = .ok (.iconst 1, 1) := by decide +kernel
theorem dX8_endsArbitration_130 : decode cX8_endsArbitration 130 = .ok (.iadd, 1) := by decide +kernel
theorem dX8_endsArbitration_131 : decode cX8_endsArbitration 131 = .ok (.iastore, 1) := by decide +kernel
theorem dX8_endsArbitration_132 : decode cX8_endsArbitration 132 = .ok (.aload_n 0, 1) := by decide +kernel
theorem dX8_endsArbitration_133 : decode cX8_endsArbitration 133 = .ok (.iload_n 1, 1) := by decide +kernel
theorem dX8_endsArbitration_134 : decode cX8_endsArbitration 134 = .ok (.invokevirtual 306, 3) := by decide +kernel
theorem dX8_endsArbitration_137 : decode cX8_endsArbitration 137 = .ok (.return_, 1) := by decide +kernel
theorem dX8_becomesMaster_0 : decode cX8_becomesMaster 0 = .ok (.aload_n 0, 1) := by decide +kernel
theorem dX8_becomesMaster_1 : decode cX8_becomesMaster 1 = .ok (.getfield 27, 3) := by decide +kernel
theorem dX8_becomesMaster_4 : decode cX8_becomesMaster 4 = .ok (.iconst 3, 1) := by decide +kernel
theorem dX8_becomesMaster_5 : decode cX8_becomesMaster 5 = .ok (.iaload, 1) := by decide +kernel
theorem dX8_becomesMaster_6 : decode cX8_becomesMaster 6 = .ok (.istore_n 1, 1) := by decide +kernel
theorem dX8_becomesMaster_7 : decode cX8_becomesMaster 7 = .ok (.aload_n 0, 1) := by decide +kernel
theorem dX8_becomesMaster_8 : decode cX8_becomesMaster 8 = .ok (.getfield 27, 3) := by decide +kernel
theorem dX8_becomesMaster_11 : decode cX8_becomesMaster 11 = .ok (.iconst 0, 1) := by decide +kernel
theorem dX8_becomesMaster_12 : decode cX8_becomesMaster 12 = .ok (.iaload, 1) := by decide +kernel
theorem dX8_becomesMaster_13 : decode cX8_becomesMaster 13 = .ok (.aload_n 0, 1) := by decide +kernel
theorem dX8_becomesMaster_14 : decode cX8_becomesMaster 14 = .ok (.getfield 27, 3) := by decide +kernel
theorem dX8_becomesMaster_17 : decode cX8_becomesMaster 17 = .ok (.iload_n 1, 1) := by decide +kernel
theorem dX8_becomesMaster_18 : decode cX8_becomesMaster 18 = .ok (.iconst 1, 1) := by decide +kernel
theorem dX8_becomesMaster_19 : decode cX8_becomesMaster 19 = .ok (.invokestatic 201, 3) := by decide +kernel
theorem dX8_becomesMaster_22 : decode cX8_becomesMaster 22 = .ok (.iaload, 1) := by decide +kernel
theorem dX8_becomesMaster_23 : decode cX8_becomesMaster 23 = .ok (.isub, 1) := by decide +kernel
theorem dX8_becomesMaster_24 : decode cX8_becomesMaster 24 = .ok (.istore_n 2, 1) := by decide +kernel
theorem dX8_becomesMaster_25 : decode cX8_becomesMaster 25 = .ok (.aload_n 0, 1) := by decide +kernel
theorem dX8_becomesMaster_26 : decode cX8_becomesMaster 26 = .ok (.getfield 27, 3) := by decide +kernel
theorem dX8_becomesMaster_29 : decode cX8_becomesMaster 29 = .ok (.iconst 1, 1) := by decide +kernel
theorem dX8_becomesMaster_30 : decode cX8_becomesMaster 30 = .ok (.iload_n 1, 1) := by decide +kernel
theorem dX8_becomesMaster_31 : decode cX8_becomesMaster 31 = .ok (.iastore, 1) := by decide +kernel
theorem dX8_becomesMaster_32 : decode cX8_becomesMaster 32 = .ok (.aload_n 0, 1) := by decide +kernel
theorem dX8_becomesMaster_33 : decode cX8_becomesMaster 33 = .ok (.getfield 27, 3) := by decide +kernel
theorem dX8_becomesMaster_36 : decode cX8_becomesMaster 36 = .ok (.iconst 2, 1) := by decide +kernel
theorem dX8_becomesMaster_37 : decode cX8_becomesMaster 37 = .ok (.aload_n 0, 1) := by decide +kernel
theorem dX8_becomesMaster_38 : decode cX8_becomesMaster 38 = .ok (.getfield 27, 3) := by decide +kernel
theorem dX8_becomesMaster_41 : decode cX8_becomesMaster 41 = .ok (.iconst 0, 1) := by decide +kernel
theorem dX8_becomesMaster_42 : decode cX8_becomesMaster 42 = .ok (.iaload, 1) := by decide +kernel
theorem dX8_becomesMaster_43 : decode cX8_becomesMaster 43 = .ok (.aload_n 0, 1) := by decide +kernel
theorem dX8_becomesMaster_44 : decode cX8_becomesMaster 44 = .ok (.getfield 27, 3) := by decide +kernel
theorem dX8_becomesMaster_47 : decode cX8_becomesMaster 47 = .ok (.iload_n 1, 1) := by decide +kernel
theorem dX8_becomesMaster_48 : decode cX8_becomesMaster 48 = .ok (.iconst 0, 1) := by decide +kernel
theorem dX8_becomesMaster_49 : decode cX8_becomesMaster 49 = .ok (.invokestatic 201, 3) := by decide +kernel
theorem dX8_becomesMaster_52 : decode cX8_becomesMaster 52 = .ok (.iaload, 1) := by decide +kernel
theorem dX8_becomesMaster_53 : decode cX8_becomesMaster 53 = .ok (.iadd, 1) := by decide +kernel
theorem dX8_becomesMaster_54 : decode cX8_becomesMaster 54 = .ok (.iastore, 1) := by decide +kernel
theorem dX8_becomesMaster_55 : decode cX8_becomesMaster 55 = .ok (.aload_n 0, 1) := by decide +kernel
theorem dX8_becomesMaster_56 : decode cX8_becomesMaster 56 = .ok (.getfield 27, 3) := by decide +kernel
theorem dX8_becomesMaster_59 : decode cX8_becomesMaster 59 = .ok (.iconst 3, 1) := by decide +kernel
theorem dX8_becomesMaster_60 : decode cX8_becomesMaster 60 = .ok (.bipush (-2), 2) := by decide +kernel
theorem dX8_becomesMaster_62 : decode cX8_becomesMaster 62 = .ok (.iastore, 1) := by decide +kernel
theorem dX8_becomesMaster_63 : decode cX8_becomesMaster 63 = .ok (.aload_n 0, 1) := by decide +kernel
theorem dX8_becomesMaster_64 : decode cX8_becomesMaster 64 = .ok (.getfield 27, 3) := by decide +kernel
theorem dX8_becomesMaster_67 : decode cX8_becomesMaster 67 = .ok (.iload_n 1, 1) := by decide +kernel
theorem dX8_becomesMaster_68 : decode cX8_becomesMaster 68 = .ok (.iconst 0, 1) := by decide +kernel
theorem dX8_becomesMaster_69 : decode cX8_becomesMaster 69 = .ok (.invokestatic 201, 3) := by decide +kernel
theorem dX8_becomesMaster_72 : decode cX8_becomesMaster 72 = .ok (.iconst 0, 1) := by decide +kernel
theorem dX8_becomesMaster_73 : decode cX8_becomesMaster 73 = .ok (.iastore, 1) := by decide +kernel
theorem dX8_becomesMaster_74 : decode cX8_becomesMaster 74 = .ok (.aload_n 0, 1) := by decide +kernel
theorem dX8_becomesMaster_75 : decode cX8_becomesMaster 75 = .ok (.getfield 27, 3) := by decide +kernel
theorem dX8_becomesMaster_78 : decode cX8_becomesMaster 78 = .ok (.iload_n 1, 1) := by decide +kernel
theorem dX8_becomesMaster_79 : decode cX8_becomesMaster 79 = .ok (.bipush 6, 2) := by decide +kernel
theorem dX8_becomesMaster_81 : decode cX8_becomesMaster 81 = .ok (.invokestatic 201, 3) := by decide +kernel
theorem dX8_becomesMaster_84 : decode cX8_becomesMaster 84 = .ok (.dup2, 1) := by decide +kernel
theorem dX8_becomesMaster_85 : decode cX8_becomesMaster 85 = .ok (.iaload, 1) := by decide +kernel
theorem dX8_becomesMaster_86 : decode cX8_becomesMaster 86 = .ok (.iconst 1, 1) := by decide +kernel
theorem dX8_becomesMaster_87 : decode cX8_becomesMaster 87 = .ok (.iadd, 1) := by decide +kernel
theorem dX8_becomesMaster_88 : decode cX8_becomesMaster 88 = .ok (.iastore, 1) := by decide +kernel
theorem dX8_becomesMaster_89 : decode cX8_becomesMaster 89 = .ok (.aload_n 0, 1) := by decide +kernel
theorem dX8_becomesMaster_90 : decode cX8_becomesMaster 90 = .ok (.getfield 27, 3) := by decide +kernel
theorem dX8_becomesMaster_93 : decode cX8_becomesMaster 93 = .ok (.iload_n 1, 1) := by decide +kernel
theorem dX8_becomesMaster_94 : decode cX8_becomesMaster 94 = .ok (.bipush 10, 2) := by decide +kernel
theorem dX8_becomesMaster_96 : decode cX8_becomesMaster 96 = .ok (.invokestatic 201, 3) := by decide +kernel
theorem dX8_becomesMaster_99 : decode cX8_becomesMaster 99 = .ok (.iload_n 2, 1) := by decide +kernel
theorem dX8_becomesMaster_100 : decode cX8_becomesMaster 100 = .ok (.aload_n 0, 1) := by decide +kernel
theorem dX8_becomesMaster_101 : decode cX8_becomesMaster 101 = .ok (.getfield 27, 3) := by decide +kernel
theorem dX8_becomesMaster_104 : decode cX8_becomesMaster 104 = .ok (.iload_n 1, 1) := by decide +kernel
theorem dX8_becomesMaster_105 : decode cX8_becomesMaster 105 = .ok (.bipush 10, 2) := by decide +kernel
theorem dX8_becomesMaster_107 : decode cX8_becomesMaster 107 = .ok (.invokestatic 201, 3) := by decide +kernel
theorem dX8_becomesMaster_110 : decode cX8_becomesMaster 110 = .ok (.iaload, 1) := by decide +kernel
theorem dX8_becomesMaster_111 : decode cX8_becomesMaster 111 = .ok (.if_icmp .le 7, 3) := by decide +kernel
theorem dX8_becomesMaster_114 : decode cX8_becomesMaster 114 = .ok (.iload_n 2, 1) := by decide +kernel
theorem dX8_becomesMaster_115 : decode cX8_becomesMaster 115 = .ok (.goto 14, 3) := by decide +kernel
theorem dX8_becomesMaster_118 : decode cX8_becomesMaster 118 = .ok (.aload_n 0, 1) := by decide +kernel
theorem dX8_becomesMaster_119 : decode cX8_becomesMaster 119 = .ok (.getfield 27, 3) := by decide +kernel
theorem dX8_becomesMaster_122 : decode cX8_becomesMaster 122 = .ok (.iload_n 1, 1) := by decide +kernel
theorem dX8_becomesMaster_123 : decode cX8_becomesMaster 123 = .ok (.bipush 10, 2) := by decide +kernel
theorem dX8_becomesMaster_125 : decode cX8_becomesMaster 125 = .ok (.invokestatic 201, 3) := by decide +kernel
theorem dX8_becomesMaster_128 : decode cX8_becomesMaster 128 = .ok (.iaload, 1) := by decide +kernel
theorem dX8_becomesMaster_129 : decode cX8_becomesMaster 129 = .ok (.iastore, 1) := by decide +kernel
theorem dX8_becomesMaster_130 : decode cX8_becomesMaster 130 = .ok (.return_, 1) := by decide +kernel
theorem dX8_isCalledFor_0 : decode cX8_isCalledFor 0 = .ok (.aload_n 0, 1) := by decide +kernel
theorem dX8_isCalledFor_1 : decode cX8_isCalledFor 1 = .ok (.invokevirtual 300, 3) := by decide +kernel
theorem dX8_isCalledFor_4 : decode cX8_isCalledFor 4 = .ok (.istore_n 1, 1) := by decide +kernel
theorem dX8_isCalledFor_5 : decode cX8_isCalledFor 5 = .ok (.aload_n 0, 1) := by decide +kernel
theorem dX8_isCalledFor_6 : decode cX8_isCalledFor 6 = .ok (.getfield 27, 3) := by decide +kernel
theorem dX8_isCalledFor_9 : decode cX8_isCalledFor 9 = .ok (.iconst 3, 1) := by decide +kernel
theorem dX8_isCalledFor_10 : decode cX8_isCalledFor 10 = .ok (.iaload, 1) := by decide +kernel
theorem dX8_isCalledFor_11 : decode cX8_isCalledFor 11 = .ok (.bipush (-2), 2) := by decide +kernel
theorem dX8_isCalledFor_13 : decode cX8_isCalledFor 13 = .ok (.if_icmp .ne 13, 3) := by decide +kernel
theorem dX8_isCalledFor_16 : decode cX8_isCalledFor 16 = .ok (.iload_n 1, 1) := by decide +kernel
theorem dX8_isCalledFor_17 : decode cX8_isCalledFor 17 = .ok (.ifCond .eq 7, 3) := by decide +kernel
theorem dX8_isCalledFor_20 : decode cX8_isCalledFor 20 = .ok (.iconst 1, 1) := by decide +kernel
theorem dX8_isCalledFor_21 : decode cX8_isCalledFor 21 = .ok (.goto 4, 3) := by decide +kernel
theorem dX8_isCalledFor_24 : decode cX8_isCalledFor 24 = .ok (.iconst 0, 1) := by decide +kernel
theorem dX8_isCalledFor_25 : decode cX8_isCalledFor 25 = .ok (.ireturn, 1) := by decide +kernel
theorem dX8_isCalledFor_26 : decode cX8_isCalledFor 26 = .ok (.iconst 0, 1) := by decide +kernel
theorem dX8_isCalledFor_27 : decode cX8_isCalledFor 27 = .ok (.istore_n 2, 1) := by decide +kernel
theorem dX8_isCalledFor_28 : decode cX8_isCalledFor 28 = .ok (.iload_n 2, 1) := by decide +kernel
theorem dX8_isCalledFor_29 : decode cX8_isCalledFor 29 = .ok (.aload_n 0, 1) := by decide +kernel
theorem dX8_isCalledFor_30 : decode cX8_isCalledFor 30 = .ok (.getfield 17, 3) := by decide +kernel
theorem dX8_isCalledFor_33 : decode cX8_isCalledFor 33 = .ok (.iconst 3, 1) := by decide +kernel
theorem dX8_isCalledFor_34 : decode cX8_isCalledFor 34 = .ok (.iaload, 1) := by decide +kernel
theorem dX8_isCalledFor_35 : decode cX8_isCalledFor 35 = .ok (.if_icmp .ge 37, 3) := by decide +kernel
theorem dX8_isCalledFor_38 : decode cX8_isCalledFor 38 = .ok (.iload_n 1, 1) := by decide +kernel
theorem dX8_isCalledFor_39 : decode cX8_isCalledFor 39 = .ok (.iload_n 2, 1) := by decide +kernel
theorem dX8_isCalledFor_40 : decode cX8_isCalledFor 40 = .ok (.invokestatic 221, 3) := by decide +kernel
theorem dX8_isCalledFor_43 : decode cX8_isCalledFor 43 = .ok (.ifCond .eq 23, 3) := by decide +kernel
theorem dX8_isCalledFor_46 : decode cX8_isCalledFor 46 = .ok (.aload_n 0, 1) := by decide +kernel
theorem dX8_isCalledFor_47 : decode cX8_isCalledFor 47 = .ok (.iload_n 2, 1) := by decide +kernel
theorem dX8_isCalledFor_48 : decode cX8_isCalledFor 48 = .ok (.invokevirtual 212, 3) := by decide +kernel
theorem dX8_isCalledFor_51 : decode cX8_isCalledFor 51 = .ok (.aload_n 0, 1) := by decide +kernel
theorem dX8_isCalledFor_52 : decode cX8_isCalledFor 52 = .ok (.aload_n 0, 1) := by decide +kernel
theorem dX8_isCalledFor_53 : decode cX8_isCalledFor 53 = .ok (.getfield 27, 3) := by decide +kernel
theorem dX8_isCalledFor_56 : decode cX8_isCalledFor 56 = .ok (.iconst 3, 1) := by decide +kernel
theorem dX8_isCalledFor_57 : decode cX8_isCalledFor 57 = .ok (.iaload, 1) := by decide +kernel
theorem dX8_isCalledFor_58 : decode cX8_isCalledFor 58 = .ok (.invokevirtual 212, 3) := by decide +kernel
theorem dX8_isCalledFor_61 : decode cX8_isCalledFor 61 = .ok (.if_icmp .le 5, 3) := by decide +kernel
theorem dX8_isCalledFor_64 : decode cX8_isCalledFor 64 = .ok (.iconst 1, 1) := by decide +kernel
theorem dX8_isCalledFor_65 : decode cX8_isCalledFor 65 = .ok (.ireturn, 1) := by decide +kernel
theorem dX8_isCalledFor_66 : decode cX8_isCalledFor 66 = .ok (.iinc 2 1, 3) := by decide +kernel
theorem dX8_isCalledFor_69 : decode cX8_isCalledFor 69 = .ok (.goto (-41), 3) := by decide +kernel
theorem dX8_isCalledFor_72 : decode cX8_isCalledFor 72 = .ok (.iconst 0, 1) := by decide +kernel
theorem dX8_isCalledFor_73 : decode cX8_isCalledFor 73 = .ok (.ireturn, 1) := by decide +kernel
theorem dX8_tick_0 : decode cX8_tick 0 = .ok (.aload_n 0, 1) := by decide +kernel
theorem dX8_tick_1 : decode cX8_tick 1 = .ok (.getfield 27, 3) := by decide +kernel
theorem dX8_tick_4 : decode cX8_tick 4 = .ok (.iconst 0, 1) := by decide +kernel
theorem dX8_tick_5 : decode cX8_tick 5 = .ok (.dup2, 1) := by decide +kernel
theorem dX8_tick_6 : decode cX8_tick 6 = .ok (.iaload, 1) := by decide +kernel
theorem dX8_tick_7 : decode cX8_tick 7 = .ok (.iconst 1, 1) := by decide +kernel
theorem dX8_tick_8 : decode cX8_tick 8 = .ok (.iadd, 1) := by decide +kernel
theorem dX8_tick_9 : decode cX8_tick 9 = .ok (.iastore, 1) := by decide +kernel
theorem dX8_tick_10 : decode cX8_tick 10 = .ok (.aload_n 0, 1) := by decide +kernel
theorem dX8_tick_11 : decode cX8_tick 11 = .ok (.getfield 27, 3) := by decide +kernel
theorem dX8_tick_14 : decode cX8_tick 14 = .ok (.bipush 11, 2) := by decide +kernel
theorem dX8_tick_16 : decode cX8_tick 16 = .ok (.iaload, 1) := by decide +kernel
theorem dX8_tick_17 : decode cX8_tick 17 = .ok (.aload_n 0, 1) := by decide +kernel
theorem dX8_tick_18 : decode cX8_tick 18 = .ok (.getfield 17, 3) := by decide +kernel
theorem dX8_tick_21 : decode cX8_tick 21 = .ok (.iconst 4, 1) := by decide +kernel
theorem dX8_tick_22 : decode cX8_tick 22 = .ok (.iaload, 1) := by decide +kernel
theorem dX8_tick_23 : decode cX8_tick 23 = .ok (.if_icmp .ge 72, 3) := by decide +kernel
theorem dX8_tick_26 : decode cX8_tick 26 = .ok (.aload_n 0, 1) := by decide +kernel
theorem dX8_tick_27 : decode cX8_tick 27 = .ok (.getfield 17, 3) := by decide +kernel
theorem dX8_tick_30 : decode cX8_tick 30 = .ok (.bipush 23, 2) := by decide +kernel
theorem dX8_tick_32 : decode cX8_tick 32 = .ok (.aload_n 0, 1) := by decide +kernel
theorem dX8_tick_33 : decode cX8_tick 33 = .ok (.getfield 27, 3) := by decide +kernel
theorem dX8_tick_36 : decode cX8_tick 36 = .ok (.bipush 11, 2) := by decide +kernel
theorem dX8_tick_38 : decode cX8_tick 38 = .ok (.iaload, 1) := by decide +kernel
theorem dX8_tick_39 : decode cX8_tick 39 = .ok (.iadd, 1) := by decide +kernel
theorem dX8_tick_40 : decode cX8_tick 40 = .ok (.iaload, 1) := by decide +kernel
theorem dX8_tick_41 : decode cX8_tick 41 = .ok (.aload_n 0, 1) := by decide +kernel
theorem dX8_tick_42 : decode cX8_tick 42 = .ok (.getfield 27, 3) := by decide +kernel
theorem dX8_tick_45 : decode cX8_tick 45 = .ok (.iconst 0, 1) := by decide +kernel
theorem dX8_tick_46 : decode cX8_tick 46 = .ok (.iaload, 1) := by decide +kernel
theorem dX8_tick_47 : decode cX8_tick 47 = .ok (.if_icmp .ne 48, 3) := by decide +kernel
theorem dX8_tick_50 : decode cX8_tick 50 = .ok (.aload_n 0, 1) := by decide +kernel
theorem dX8_tick_51 : decode cX8_tick 51 = .ok (.getfield 27, 3) := by decide +kernel
theorem dX8_tick_54 : decode cX8_tick 54 = .ok (.bipush 11, 2) := by decide +kernel
theorem dX8_tick_56 : decode cX8_tick 56 = .ok (.iaload, 1) := by decide +kernel
theorem dX8_tick_57 : decode cX8_tick 57 = .ok (.istore_n 1, 1) := by decide +kernel
theorem dX8_tick_58 : decode cX8_tick 58 = .ok (.aload_n 0, 1) := by decide +kernel
theorem dX8_tick_59 : decode cX8_tick 59 = .ok (.getfield 27, 3) := by decide +kernel
theorem dX8_tick_62 : decode cX8_tick 62 = .ok (.bipush 11, 2) := by decide +kernel
theorem dX8_tick_64 : decode cX8_tick 64 = .ok (.dup2, 1) := by decide +kernel
theorem dX8_tick_65 : decode cX8_tick 65 = .ok (.iaload, 1) := by decide +kernel
theorem dX8_tick_66 : decode cX8_tick 66 = .ok (.iconst 1, 1) := by decide +kernel
theorem dX8_tick_67 : decode cX8_tick 67 = .ok (.iadd, 1) := by decide +kernel
theorem dX8_tick_68 : decode cX8_tick 68 = .ok (.iastore, 1) := by decide +kernel
theorem dX8_tick_69 : decode cX8_tick 69 = .ok (.aload_n 0, 1) := by decide +kernel
theorem dX8_tick_70 : decode cX8_tick 70 = .ok (.aload_n 0, 1) := by decide +kernel
theorem dX8_tick_71 : decode cX8_tick 71 = .ok (.getfield 17, 3) := by decide +kernel
theorem dX8_tick_74 : decode cX8_tick 74 = .ok (.bipush 35, 2) := by decide +kernel
theorem dX8_tick_76 : decode cX8_tick 76 = .ok (.iload_n 1, 1) := by decide +kernel
theorem dX8_tick_77 : decode cX8_tick 77 = .ok (.iadd, 1) := by decide +kernel
theorem dX8_tick_78 : decode cX8_tick 78 = .ok (.iaload, 1) := by decide +kernel
theorem dX8_tick_79 : decode cX8_tick 79 = .ok (.aload_n 0, 1) := by decide +kernel
theorem dX8_tick_80 : decode cX8_tick 80 = .ok (.getfield 17, 3) := by decide +kernel
theorem dX8_tick_83 : decode cX8_tick 83 = .ok (.bipush 47, 2) := by decide +kernel
theorem dX8_tick_85 : decode cX8_tick 85 = .ok (.iload_n 1, 1) := by decide +kernel
theorem dX8_tick_86 : decode cX8_tick 86 = .ok (.iadd, 1) := by decide +kernel
theorem dX8_tick_87 : decode cX8_tick 87 = .ok (.iaload, 1) := by decide +kernel
theorem dX8_tick_88 : decode cX8_tick 88 = .ok (.invokevirtual 309, 3) := by decide +kernel
theorem dX8_tick_91 : decode cX8_tick 91 = .ok (.istore_n 2, 1) := by decide +kernel
theorem dX8_tick_92 : decode cX8_tick 92 = .ok (.goto (-82), 3) := by decide +kernel
theorem dX8_tick_95 : decode cX8_tick 95 = .ok (.aload_n 0, 1) := by decide +kernel
theorem dX8_tick_96 : decode cX8_tick 96 = .ok (.getfield 27, 3) := by decide +kernel
theorem dX8_tick_99 : decode cX8_tick 99 = .ok (.iconst 1, 1) := by decide +kernel
theorem dX8_tick_100 : decode cX8_tick 100 = .ok (.iaload, 1) := by decide +kernel
theorem dX8_tick_101 : decode cX8_tick 101 = .ok (.bipush (-2), 2) := by decide +kernel
theorem dX8_tick_103 : decode cX8_tick 103 = .ok (.if_icmp .eq 34, 3) := by decide +kernel
theorem dX8_tick_106 : decode cX8_tick 106 = .ok (.aload_n 0, 1) := by decide +kernel
theorem dX8_tick_107 : decode cX8_tick 107 = .ok (.getfield 27, 3) := by decide +kernel
theorem dX8_tick_110 : decode cX8_tick 110 = .ok (.iconst 2, 1) := by decide +kernel
theorem dX8_tick_111 : decode cX8_tick 111 = .ok (.iaload, 1) := by decide +kernel
theorem dX8_tick_112 : decode cX8_tick 112 = .ok (.aload_n 0, 1) := by decide +kernel
theorem dX8_tick_113 : decode cX8_tick 113 = .ok (.getfield 27, 3) := by decide +kernel
theorem dX8_tick_116 : decode cX8_tick 116 = .ok (.iconst 0, 1) := by decide +kernel
theorem dX8_tick_117 : decode cX8_tick 117 = .ok (.iaload, 1) := by decide +kernel
theorem dX8_tick_118 : decode cX8_tick 118 = .ok (.if_icmp .ne 19, 3) := by decide +kernel
theorem dX8_tick_121 : decode cX8_tick 121 = .ok (.aload_n 0, 1) := by decide +kernel
theorem dX8_tick_122 : decode cX8_tick 122 = .ok (.getfield 27, 3) := by decide +kernel
theorem dX8_tick_125 : decode cX8_tick 125 = .ok (.iconst 1, 1) := by decide +kernel
theorem dX8_tick_126 : decode cX8_tick 126 = .ok (.bipush (-2), 2) := by decide +kernel
theorem dX8_tick_128 : decode cX8_tick 128 = .ok (.iastore, 1) := by decide +kernel
theorem dX8_tick_129 : decode cX8_tick 129 = .ok (.aload_n 0, 1) := by decide +kernel
theorem dX8_tick_130 : decode cX8_tick 130 = .ok (.getfield 27, 3) := by decide +kernel
theorem dX8_tick_133 : decode cX8_tick 133 = .ok (.iconst 2, 1) := by decide +kernel
theorem dX8_tick_134 : decode cX8_tick 134 = .ok (.bipush (-2), 2) := by decide +kernel
theorem dX8_tick_136 : decode cX8_tick 136 = .ok (.iastore, 1) := by decide +kernel
theorem dX8_tick_137 : decode cX8_tick 137 = .ok (.aload_n 0, 1) := by decide +kernel
theorem dX8_tick_138 : decode cX8_tick 138 = .ok (.getfield 27, 3) := by decide +kernel
theorem dX8_tick_141 : decode cX8_tick 141 = .ok (.iconst 4, 1) := by decide +kernel
theorem dX8_tick_142 : decode cX8_tick 142 = .ok (.iaload, 1) := by decide +kernel
theorem dX8_tick_143 : decode cX8_tick 143 = .ok (.aload_n 0, 1) := by decide +kernel
theorem dX8_tick_144 : decode cX8_tick 144 = .ok (.getfield 27, 3) := by decide +kernel
theorem dX8_tick_147 : decode cX8_tick 147 = .ok (.iconst 0, 1) := by decide +kernel
theorem dX8_tick_148 : decode cX8_tick 148 = .ok (.iaload, 1) := by decide +kernel
theorem dX8_tick_149 : decode cX8_tick 149 = .ok (.if_icmp .ne 7, 3) := by decide +kernel
theorem dX8_tick_152 : decode cX8_tick 152 = .ok (.aload_n 0, 1) := by decide +kernel
theorem dX8_tick_153 : decode cX8_tick 153 = .ok (.invokevirtual 312, 3) := by decide +kernel
theorem dX8_tick_156 : decode cX8_tick 156 = .ok (.aload_n 0, 1) := by decide +kernel
theorem dX8_tick_157 : decode cX8_tick 157 = .ok (.getfield 27, 3) := by decide +kernel
theorem dX8_tick_160 : decode cX8_tick 160 = .ok (.iconst 1, 1) := by decide +kernel
theorem dX8_tick_161 : decode cX8_tick 161 = .ok (.iaload, 1) := by decide +kernel
theorem dX8_tick_162 : decode cX8_tick 162 = .ok (.bipush (-2), 2) := by decide +kernel
theorem dX8_tick_164 : decode cX8_tick 164 = .ok (.if_icmp .ne 29, 3) := by decide +kernel
theorem dX8_tick_167 : decode cX8_tick 167 = .ok (.aload_n 0, 1) := by decide +kernel
theorem dX8_tick_168 : decode cX8_tick 168 = .ok (.getfield 27, 3) := by decide +kernel
theorem dX8_tick_171 : decode cX8_tick 171 = .ok (.iconst 3, 1) := by decide +kernel
theorem dX8_tick_172 : decode cX8_tick 172 = .ok (.iaload, 1) := by decide +kernel
theorem dX8_tick_173 : decode cX8_tick 173 = .ok (.bipush (-2), 2) := by decide +kernel
theorem dX8_tick_175 : decode cX8_tick 175 = .ok (.if_icmp .eq 18, 3) := by decide +kernel
theorem dX8_tick_178 : decode cX8_tick 178 = .ok (.aload_n 0, 1) := by decide +kernel
theorem dX8_tick_179 : decode cX8_tick 179 = .ok (.getfield 27, 3) := by decide +kernel
theorem dX8_tick_182 : decode cX8_tick 182 = .ok (.iconst 4, 1) := by decide +kernel
theorem dX8_tick_183 : decode cX8_tick 183 = .ok (.iaload, 1) := by decide +kernel
theorem dX8_tick_184 : decode cX8_tick 184 = .ok (.bipush (-2), 2) := by decide +kernel
theorem dX8_tick_186 : decode cX8_tick 186 = .ok (.if_icmp .ne 7, 3) := by decide +kernel
theorem dX8_tick_189 : decode cX8_tick 189 = .ok (.aload_n 0, 1) := by decide +kernel
theorem dX8_tick_190 : decode cX8_tick 190 = .ok (.invokevirtual 315, 3) := by decide +kernel
theorem dX8_tick_193 : decode cX8_tick 193 = .ok (.aload_n 0, 1) := by decide +kernel
theorem dX8_tick_194 : decode cX8_tick 194 = .ok (.getfield 27, 3) := by decide +kernel
theorem dX8_tick_197 : decode cX8_tick 197 = .ok (.iconst 4, 1) := by decide +kernel
theorem dX8_tick_198 : decode cX8_tick 198 = .ok (.iaload, 1) := by decide +kernel
theorem dX8_tick_199 : decode cX8_tick 199 = .ok (.bipush (-2), 2) := by decide +kernel
theorem dX8_tick_201 : decode cX8_tick 201 = .ok (.if_icmp .ne 14, 3) := by decide +kernel
theorem dX8_tick_204 : decode cX8_tick 204 = .ok (.aload_n 0, 1) := by decide +kernel
theorem dX8_tick_205 : decode cX8_tick 205 = .ok (.invokevirtual 318, 3) := by decide +kernel
theorem dX8_tick_208 : decode cX8_tick 208 = .ok (.ifCond .eq 7, 3) := by decide +kernel
theorem dX8_tick_211 : decode cX8_tick 211 = .ok (.aload_n 0, 1) := by decide +kernel
theorem dX8_tick_212 : decode cX8_tick 212 = .ok (.invokevirtual 321, 3) := by decide +kernel
theorem dX8_tick_215 : decode cX8_tick 215 = .ok (.aload_n 0, 1) := by decide +kernel
theorem dX8_tick_216 : decode cX8_tick 216 = .ok (.getfield 27, 3) := by decide +kernel
theorem dX8_tick_219 : decode cX8_tick 219 = .ok (.iconst 1, 1) := by decide +kernel
theorem dX8_tick_220 : decode cX8_tick 220 = .ok (.iaload, 1) := by decide +kernel
theorem dX8_tick_221 : decode cX8_tick 221 = .ok (.bipush (-2), 2) := by decide +kernel
theorem dX8_tick_223 : decode cX8_tick 223 = .ok (.if_icmp .eq 23, 3) := by decide +kernel
theorem dX8_tick_226 : decode cX8_tick 226 = .ok (.aload_n 0, 1) := by decide +kernel
theorem dX8_tick_227 : decode cX8_tick 227 = .ok (.getfield 27, 3) := by decide +kernel
theorem dX8_tick_230 : decode cX8_tick 230 = .ok (.aload_n 0, 1) := by decide +kernel
theorem dX8_tick_231 : decode cX8_tick 231 = .ok (.getfield 27, 3) := by decide +kernel
theorem dX8_tick_234 : decode cX8_tick 234 = .ok (.iconst 1, 1) := by decide +kernel
theorem dX8_tick_235 : decode cX8_tick 235 = .ok (.iaload, 1) := by decide +kernel
theorem dX8_tick_236 : decode cX8_tick 236 = .ok (.bipush 7, 2) := by decide +kernel
theorem dX8_tick_238 : decode cX8_tick 238 = .ok (.invokestatic 201, 3) := by decide +kernel
theorem dX8_tick_241 : decode cX8_tick 241 = .ok (.dup2, 1) := by decide +kernel
theorem dX8_tick_242 : decode cX8_tick 242 = .ok (.iaload, 1) := by decide +kernel
theorem dX8_tick_243 : decode cX8_tick 243 = .ok (.iconst 1, 1) := by decide +kernel
theorem dX8_tick_244 : decode cX8_tick 244 = .ok (.iadd, 1) := by decide +kernel
theorem dX8_tick_245 : decode cX8_tick 245 = .ok (.iastore, 1) := by decide +kernel
theorem dX8_tick_246 : decode cX8_tick 246 = .ok (.aload_n 0, 1) := by decide +kernel
theorem dX8_tick_247 : decode cX8_tick 247 = .ok (.getfield 27, 3) := by decide +kernel
theorem dX8_tick_250 : decode cX8_tick 250 = .ok (.sipush 187, 3) := by decide +kernel
theorem dX8_tick_253 : decode cX8_tick 253 = .ok (.aload_n 0, 1) := by decide +kernel
theorem dX8_tick_254 : decode cX8_tick 254 = .ok (.getfield 27, 3) := by decide +kernel
theorem dX8_tick_257 : decode cX8_tick 257 = .ok (.iconst 0, 1) := by decide +kernel
theorem dX8_tick_258 : decode cX8_tick 258 = .ok (.iaload, 1) := by decide +kernel
theorem dX8_tick_259 : decode cX8_tick 259 = .ok (.bipush 64, 2) := by decide +kernel
theorem dX8_tick_261 : decode cX8_tick 261 = .ok (.irem, 1) := by decide +kernel
theorem dX8_tick_262 : decode cX8_tick 262 = .ok (.iadd, 1) := by decide +kernel
theorem dX8_tick_263 : decode cX8_tick 263 = .ok (.aload_n 0, 1) := by decide +kernel
theorem dX8_tick_264 : decode cX8_tick 264 = .ok (.getfield 27, 3) := by decide +kernel
theorem dX8_tick_267 : decode cX8_tick 267 = .ok (.iconst 1, 1) := by decide +kernel
theorem dX8_tick_268 : decode cX8_tick 268 = .ok (.iaload, 1) := by decide +kernel
theorem dX8_tick_269 : decode cX8_tick 269 = .ok (.iastore, 1) := by decide +kernel
theorem dX8_tick_270 : decode cX8_tick 270 = .ok (.return_, 1) := by decide +kernel
theorem dX8_laysAside_0 : decode cX8_laysAside 0 = .ok (.iconst 0, 1) := by decide +kernel
theorem dX8_laysAside_1 : decode cX8_laysAside 1 = .ok (.istore_n 1, 1) := by decide +kernel
theorem dX8_laysAside_2 : decode cX8_laysAside 2 = .ok (.iload_n 1, 1) := by decide +kernel
theorem dX8_laysAside_3 : decode cX8_laysAside 3 = .ok (.sipush 251, 3) := by decide +kernel
theorem dX8_laysAside_6 : decode cX8_laysAside 6 = .ok (.if_icmp .ge 21, 3) := by decide +kernel
theorem dX8_laysAside_9 : decode cX8_laysAside 9 = .ok (.aload_n 0, 1) := by decide +kernel
theorem dX8_laysAside_10 : decode cX8_laysAside 10 = .ok (.getfield 30, 3) := by decide +kernel
theorem dX8_laysAside_13 : decode cX8_laysAside 13 = .ok (.iload_n 1, 1) := by decide +kernel
theorem dX8_laysAside_14 : decode cX8_laysAside 14 = .ok (.aload_n 0, 1) := by decide +kernel
theorem dX8_laysAside_15 : decode cX8_laysAside 15 = .ok (.getfield 27, 3) := by decide +kernel
theorem dX8_laysAside_18 : decode cX8_laysAside 18 = .ok (.iload_n 1, 1) := by decide +kernel
theorem dX8_laysAside_19 : decode cX8_laysAside 19 = .ok (.iaload, 1) := by decide +kernel
theorem dX8_laysAside_20 : decode cX8_laysAside 20 = .ok (.iastore, 1) := by decide +kernel
theorem dX8_laysAside_21 : decode cX8_laysAside 21 = .ok (.iinc 1 1, 3) := by decide +kernel
theorem dX8_laysAside_24 : decode cX8_laysAside 24 = .ok (.goto (-22), 3) := by decide +kernel
theorem dX8_laysAside_27 : decode cX8_laysAside 27 = .ok (.return_, 1) := by decide +kernel
theorem dX8_takesBack_0 : decode cX8_takesBack 0 = .ok (.iconst 0, 1) := by decide +kernel
theorem dX8_takesBack_1 : decode cX8_takesBack 1 = .ok (.istore_n 1, 1) := by decide +kernel
theorem dX8_takesBack_2 : decode cX8_takesBack 2 = .ok (.iload_n 1, 1) := by decide +kernel
theorem dX8_takesBack_3 : decode cX8_takesBack 3 = .ok (.sipush 251, 3) := by decide +kernel
theorem dX8_takesBack_6 : decode cX8_takesBack 6 = .ok (.if_icmp .ge 21, 3) := by decide +kernel
theorem dX8_takesBack_9 : decode cX8_takesBack 9 = .ok (.aload_n 0, 1) := by decide +kernel
theorem dX8_takesBack_10 : decode cX8_takesBack 10 = .ok (.getfield 27, 3) := by decide +kernel
theorem dX8_takesBack_13 : decode cX8_takesBack 13 = .ok (.iload_n 1, 1) := by decide +kernel
theorem dX8_takesBack_14 : decode cX8_takesBack 14 = .ok (.aload_n 0, 1) := by decide +kernel
theorem dX8_takesBack_15 : decode cX8_takesBack 15 = .ok (.getfield 30, 3) := by decide +kernel
theorem dX8_takesBack_18 : decode cX8_takesBack 18 = .ok (.iload_n 1, 1) := by decide +kernel
theorem dX8_takesBack_19 : decode cX8_takesBack 19 = .ok (.iaload, 1) := by decide +kernel
theorem dX8_takesBack_20 : decode cX8_takesBack 20 = .ok (.iastore, 1) := by decide +kernel
theorem dX8_takesBack_21 : decode cX8_takesBack 21 = .ok (.iinc 1 1, 3) := by decide +kernel
theorem dX8_takesBack_24 : decode cX8_takesBack 24 = .ok (.goto (-22), 3) := by decide +kernel
theorem dX8_takesBack_27 : decode cX8_takesBack 27 = .ok (.return_, 1) := by decide +kernel
theorem dX8_told_0 : decode cX8_told 0 = .ok (.iload_n 1, 1) := by decide +kernel
theorem dX8_told_1 : decode cX8_told 1 = .ok (.tableswitch 79 0 5 #[39, 46, 53, 60, 67, 74], 39) := by decide +kernel
theorem dX8_told_40 : decode cX8_told 40 = .ok (.aload_n 0, 1) := by decide +kernel
theorem dX8_told_41 : decode cX8_told 41 = .ok (.getfield 27, 3) := by decide +kernel
theorem dX8_told_44 : decode cX8_told 44 = .ok (.iconst 1, 1) := by decide +kernel
theorem dX8_told_45 : decode cX8_told 45 = .ok (.iaload, 1) := by decide +kernel
theorem dX8_told_46 : decode cX8_told 46 = .ok (.ireturn, 1) := by decide +kernel
theorem dX8_told_47 : decode cX8_told 47 = .ok (.aload_n 0, 1) := by decide +kernel
theorem dX8_told_48 : decode cX8_told 48 = .ok (.getfield 27, 3) := by decide +kernel
theorem dX8_told_51 : decode cX8_told 51 = .ok (.iconst 2, 1) := by decide +kernel
theorem dX8_told_52 : decode cX8_told 52 = .ok (.iaload, 1) := by decide +kernel
theorem dX8_told_53 : decode cX8_told 53 = .ok (.ireturn, 1) := by decide +kernel
theorem dX8_told_54 : decode cX8_told 54 = .ok (.aload_n 0, 1) := by decide +kernel
theorem dX8_told_55 : decode cX8_told 55 = .ok (.getfield 27, 3) := by decide +kernel
theorem dX8_told_58 : decode cX8_told 58 = .ok (.iconst 3, 1) := by decide +kernel
theorem dX8_told_59 : decode cX8_told 59 = .ok (.iaload, 1) := by decide +kernel
theorem dX8_told_60 : decode cX8_told 60 = .ok (.ireturn, 1) := by decide +kernel
theorem dX8_told_61 : decode cX8_told 61 = .ok (.aload_n 0, 1) := by decide +kernel
theorem dX8_told_62 : decode cX8_told 62 = .ok (.getfield 27, 3) := by decide +kernel
theorem dX8_told_65 : decode cX8_told 65 = .ok (.iconst 4, 1) := by decide +kernel
theorem dX8_told_66 : decode cX8_told 66 = .ok (.iaload, 1) := by decide +kernel
theorem dX8_told_67 : decode cX8_told 67 = .ok (.ireturn, 1) := by decide +kernel
theorem dX8_told_68 : decode cX8_told 68 = .ok (.aload_n 0, 1) := by decide +kernel
theorem dX8_told_69 : decode cX8_told 69 = .ok (.getfield 27, 3) := by decide +kernel
theorem dX8_told_72 : decode cX8_told 72 = .ok (.iconst 5, 1) := by decide +kernel
theorem dX8_told_73 : decode cX8_told 73 = .ok (.iaload, 1) := by decide +kernel
theorem dX8_told_74 : decode cX8_told 74 = .ok (.ireturn, 1) := by decide +kernel
theorem dX8_told_75 : decode cX8_told 75 = .ok (.aload_n 0, 1) := by decide +kernel
theorem dX8_told_76 : decode cX8_told 76 = .ok (.invokevirtual 300, 3) := by decide +kernel
theorem dX8_told_79 : decode cX8_told 79 = .ok (.ireturn, 1) := by decide +kernel
theorem dX8_told_80 : decode cX8_told 80 = .ok (.aload_n 0, 1) := by decide +kernel
theorem dX8_told_81 : decode cX8_told 81 = .ok (.getfield 27, 3) := by decide +kernel
theorem dX8_told_84 : decode cX8_told 84 = .ok (.bipush 6, 2) := by decide +kernel
theorem dX8_told_86 : decode cX8_told 86 = .ok (.iload_n 1, 1) := by decide +kernel
theorem dX8_told_87 : decode cX8_told 87 = .ok (.iadd, 1) := by decide +kernel
theorem dX8_told_88 : decode cX8_told 88 = .ok (.bipush 6, 2) := by decide +kernel
theorem dX8_told_90 : decode cX8_told 90 = .ok (.isub, 1) := by decide +kernel
theorem dX8_told_91 : decode cX8_told 91 = .ok (.iaload, 1) := by decide +kernel
theorem dX8_told_92 : decode cX8_told 92 = .ok (.ireturn, 1) := by decide +kernel
theorem dX8_now_0 : decode cX8_now 0 = .ok (.aload_n 0, 1) := by decide +kernel
theorem dX8_now_1 : decode cX8_now 1 = .ok (.aload_n 0, 1) := by decide +kernel
theorem dX8_now_2 : decode cX8_now 2 = .ok (.getfield 192, 3) := by decide +kernel
theorem dX8_now_5 : decode cX8_now 5 = .ok (.ifCond .eq 17, 3) := by decide +kernel
theorem dX8_now_8 : decode cX8_now 8 = .ok (.iload_n 1, 1) := by decide +kernel
theorem dX8_now_9 : decode cX8_now 9 = .ok (.iconst 0, 1) := by decide +kernel
theorem dX8_now_10 : decode cX8_now 10 = .ok (.bipush 10, 2) := by decide +kernel
theorem dX8_now_12 : decode cX8_now 12 = .ok (.invokestatic 83, 3) := by decide +kernel
theorem dX8_now_15 : decode cX8_now 15 = .ok (.ifCond .eq 7, 3) := by decide +kernel
theorem dX8_now_18 : decode cX8_now 18 = .ok (.iconst 1, 1) := by decide +kernel
theorem dX8_now_19 : decode cX8_now 19 = .ok (.goto 4, 3) := by decide +kernel
theorem dX8_now_22 : decode cX8_now 22 = .ok (.iconst 0, 1) := by decide +kernel
theorem dX8_now_23 : decode cX8_now 23 = .ok (.invokestatic 324, 3) := by decide +kernel
theorem dX8_now_26 : decode cX8_now 26 = .ok (.invokevirtual 180, 3) := by decide +kernel
theorem dX8_now_29 : decode cX8_now 29 = .ok (.ifCond .eq 7, 3) := by decide +kernel
theorem dX8_now_32 : decode cX8_now 32 = .ok (.iconst (-1), 1) := by decide +kernel
theorem dX8_now_33 : decode cX8_now 33 = .ok (.goto 8, 3) := by decide +kernel
theorem dX8_now_36 : decode cX8_now 36 = .ok (.aload_n 0, 1) := by decide +kernel
theorem dX8_now_37 : decode cX8_now 37 = .ok (.iload_n 1, 1) := by decide +kernel
theorem dX8_now_38 : decode cX8_now 38 = .ok (.invokevirtual 328, 3) := by decide +kernel
theorem dX8_now_41 : decode cX8_now 41 = .ok (.ireturn, 1) := by decide +kernel
theorem dX8_ledger_0 : decode cX8_ledger 0 = .ok (.aload_n 0, 1) := by decide +kernel
theorem dX8_ledger_1 : decode cX8_ledger 1 = .ok (.aload_n 0, 1) := by decide +kernel
theorem dX8_ledger_2 : decode cX8_ledger 2 = .ok (.iload_n 1, 1) := by decide +kernel
theorem dX8_ledger_3 : decode cX8_ledger 3 = .ok (.invokevirtual 268, 3) := by decide +kernel
theorem dX8_ledger_6 : decode cX8_ledger 6 = .ok (.ifCond .eq 16, 3) := by decide +kernel
theorem dX8_ledger_9 : decode cX8_ledger 9 = .ok (.iload_n 2, 1) := by decide +kernel
theorem dX8_ledger_10 : decode cX8_ledger 10 = .ok (.iconst 0, 1) := by decide +kernel
theorem dX8_ledger_11 : decode cX8_ledger 11 = .ok (.iconst 5, 1) := by decide +kernel
theorem dX8_ledger_12 : decode cX8_ledger 12 = .ok (.invokestatic 83, 3) := by decide +kernel
theorem dX8_ledger_15 : decode cX8_ledger 15 = .ok (.ifCond .eq 7, 3) := by decide +kernel
theorem dX8_ledger_18 : decode cX8_ledger 18 = .ok (.iconst 1, 1) := by decide +kernel
theorem dX8_ledger_19 : decode cX8_ledger 19 = .ok (.goto 4, 3) := by decide +kernel
theorem dX8_ledger_22 : decode cX8_ledger 22 = .ok (.iconst 0, 1) := by decide +kernel
theorem dX8_ledger_23 : decode cX8_ledger 23 = .ok (.invokestatic 324, 3) := by decide +kernel
theorem dX8_ledger_26 : decode cX8_ledger 26 = .ok (.invokevirtual 180, 3) := by decide +kernel
theorem dX8_ledger_29 : decode cX8_ledger 29 = .ok (.ifCond .eq 7, 3) := by decide +kernel
theorem dX8_ledger_32 : decode cX8_ledger 32 = .ok (.iconst (-1), 1) := by decide +kernel
theorem dX8_ledger_33 : decode cX8_ledger 33 = .ok (.goto 16, 3) := by decide +kernel
theorem dX8_ledger_36 : decode cX8_ledger 36 = .ok (.aload_n 0, 1) := by decide +kernel
theorem dX8_ledger_37 : decode cX8_ledger 37 = .ok (.getfield 27, 3) := by decide +kernel
theorem dX8_ledger_40 : decode cX8_ledger 40 = .ok (.iload_n 1, 1) := by decide +kernel
theorem dX8_ledger_41 : decode cX8_ledger 41 = .ok (.bipush 6, 2) := by decide +kernel
theorem dX8_ledger_43 : decode cX8_ledger 43 = .ok (.iload_n 2, 1) := by decide +kernel
theorem dX8_ledger_44 : decode cX8_ledger 44 = .ok (.iadd, 1) := by decide +kernel
theorem dX8_ledger_45 : decode cX8_ledger 45 = .ok (.invokestatic 201, 3) := by decide +kernel
theorem dX8_ledger_48 : decode cX8_ledger 48 = .ok (.iaload, 1) := by decide +kernel
theorem dX8_ledger_49 : decode cX8_ledger 49 = .ok (.ireturn, 1) := by decide +kernel
theorem dX8_past_0 : decode cX8_past 0 = .ok (.aload_n 0, 1) := by decide +kernel
theorem dX8_past_1 : decode cX8_past 1 = .ok (.aload_n 0, 1) := by decide +kernel
theorem dX8_past_2 : decode cX8_past 2 = .ok (.getfield 192, 3) := by decide +kernel
theorem dX8_past_5 : decode cX8_past 5 = .ok (.ifCond .ne 7, 3) := by decide +kernel
theorem dX8_past_8 : decode cX8_past 8 = .ok (.iconst 1, 1) := by decide +kernel
theorem dX8_past_9 : decode cX8_past 9 = .ok (.goto 18, 3) := by decide +kernel
theorem dX8_past_12 : decode cX8_past 12 = .ok (.iload_n 1, 1) := by decide +kernel
theorem dX8_past_13 : decode cX8_past 13 = .ok (.iconst 0, 1) := by decide +kernel
theorem dX8_past_14 : decode cX8_past 14 = .ok (.bipush 63, 2) := by decide +kernel
theorem dX8_past_16 : decode cX8_past 16 = .ok (.invokestatic 83, 3) := by decide +kernel
theorem dX8_past_19 : decode cX8_past 19 = .ok (.ifCond .eq 7, 3) := by decide +kernel
theorem dX8_past_22 : decode cX8_past 22 = .ok (.iconst 0, 1) := by decide +kernel
theorem dX8_past_23 : decode cX8_past 23 = .ok (.goto 4, 3) := by decide +kernel
theorem dX8_past_26 : decode cX8_past 26 = .ok (.iconst 2, 1) := by decide +kernel
theorem dX8_past_27 : decode cX8_past 27 = .ok (.invokevirtual 180, 3) := by decide +kernel
theorem dX8_past_30 : decode cX8_past 30 = .ok (.ifCond .eq 5, 3) := by decide +kernel
theorem dX8_past_33 : decode cX8_past 33 = .ok (.iconst (-1), 1) := by decide +kernel
theorem dX8_past_34 : decode cX8_past 34 = .ok (.ireturn, 1) := by decide +kernel
theorem dX8_past_35 : decode cX8_past 35 = .ok (.iload_n 1, 1) := by decide +kernel
theorem dX8_past_36 : decode cX8_past 36 = .ok (.aload_n 0, 1) := by decide +kernel
theorem dX8_past_37 : decode cX8_past 37 = .ok (.getfield 27, 3) := by decide +kernel
theorem dX8_past_40 : decode cX8_past 40 = .ok (.iconst 0, 1) := by decide +kernel
theorem dX8_past_41 : decode cX8_past 41 = .ok (.iaload, 1) := by decide +kernel
theorem dX8_past_42 : decode cX8_past 42 = .ok (.if_icmp .ge 26, 3) := by decide +kernel
theorem dX8_past_45 : decode cX8_past 45 = .ok (.aload_n 0, 1) := by decide +kernel
theorem dX8_past_46 : decode cX8_past 46 = .ok (.getfield 27, 3) := by decide +kernel
theorem dX8_past_49 : decode cX8_past 49 = .ok (.sipush 187, 3) := by decide +kernel
theorem dX8_past_52 : decode cX8_past 52 = .ok (.aload_n 0, 1) := by decide +kernel
theorem dX8_past_53 : decode cX8_past 53 = .ok (.getfield 27, 3) := by decide +kernel
theorem dX8_past_56 : decode cX8_past 56 = .ok (.iconst 0, 1) := by decide +kernel
theorem dX8_past_57 : decode cX8_past 57 = .ok (.iaload, 1) := by decide +kernel
theorem dX8_past_58 : decode cX8_past 58 = .ok (.iload_n 1, 1) := by decide +kernel
theorem dX8_past_59 : decode cX8_past 59 = .ok (.isub, 1) := by decide +kernel
theorem dX8_past_60 : decode cX8_past 60 = .ok (.bipush 64, 2) := by decide +kernel
theorem dX8_past_62 : decode cX8_past 62 = .ok (.irem, 1) := by decide +kernel
theorem dX8_past_63 : decode cX8_past 63 = .ok (.iadd, 1) := by decide +kernel
theorem dX8_past_64 : decode cX8_past 64 = .ok (.iaload, 1) := by decide +kernel
theorem dX8_past_65 : decode cX8_past 65 = .ok (.goto 5, 3) := by decide +kernel
theorem dX8_past_68 : decode cX8_past 68 = .ok (.bipush (-2), 2) := by decide +kernel
theorem dX8_past_70 : decode cX8_past 70 = .ok (.ireturn, 1) := by decide +kernel
theorem dX8_idle_0 : decode cX8_idle 0 = .ok (.aload_n 0, 1) := by decide +kernel
theorem dX8_idle_1 : decode cX8_idle 1 = .ok (.aload_n 0, 1) := by decide +kernel
theorem dX8_idle_2 : decode cX8_idle 2 = .ok (.getfield 192, 3) := by decide +kernel
theorem dX8_idle_5 : decode cX8_idle 5 = .ok (.invokestatic 324, 3) := by decide +kernel
theorem dX8_idle_8 : decode cX8_idle 8 = .ok (.invokevirtual 180, 3) := by decide +kernel
theorem dX8_idle_11 : decode cX8_idle 11 = .ok (.ifCond .eq 5, 3) := by decide +kernel
theorem dX8_idle_14 : decode cX8_idle 14 = .ok (.iconst (-1), 1) := by decide +kernel
theorem dX8_idle_15 : decode cX8_idle 15 = .ok (.ireturn, 1) := by decide +kernel
theorem dX8_idle_16 : decode cX8_idle 16 = .ok (.iconst 0, 1) := by decide +kernel
theorem dX8_idle_17 : decode cX8_idle 17 = .ok (.istore_n 1, 1) := by decide +kernel
theorem dX8_idle_18 : decode cX8_idle 18 = .ok (.iconst 0, 1) := by decide +kernel
theorem dX8_idle_19 : decode cX8_idle 19 = .ok (.istore_n 2, 1) := by decide +kernel
theorem dX8_idle_20 : decode cX8_idle 20 = .ok (.iload_n 2, 1) := by decide +kernel
theorem dX8_idle_21 : decode cX8_idle 21 = .ok (.bipush 64, 2) := by decide +kernel
theorem dX8_idle_23 : decode cX8_idle 23 = .ok (.if_icmp .ge 52, 3) := by decide +kernel
theorem dX8_idle_26 : decode cX8_idle 26 = .ok (.iload_n 2, 1) := by decide +kernel
theorem dX8_idle_27 : decode cX8_idle 27 = .ok (.aload_n 0, 1) := by decide +kernel
theorem dX8_idle_28 : decode cX8_idle 28 = .ok (.getfield 27, 3) := by decide +kernel
theorem dX8_idle_31 : decode cX8_idle 31 = .ok (.iconst 0, 1) := by decide +kernel
theorem dX8_idle_32 : decode cX8_idle 32 = .ok (.iaload, 1) := by decide +kernel
theorem dX8_idle_33 : decode cX8_idle 33 = .ok (.if_icmp .ge 42, 3) := by decide +kernel
theorem dX8_idle_36 : decode cX8_idle 36 = .ok (.iload_n 1, 1) := by decide +kernel
theorem dX8_idle_37 : decode cX8_idle 37 = .ok (.aload_n 0, 1) := by decide +kernel
theorem dX8_idle_38 : decode cX8_idle 38 = .ok (.getfield 27, 3) := by decide +kernel
theorem dX8_idle_41 : decode cX8_idle 41 = .ok (.sipush 187, 3) := by decide +kernel
theorem dX8_idle_44 : decode cX8_idle 44 = .ok (.aload_n 0, 1) := by decide +kernel
theorem dX8_idle_45 : decode cX8_idle 45 = .ok (.getfield 27, 3) := by decide +kernel
theorem dX8_idle_48 : decode cX8_idle 48 = .ok (.iconst 0, 1) := by decide +kernel
theorem dX8_idle_49 : decode cX8_idle 49 = .ok (.iaload, 1) := by decide +kernel
theorem dX8_idle_50 : decode cX8_idle 50 = .ok (.iload_n 2, 1) := by decide +kernel
theorem dX8_idle_51 : decode cX8_idle 51 = .ok (.isub, 1) := by decide +kernel
theorem dX8_idle_52 : decode cX8_idle 52 = .ok (.bipush 64, 2) := by decide +kernel
theorem dX8_idle_54 : decode cX8_idle 54 = .ok (.irem, 1) := by decide +kernel
theorem dX8_idle_55 : decode cX8_idle 55 = .ok (.iadd, 1) := by decide +kernel
theorem dX8_idle_56 : decode cX8_idle 56 = .ok (.iaload, 1) := by decide +kernel
theorem dX8_idle_57 : decode cX8_idle 57 = .ok (.bipush (-2), 2) := by decide +kernel
theorem dX8_idle_59 : decode cX8_idle 59 = .ok (.if_icmp .ne 7, 3) := by decide +kernel
theorem dX8_idle_62 : decode cX8_idle 62 = .ok (.iconst 1, 1) := by decide +kernel
theorem dX8_idle_63 : decode cX8_idle 63 = .ok (.goto 4, 3) := by decide +kernel
theorem dX8_idle_66 : decode cX8_idle 66 = .ok (.iconst 0, 1) := by decide +kernel
theorem dX8_idle_67 : decode cX8_idle 67 = .ok (.iadd, 1) := by decide +kernel
theorem dX8_idle_68 : decode cX8_idle 68 = .ok (.istore_n 1, 1) := by decide +kernel
theorem dX8_idle_69 : decode cX8_idle 69 = .ok (.iinc 2 1, 3) := by decide +kernel
theorem dX8_idle_72 : decode cX8_idle 72 = .ok (.goto (-52), 3) := by decide +kernel
theorem dX8_idle_75 : decode cX8_idle 75 = .ok (.iload_n 1, 1) := by decide +kernel
theorem dX8_idle_76 : decode cX8_idle 76 = .ok (.ireturn, 1) := by decide +kernel
theorem dX8_log_0 : decode cX8_log 0 = .ok (.aload_n 0, 1) := by decide +kernel
theorem dX8_log_1 : decode cX8_log 1 = .ok (.aload_n 0, 1) := by decide +kernel
theorem dX8_log_2 : decode cX8_log 2 = .ok (.getfield 192, 3) := by decide +kernel
theorem dX8_log_5 : decode cX8_log 5 = .ok (.ifCond .eq 33, 3) := by decide +kernel
theorem dX8_log_8 : decode cX8_log 8 = .ok (.iload_n 1, 1) := by decide +kernel
theorem dX8_log_9 : decode cX8_log 9 = .ok (.iconst 0, 1) := by decide +kernel
theorem dX8_log_10 : decode cX8_log 10 = .ok (.aload_n 0, 1) := by decide +kernel
theorem dX8_log_11 : decode cX8_log 11 = .ok (.getfield 27, 3) := by decide +kernel
theorem dX8_log_14 : decode cX8_log 14 = .ok (.bipush 90, 2) := by decide +kernel
theorem dX8_log_16 : decode cX8_log 16 = .ok (.iaload, 1) := by decide +kernel
theorem dX8_log_17 : decode cX8_log 17 = .ok (.iconst 1, 1) := by decide +kernel
theorem dX8_log_18 : decode cX8_log 18 = .ok (.isub, 1) := by decide +kernel
theorem dX8_log_19 : decode cX8_log 19 = .ok (.invokestatic 83, 3) := by decide +kernel
theorem dX8_log_22 : decode cX8_log 22 = .ok (.ifCond .eq 16, 3) := by decide +kernel
theorem dX8_log_25 : decode cX8_log 25 = .ok (.iload_n 2, 1) := by decide +kernel
theorem dX8_log_26 : decode cX8_log 26 = .ok (.iconst 0, 1) := by decide +kernel
theorem dX8_log_27 : decode cX8_log 27 = .ok (.iconst 5, 1) := by decide +kernel
theorem dX8_log_28 : decode cX8_log 28 = .ok (.invokestatic 83, 3) := by decide +kernel
theorem dX8_log_31 : decode cX8_log 31 = .ok (.ifCond .eq 7, 3) := by decide +kernel
theorem dX8_log_34 : decode cX8_log 34 = .ok (.iconst 1, 1) := by decide +kernel
theorem dX8_log_35 : decode cX8_log 35 = .ok (.goto 4, 3) := by decide +kernel
theorem dX8_log_38 : decode cX8_log 38 = .ok (.iconst 0, 1) := by decide +kernel
theorem dX8_log_39 : decode cX8_log 39 = .ok (.invokestatic 324, 3) := by decide +kernel
theorem dX8_log_42 : decode cX8_log 42 = .ok (.invokevirtual 180, 3) := by decide +kernel
theorem dX8_log_45 : decode cX8_log 45 = .ok (.ifCond .eq 7, 3) := by decide +kernel
theorem dX8_log_48 : decode cX8_log 48 = .ok (.iconst (-1), 1) := by decide +kernel
theorem dX8_log_49 : decode cX8_log 49 = .ok (.goto 17, 3) := by decide +kernel
theorem dX8_log_52 : decode cX8_log 52 = .ok (.aload_n 0, 1) := by decide +kernel
theorem dX8_log_53 : decode cX8_log 53 = .ok (.getfield 27, 3) := by decide +kernel
theorem dX8_log_56 : decode cX8_log 56 = .ok (.bipush 91, 2) := by decide +kernel
theorem dX8_log_58 : decode cX8_log 58 = .ok (.bipush 6, 2) := by decide +kernel
theorem dX8_log_60 : decode cX8_log 60 = .ok (.iload_n 1, 1) := by decide +kernel
theorem dX8_log_61 : decode cX8_log 61 = .ok (.imul, 1) := by decide +kernel
theorem dX8_log_62 : decode cX8_log 62 = .ok (.iadd, 1) := by decide +kernel
theorem dX8_log_63 : decode cX8_log 63 = .ok (.iload_n 2, 1) := by decide +kernel
theorem dX8_log_64 : decode cX8_log 64 = .ok (.iadd, 1) := by decide +kernel
theorem dX8_log_65 : decode cX8_log 65 = .ok (.iaload, 1) := by decide +kernel
theorem dX8_log_66 : decode cX8_log 66 = .ok (.ireturn, 1) := by decide +kernel
theorem dX8_waiting_0 : decode cX8_waiting 0 = .ok (.aload_n 0, 1) := by decide +kernel
theorem dX8_waiting_1 : decode cX8_waiting 1 = .ok (.aload_n 0, 1) := by decide +kernel
theorem dX8_waiting_2 : decode cX8_waiting 2 = .ok (.iload_n 1, 1) := by decide +kernel
theorem dX8_waiting_3 : decode cX8_waiting 3 = .ok (.invokevirtual 268, 3) := by decide +kernel
theorem dX8_waiting_6 : decode cX8_waiting 6 = .ok (.invokestatic 324, 3) := by decide +kernel
theorem dX8_waiting_9 : decode cX8_waiting 9 = .ok (.invokevirtual 180, 3) := by decide +kernel
theorem dX8_waiting_12 : decode cX8_waiting 12 = .ok (.ifCond .eq 5, 3) := by decide +kernel
theorem dX8_waiting_15 : decode cX8_waiting 15 = .ok (.iconst (-1), 1) := by decide +kernel
theorem dX8_waiting_16 : decode cX8_waiting 16 = .ok (.ireturn, 1) := by decide +kernel
theorem dX8_waiting_17 : decode cX8_waiting 17 = .ok (.iconst 0, 1) := by decide +kernel
theorem dX8_waiting_18 : decode cX8_waiting 18 = .ok (.istore_n 2, 1) := by decide +kernel
theorem dX8_waiting_19 : decode cX8_waiting 19 = .ok (.iconst 0, 1) := by decide +kernel
theorem dX8_waiting_20 : decode cX8_waiting 20 = .ok (.istore_n 3, 1) := by decide +kernel
theorem dX8_waiting_21 : decode cX8_waiting 21 = .ok (.iload_n 3, 1) := by decide +kernel
theorem dX8_waiting_22 : decode cX8_waiting 22 = .ok (.aload_n 0, 1) := by decide +kernel
theorem dX8_waiting_23 : decode cX8_waiting 23 = .ok (.getfield 17, 3) := by decide +kernel
theorem dX8_waiting_26 : decode cX8_waiting 26 = .ok (.iconst 3, 1) := by decide +kernel
theorem dX8_waiting_27 : decode cX8_waiting 27 = .ok (.iaload, 1) := by decide +kernel
theorem dX8_waiting_28 : decode cX8_waiting 28 = .ok (.if_icmp .ge 33, 3) := by decide +kernel
theorem dX8_waiting_31 : decode cX8_waiting 31 = .ok (.iload_n 2, 1) := by decide +kernel
theorem dX8_waiting_32 : decode cX8_waiting 32 = .ok (.iload_n 3, 1) := by decide +kernel
theorem dX8_waiting_33 : decode cX8_waiting 33 = .ok (.iload_n 1, 1) := by decide +kernel
theorem dX8_waiting_34 : decode cX8_waiting 34 = .ok (.if_icmp .eq 18, 3) := by decide +kernel
theorem dX8_waiting_37 : decode cX8_waiting 37 = .ok (.aload_n 0, 1) := by decide +kernel
theorem dX8_waiting_38 : decode cX8_waiting 38 = .ok (.iload_n 3, 1) := by decide +kernel
theorem dX8_waiting_39 : decode cX8_waiting 39 = .ok (.iload_n 1, 1) := by decide +kernel
theorem dX8_waiting_40 : decode cX8_waiting 40 = .ok (.invokevirtual 205, 3) := by decide +kernel
theorem dX8_waiting_43 : decode cX8_waiting 43 = .ok (.ifCond .eq 9, 3) := by decide +kernel
theorem dX8_waiting_46 : decode cX8_waiting 46 = .ok (.iconst 1, 1) := by decide +kernel
theorem dX8_waiting_47 : decode cX8_waiting 47 = .ok (.iload_n 3, 1) := by decide +kernel
theorem dX8_waiting_48 : decode cX8_waiting 48 = .ok (.ishl, 1) := by decide +kernel
theorem dX8_waiting_49 : decode cX8_waiting 49 = .ok (.goto 4, 3) := by decide +kernel
theorem dX8_waiting_52 : decode cX8_waiting 52 = .ok (.iconst 0, 1) := by decide +kernel
theorem dX8_waiting_53 : decode cX8_waiting 53 = .ok (.ior, 1) := by decide +kernel
theorem dX8_waiting_54 : decode cX8_waiting 54 = .ok (.istore_n 2, 1) := by decide +kernel
theorem dX8_waiting_55 : decode cX8_waiting 55 = .ok (.iinc 3 1, 3) := by decide +kernel
theorem dX8_waiting_58 : decode cX8_waiting 58 = .ok (.goto (-37), 3) := by decide +kernel
theorem dX8_waiting_61 : decode cX8_waiting 61 = .ok (.iload_n 2, 1) := by decide +kernel
theorem dX8_waiting_62 : decode cX8_waiting 62 = .ok (.ireturn, 1) := by decide +kernel
theorem dX8_longest_0 : decode cX8_longest 0 = .ok (.aload_n 0, 1) := by decide +kernel
theorem dX8_longest_1 : decode cX8_longest 1 = .ok (.aload_n 0, 1) := by decide +kernel
theorem dX8_longest_2 : decode cX8_longest 2 = .ok (.getfield 192, 3) := by decide +kernel
theorem dX8_longest_5 : decode cX8_longest 5 = .ok (.invokestatic 324, 3) := by decide +kernel
theorem dX8_longest_8 : decode cX8_longest 8 = .ok (.invokevirtual 180, 3) := by decide +kernel
theorem dX8_longest_11 : decode cX8_longest 11 = .ok (.ifCond .eq 5, 3) := by decide +kernel
theorem dX8_longest_14 : decode cX8_longest 14 = .ok (.iconst (-1), 1) := by decide +kernel
theorem dX8_longest_15 : decode cX8_longest 15 = .ok (.ireturn, 1) := by decide +kernel
theorem dX8_longest_16 : decode cX8_longest 16 = .ok (.bipush (-2), 2) := by decide +kernel
theorem dX8_longest_18 : decode cX8_longest 18 = .ok (.istore_n 1, 1) := by decide +kernel
theorem dX8_longest_19 : decode cX8_longest 19 = .ok (.iconst 0, 1) := by decide +kernel
theorem dX8_longest_20 : decode cX8_longest 20 = .ok (.istore_n 2, 1) := by decide +kernel
theorem dX8_longest_21 : decode cX8_longest 21 = .ok (.iload_n 2, 1) := by decide +kernel
theorem dX8_longest_22 : decode cX8_longest 22 = .ok (.aload_n 0, 1) := by decide +kernel
theorem dX8_longest_23 : decode cX8_longest 23 = .ok (.getfield 17, 3) := by decide +kernel
theorem dX8_longest_26 : decode cX8_longest 26 = .ok (.iconst 3, 1) := by decide +kernel
theorem dX8_longest_27 : decode cX8_longest 27 = .ok (.iaload, 1) := by decide +kernel
theorem dX8_longest_28 : decode cX8_longest 28 = .ok (.if_icmp .ge 90, 3) := by decide +kernel
theorem dX8_longest_31 : decode cX8_longest 31 = .ok (.aload_n 0, 1) := by decide +kernel
theorem dX8_longest_32 : decode cX8_longest 32 = .ok (.getfield 27, 3) := by decide +kernel
theorem dX8_longest_35 : decode cX8_longest 35 = .ok (.iload_n 2, 1) := by decide +kernel
theorem dX8_longest_36 : decode cX8_longest 36 = .ok (.iconst 0, 1) := by decide +kernel
theorem dX8_longest_37 : decode cX8_longest 37 = .ok (.invokestatic 201, 3) := by decide +kernel
theorem dX8_longest_40 : decode cX8_longest 40 = .ok (.iaload, 1) := by decide +kernel
theorem dX8_longest_41 : decode cX8_longest 41 = .ok (.ifCond .ne 6, 3) := by decide +kernel
theorem dX8_longest_44 : decode cX8_longest 44 = .ok (.goto 68, 3) := by decide +kernel
theorem dX8_longest_47 : decode cX8_longest 47 = .ok (.iload_n 1, 1) := by decide +kernel
theorem dX8_longest_48 : decode cX8_longest 48 = .ok (.bipush (-2), 2) := by decide +kernel
theorem dX8_longest_50 : decode cX8_longest 50 = .ok (.if_icmp .ne 7, 3) := by decide +kernel
theorem dX8_longest_53 : decode cX8_longest 53 = .ok (.iconst 1, 1) := by decide +kernel
theorem dX8_longest_54 : decode cX8_longest 54 = .ok (.goto 24, 3) := by decide +kernel
theorem dX8_longest_57 : decode cX8_longest 57 = .ok (.aload_n 0, 1) := by decide +kernel
theorem dX8_longest_58 : decode cX8_longest 58 = .ok (.getfield 27, 3) := by decide +kernel
theorem dX8_longest_61 : decode cX8_longest 61 = .ok (.iload_n 1, 1) := by decide +kernel
theorem dX8_longest_62 : decode cX8_longest 62 = .ok (.iconst 1, 1) := by decide +kernel
theorem dX8_longest_63 : decode cX8_longest 63 = .ok (.invokestatic 201, 3) := by decide +kernel
theorem dX8_longest_66 : decode cX8_longest 66 = .ok (.iaload, 1) := by decide +kernel
theorem dX8_longest_67 : decode cX8_longest 67 = .ok (.aload_n 0, 1) := by decide +kernel
theorem dX8_longest_68 : decode cX8_longest 68 = .ok (.getfield 27, 3) := by decide +kernel
theorem dX8_longest_71 : decode cX8_longest 71 = .ok (.iload_n 2, 1) := by decide +kernel
theorem dX8_longest_72 : decode cX8_longest 72 = .ok (.iconst 1, 1) := by decide +kernel
theorem dX8_longest_73 : decode cX8_longest 73 = .ok (.invokestatic 201, 3) := by decide +kernel
theorem dX8_longest_76 : decode cX8_longest 76 = .ok (.iaload, 1) := by decide +kernel
theorem dX8_longest_77 : decode cX8_longest 77 = .ok (.isub, 1) := by decide +kernel
theorem dX8_longest_78 : decode cX8_longest 78 = .ok (.istore_n 3, 1) := by decide +kernel
theorem dX8_longest_79 : decode cX8_longest 79 = .ok (.iload_n 3, 1) := by decide +kernel
theorem dX8_longest_80 : decode cX8_longest 80 = .ok (.ifCond .gt 26, 3) := by decide +kernel
theorem dX8_longest_83 : decode cX8_longest 83 = .ok (.iload_n 3, 1) := by decide +kernel
theorem dX8_longest_84 : decode cX8_longest 84 = .ok (.ifCond .ne 26, 3) := by decide +kernel
theorem dX8_longest_87 : decode cX8_longest 87 = .ok (.aload_n 0, 1) := by decide +kernel
theorem dX8_longest_88 : decode cX8_longest 88 = .ok (.getfield 17, 3) := by decide +kernel
theorem dX8_longest_91 : decode cX8_longest 91 = .ok (.iconst 5, 1) := by decide +kernel
theorem dX8_longest_92 : decode cX8_longest 92 = .ok (.iload_n 2, 1) := by decide +kernel
theorem dX8_longest_93 : decode cX8_longest 93 = .ok (.iadd, 1) := by decide +kernel
theorem dX8_longest_94 : decode cX8_longest 94 = .ok (.iaload, 1) := by decide +kernel
theorem dX8_longest_95 : decode cX8_longest 95 = .ok (.aload_n 0, 1) := by decide +kernel
theorem dX8_longest_96 : decode cX8_longest 96 = .ok (.getfield 17, 3) := by decide +kernel
theorem dX8_longest_99 : decode cX8_longest 99 = .ok (.iconst 5, 1) := by decide +kernel
theorem dX8_longest_100 : decode cX8_longest 100 = .ok (.iload_n 1, 1) := by decide +kernel
theorem dX8_longest_101 : decode cX8_longest 101 = .ok (.iadd, 1) := by decide +kernel
theorem dX8_longest_102 : decode cX8_longest 102 = .ok (.iaload, 1) := by decide +kernel
theorem dX8_longest_103 : decode cX8_longest 103 = .ok (.if_icmp .ge 7, 3) := by decide +kernel
theorem dX8_longest_106 : decode cX8_longest 106 = .ok (.iload_n 2, 1) := by decide +kernel
theorem dX8_longest_107 : decode cX8_longest 107 = .ok (.goto 4, 3) := by decide +kernel
theorem dX8_longest_110 : decode cX8_longest 110 = .ok (.iload_n 1, 1) := by decide +kernel
theorem dX8_longest_111 : decode cX8_longest 111 = .ok (.istore_n 1, 1) := by decide +kernel
theorem dX8_longest_112 : decode cX8_longest 112 = .ok (.iinc 2 1, 3) := by decide +kernel
theorem dX8_longest_115 : decode cX8_longest 115 = .ok (.goto (-94), 3) := by decide +kernel
theorem dX8_longest_118 : decode cX8_longest 118 = .ok (.iload_n 1, 1) := by decide +kernel
theorem dX8_longest_119 : decode cX8_longest 119 = .ok (.ireturn, 1) := by decide +kernel
theorem dX8_will_0 : decode cX8_will 0 = .ok (.aload_n 0, 1) := by decide +kernel
theorem dX8_will_1 : decode cX8_will 1 = .ok (.aload_n 0, 1) := by decide +kernel
theorem dX8_will_2 : decode cX8_will 2 = .ok (.getfield 192, 3) := by decide +kernel
theorem dX8_will_5 : decode cX8_will 5 = .ok (.ifCond .eq 13, 3) := by decide +kernel
theorem dX8_will_8 : decode cX8_will 8 = .ok (.iload_n 2, 1) := by decide +kernel
theorem dX8_will_9 : decode cX8_will 9 = .ok (.iconst 0, 1) := by decide +kernel
theorem dX8_will_10 : decode cX8_will 10 = .ok (.bipush 10, 2) := by decide +kernel
theorem dX8_will_12 : decode cX8_will 12 = .ok (.invokestatic 83, 3) := by decide +kernel
theorem dX8_will_15 : decode cX8_will 15 = .ok (.ifCond .ne 7, 3) := by decide +kernel
theorem dX8_will_18 : decode cX8_will 18 = .ok (.iconst 1, 1) := by decide +kernel
theorem dX8_will_19 : decode cX8_will 19 = .ok (.goto 19, 3) := by decide +kernel
theorem dX8_will_22 : decode cX8_will 22 = .ok (.iload_n 1, 1) := by decide +kernel
theorem dX8_will_23 : decode cX8_will 23 = .ok (.iconst 1, 1) := by decide +kernel
theorem dX8_will_24 : decode cX8_will 24 = .ok (.sipush 999, 3) := by decide +kernel
theorem dX8_will_27 : decode cX8_will 27 = .ok (.invokestatic 83, 3) := by decide +kernel
theorem dX8_will_30 : decode cX8_will 30 = .ok (.ifCond .eq 7, 3) := by decide +kernel
theorem dX8_will_33 : decode cX8_will 33 = .ok (.iconst 0, 1) := by decide +kernel
theorem dX8_will_34 : decode cX8_will 34 = .ok (.goto 4, 3) := by decide +kernel
theorem dX8_will_37 : decode cX8_will 37 = .ok (.iconst 2, 1) := by decide +kernel
theorem dX8_will_38 : decode cX8_will 38 = .ok (.invokevirtual 180, 3) := by decide +kernel
theorem dX8_will_41 : decode cX8_will 41 = .ok (.ifCond .eq 5, 3) := by decide +kernel
theorem dX8_will_44 : decode cX8_will 44 = .ok (.iconst (-1), 1) := by decide +kernel
theorem dX8_will_45 : decode cX8_will 45 = .ok (.ireturn, 1) := by decide +kernel
theorem dX8_will_46 : decode cX8_will 46 = .ok (.aload_n 0, 1) := by decide +kernel
theorem dX8_will_47 : decode cX8_will 47 = .ok (.invokevirtual 331, 3) := by decide +kernel
theorem dX8_will_50 : decode cX8_will 50 = .ok (.iconst 0, 1) := by decide +kernel
theorem dX8_will_51 : decode cX8_will 51 = .ok (.istore_n 3, 1) := by decide +kernel
theorem dX8_will_52 : decode cX8_will 52 = .ok (.iload_n 3, 1) := by decide +kernel
theorem dX8_will_53 : decode cX8_will 53 = .ok (.iload_n 1, 1) := by decide +kernel
theorem dX8_will_54 : decode cX8_will 54 = .ok (.if_icmp .ge 13, 3) := by decide +kernel
theorem dX8_will_57 : decode cX8_will 57 = .ok (.aload_n 0, 1) := by decide +kernel
theorem dX8_will_58 : decode cX8_will 58 = .ok (.invokevirtual 334, 3) := by decide +kernel
theorem dX8_will_61 : decode cX8_will 61 = .ok (.iinc 3 1, 3) := by decide +kernel
theorem dX8_will_64 : decode cX8_will 64 = .ok (.goto (-12), 3) := by decide +kernel
theorem dX8_will_67 : decode cX8_will 67 = .ok (.aload_n 0, 1) := by decide +kernel
theorem dX8_will_68 : decode cX8_will 68 = .ok (.iload_n 2, 1) := by decide +kernel
theorem dX8_will_69 : decode cX8_will 69 = .ok (.invokevirtual 328, 3) := by decide +kernel
theorem dX8_will_72 : decode cX8_will 72 = .ok (.istore_n 3, 1) := by decide +kernel
theorem dX8_will_73 : decode cX8_will 73 = .ok (.aload_n 0, 1) := by decide +kernel
theorem dX8_will_74 : decode cX8_will 74 = .ok (.invokevirtual 337, 3) := by decide +kernel
theorem dX8_will_77 : decode cX8_will 77 = .ok (.iload_n 3, 1) := by decide +kernel
theorem dX8_will_78 : decode cX8_will 78 = .ok (.ireturn, 1) := by decide +kernel
theorem dX8_till_0 : decode cX8_till 0 = .ok (.aload_n 0, 1) := by decide +kernel
theorem dX8_till_1 : decode cX8_till 1 = .ok (.aload_n 0, 1) := by decide +kernel
theorem dX8_till_2 : decode cX8_till 2 = .ok (.iload_n 1, 1) := by decide +kernel
theorem dX8_till_3 : decode cX8_till 3 = .ok (.invokevirtual 268, 3) := by decide +kernel
theorem dX8_till_6 : decode cX8_till 6 = .ok (.invokestatic 324, 3) := by decide +kernel
theorem dX8_till_9 : decode cX8_till 9 = .ok (.invokevirtual 180, 3) := by decide +kernel
theorem dX8_till_12 : decode cX8_till 12 = .ok (.ifCond .eq 5, 3) := by decide +kernel
theorem dX8_till_15 : decode cX8_till 15 = .ok (.iconst (-1), 1) := by decide +kernel
theorem dX8_till_16 : decode cX8_till 16 = .ok (.ireturn, 1) := by decide +kernel
theorem dX8_till_17 : decode cX8_till 17 = .ok (.aload_n 0, 1) := by decide +kernel
theorem dX8_till_18 : decode cX8_till 18 = .ok (.invokevirtual 331, 3) := by decide +kernel
theorem dX8_till_21 : decode cX8_till 21 = .ok (.aload_n 0, 1) := by decide +kernel
theorem dX8_till_22 : decode cX8_till 22 = .ok (.getfield 27, 3) := by decide +kernel
theorem dX8_till_25 : decode cX8_till 25 = .ok (.iload_n 1, 1) := by decide +kernel
theorem dX8_till_26 : decode cX8_till 26 = .ok (.bipush 6, 2) := by decide +kernel
theorem dX8_till_28 : decode cX8_till 28 = .ok (.invokestatic 201, 3) := by decide +kernel
theorem dX8_till_31 : decode cX8_till 31 = .ok (.iaload, 1) := by decide +kernel
theorem dX8_till_32 : decode cX8_till 32 = .ok (.istore_n 2, 1) := by decide +kernel
theorem dX8_till_33 : decode cX8_till 33 = .ok (.iconst 0, 1) := by decide +kernel
theorem dX8_till_34 : decode cX8_till 34 = .ok (.istore_n 3, 1) := by decide +kernel
theorem dX8_till_35 : decode cX8_till 35 = .ok (.iload_n 3, 1) := by decide +kernel
theorem dX8_till_36 : decode cX8_till 36 = .ok (.sipush 2000, 3) := by decide +kernel
theorem dX8_till_39 : decode cX8_till 39 = .ok (.if_icmp .ge 28, 3) := by decide +kernel
theorem dX8_till_42 : decode cX8_till 42 = .ok (.aload_n 0, 1) := by decide +kernel
theorem dX8_till_43 : decode cX8_till 43 = .ok (.getfield 27, 3) := by decide +kernel
theorem dX8_till_46 : decode cX8_till 46 = .ok (.iload_n 1, 1) := by decide +kernel
theorem dX8_till_47 : decode cX8_till 47 = .ok (.bipush 6, 2) := by decide +kernel
theorem dX8_till_49 : decode cX8_till 49 = .ok (.invokestatic 201, 3) := by decide +kernel
theorem dX8_till_52 : decode cX8_till 52 = .ok (.iaload, 1) := by decide +kernel
theorem dX8_till_53 : decode cX8_till 53 = .ok (.iload_n 2, 1) := by decide +kernel
theorem dX8_till_54 : decode cX8_till 54 = .ok (.if_icmp .ne 13, 3) := by decide +kernel
theorem dX8_till_57 : decode cX8_till 57 = .ok (.aload_n 0, 1) := by decide +kernel
theorem dX8_till_58 : decode cX8_till 58 = .ok (.invokevirtual 334, 3) := by decide +kernel
theorem dX8_till_61 : decode cX8_till 61 = .ok (.iinc 3 1, 3) := by decide +kernel
theorem dX8_till_64 : decode cX8_till 64 = .ok (.goto (-29), 3) := by decide +kernel
theorem dX8_till_67 : decode cX8_till 67 = .ok (.aload_n 0, 1) := by decide +kernel
theorem dX8_till_68 : decode cX8_till 68 = .ok (.getfield 27, 3) := by decide +kernel
theorem dX8_till_71 : decode cX8_till 71 = .ok (.iload_n 1, 1) := by decide +kernel
theorem dX8_till_72 : decode cX8_till 72 = .ok (.bipush 6, 2) := by decide +kernel
theorem dX8_till_74 : decode cX8_till 74 = .ok (.invokestatic 201, 3) := by decide +kernel
theorem dX8_till_77 : decode cX8_till 77 = .ok (.iaload, 1) := by decide +kernel
theorem dX8_till_78 : decode cX8_till 78 = .ok (.iload_n 2, 1) := by decide +kernel
theorem dX8_till_79 : decode cX8_till 79 = .ok (.if_icmp .le 7, 3) := by decide +kernel
theorem dX8_till_82 : decode cX8_till 82 = .ok (.iconst 1, 1) := by decide +kernel
theorem dX8_till_83 : decode cX8_till 83 = .ok (.goto 4, 3) := by decide +kernel
theorem dX8_till_86 : decode cX8_till 86 = .ok (.iconst 0, 1) := by decide +kernel
theorem dX8_till_87 : decode cX8_till 87 = .ok (.istore 4, 2) := by decide +kernel
theorem dX8_till_89 : decode cX8_till 89 = .ok (.aload_n 0, 1) := by decide +kernel
theorem dX8_till_90 : decode cX8_till 90 = .ok (.invokevirtual 337, 3) := by decide +kernel
theorem dX8_till_93 : decode cX8_till 93 = .ok (.iload 4, 2) := by decide +kernel
theorem dX8_till_95 : decode cX8_till 95 = .ok (.ifCond .eq 7, 3) := by decide +kernel
theorem dX8_till_98 : decode cX8_till 98 = .ok (.iload_n 3, 1) := by decide +kernel
theorem dX8_till_99 : decode cX8_till 99 = .ok (.goto 5, 3) := by decide +kernel
theorem dX8_till_102 : decode cX8_till 102 = .ok (.bipush (-2), 2) := by decide +kernel
theorem dX8_till_104 : decode cX8_till 104 = .ok (.ireturn, 1) := by decide +kernel
theorem dX8_about_0 : decode cX8_about 0 = .ok (.aload_n 0, 1) := by decide +kernel
theorem dX8_about_1 : decode cX8_about 1 = .ok (.aload_n 0, 1) := by decide +kernel
theorem dX8_about_2 : decode cX8_about 2 = .ok (.getfield 192, 3) := by decide +kernel
theorem dX8_about_5 : decode cX8_about 5 = .ok (.ifCond .eq 16, 3) := by decide +kernel
theorem dX8_about_8 : decode cX8_about 8 = .ok (.iload_n 1, 1) := by decide +kernel
theorem dX8_about_9 : decode cX8_about 9 = .ok (.iconst 0, 1) := by decide +kernel
theorem dX8_about_10 : decode cX8_about 10 = .ok (.iconst 5, 1) := by decide +kernel
theorem dX8_about_11 : decode cX8_about 11 = .ok (.invokestatic 83, 3) := by decide +kernel
theorem dX8_about_14 : decode cX8_about 14 = .ok (.ifCond .eq 7, 3) := by decide +kernel
theorem dX8_about_17 : decode cX8_about 17 = .ok (.iconst 1, 1) := by decide +kernel
theorem dX8_about_18 : decode cX8_about 18 = .ok (.goto 4, 3) := by decide +kernel
theorem dX8_about_21 : decode cX8_about 21 = .ok (.iconst 0, 1) := by decide +kernel
theorem dX8_about_22 : decode cX8_about 22 = .ok (.invokestatic 324, 3) := by decide +kernel
theorem dX8_about_25 : decode cX8_about 25 = .ok (.invokevirtual 180, 3) := by decide +kernel
theorem dX8_about_28 : decode cX8_about 28 = .ok (.ifCond .eq 5, 3) := by decide +kernel
theorem dX8_about_31 : decode cX8_about 31 = .ok (.iconst (-1), 1) := by decide +kernel
theorem dX8_about_32 : decode cX8_about 32 = .ok (.ireturn, 1) := by decide +kernel
theorem dX8_about_33 : decode cX8_about 33 = .ok (.iload_n 1, 1) := by decide +kernel
theorem dX8_about_34 : decode cX8_about 34 = .ok (.iconst 5, 1) := by decide +kernel
theorem dX8_about_35 : decode cX8_about 35 = .ok (.if_icmp .ne 12, 3) := by decide +kernel
theorem dX8_about_38 : decode cX8_about 38 = .ok (.aload_n 0, 1) := by decide +kernel
theorem dX8_about_39 : decode cX8_about 39 = .ok (.getfield 27, 3) := by decide +kernel
theorem dX8_about_42 : decode cX8_about 42 = .ok (.iconst 0, 1) := by decide +kernel
theorem dX8_about_43 : decode cX8_about 43 = .ok (.iaload, 1) := by decide +kernel
theorem dX8_about_44 : decode cX8_about 44 = .ok (.goto 9, 3) := by decide +kernel
theorem dX8_about_47 : decode cX8_about 47 = .ok (.aload_n 0, 1) := by decide +kernel
theorem dX8_about_48 : decode cX8_about 48 = .ok (.getfield 17, 3) := by decide +kernel
theorem dX8_about_51 : decode cX8_about 51 = .ok (.iload_n 1, 1) := by decide +kernel
theorem dX8_about_52 : decode cX8_about 52 = .ok (.iaload, 1) := by decide +kernel
theorem dX8_about_53 : decode cX8_about 53 = .ok (.ireturn, 1) := by decide +kernel
theorem dX8_board_0 : decode cX8_board 0 = .ok (.aload_n 0, 1) := by decide +kernel
theorem dX8_board_1 : decode cX8_board 1 = .ok (.aload_n 0, 1) := by decide +kernel
theorem dX8_board_2 : decode cX8_board 2 = .ok (.iload_n 1, 1) := by decide +kernel
theorem dX8_board_3 : decode cX8_board 3 = .ok (.invokevirtual 268, 3) := by decide +kernel
theorem dX8_board_6 : decode cX8_board 6 = .ok (.ifCond .eq 17, 3) := by decide +kernel
theorem dX8_board_9 : decode cX8_board 9 = .ok (.iload_n 2, 1) := by decide +kernel
theorem dX8_board_10 : decode cX8_board 10 = .ok (.iconst 0, 1) := by decide +kernel
theorem dX8_board_11 : decode cX8_board 11 = .ok (.bipush 6, 2) := by decide +kernel
theorem dX8_board_13 : decode cX8_board 13 = .ok (.invokestatic 83, 3) := by decide +kernel
theorem dX8_board_16 : decode cX8_board 16 = .ok (.ifCond .eq 7, 3) := by decide +kernel
theorem dX8_board_19 : decode cX8_board 19 = .ok (.iconst 1, 1) := by decide +kernel
theorem dX8_board_20 : decode cX8_board 20 = .ok (.goto 4, 3) := by decide +kernel
theorem dX8_board_23 : decode cX8_board 23 = .ok (.iconst 0, 1) := by decide +kernel
theorem dX8_board_24 : decode cX8_board 24 = .ok (.invokestatic 324, 3) := by decide +kernel
theorem dX8_board_27 : decode cX8_board 27 = .ok (.invokevirtual 180, 3) := by decide +kernel
theorem dX8_board_30 : decode cX8_board 30 = .ok (.ifCond .eq 5, 3) := by decide +kernel
theorem dX8_board_33 : decode cX8_board 33 = .ok (.iconst (-1), 1) := by decide +kernel
theorem dX8_board_34 : decode cX8_board 34 = .ok (.ireturn, 1) := by decide +kernel
theorem dX8_board_35 : decode cX8_board 35 = .ok (.iload_n 2, 1) := by decide +kernel
theorem dX8_board_36 : decode cX8_board 36 = .ok (.tableswitch 97 0 5 #[40, 49, 59, 69, 75, 86], 40) := by decide +kernel
theorem dX8_board_76 : decode cX8_board 76 = .ok (.aload_n 0, 1) := by decide +kernel
theorem dX8_board_77 : decode cX8_board 77 = .ok (.getfield 17, 3) := by decide +kernel
theorem dX8_board_80 : decode cX8_board 80 = .ok (.iconst 5, 1) := by decide +kernel
theorem dX8_board_81 : decode cX8_board 81 = .ok (.iload_n 1, 1) := by decide +kernel
theorem dX8_board_82 : decode cX8_board 82 = .ok (.iadd, 1) := by decide +kernel
theorem dX8_board_83 : decode cX8_board 83 = .ok (.iaload, 1) := by decide +kernel
theorem dX8_board_84 : decode cX8_board 84 = .ok (.ireturn, 1) := by decide +kernel
theorem dX8_board_85 : decode cX8_board 85 = .ok (.aload_n 0, 1) := by decide +kernel
theorem dX8_board_86 : decode cX8_board 86 = .ok (.getfield 17, 3) := by decide +kernel
theorem dX8_board_89 : decode cX8_board 89 = .ok (.bipush 11, 2) := by decide +kernel
theorem dX8_board_91 : decode cX8_board 91 = .ok (.iload_n 1, 1) := by decide +kernel
theorem dX8_board_92 : decode cX8_board 92 = .ok (.iadd, 1) := by decide +kernel
theorem dX8_board_93 : decode cX8_board 93 = .ok (.iaload, 1) := by decide +kernel
theorem dX8_board_94 : decode cX8_board 94 = .ok (.ireturn, 1) := by decide +kernel
theorem dX8_board_95 : decode cX8_board 95 = .ok (.aload_n 0, 1) := by decide +kernel
theorem dX8_board_96 : decode cX8_board 96 = .ok (.getfield 17, 3) := by decide +kernel
theorem dX8_board_99 : decode cX8_board 99 = .ok (.bipush 17, 2) := by decide +kernel
theorem dX8_board_101 : decode cX8_board 101 = .ok (.iload_n 1, 1) := by decide +kernel
theorem dX8_board_102 : decode cX8_board 102 = .ok (.iadd, 1) := by decide +kernel
theorem dX8_board_103 : decode cX8_board 103 = .ok (.iaload, 1) := by decide +kernel
theorem dX8_board_104 : decode cX8_board 104 = .ok (.ireturn, 1) := by decide +kernel
theorem dX8_board_105 : decode cX8_board 105 = .ok (.aload_n 0, 1) := by decide +kernel
theorem dX8_board_106 : decode cX8_board 106 = .ok (.iload_n 1, 1) := by decide +kernel
theorem dX8_board_107 : decode cX8_board 107 = .ok (.invokevirtual 212, 3) := by decide +kernel
theorem dX8_board_110 : decode cX8_board 110 = .ok (.ireturn, 1) := by decide +kernel
theorem dX8_board_111 : decode cX8_board 111 = .ok (.aload_n 0, 1) := by decide +kernel
theorem dX8_board_112 : decode cX8_board 112 = .ok (.getfield 27, 3) := by decide +kernel
theorem dX8_board_115 : decode cX8_board 115 = .ok (.iload_n 1, 1) := by decide +kernel
theorem dX8_board_116 : decode cX8_board 116 = .ok (.iconst 2, 1) := by decide +kernel
theorem dX8_board_117 : decode cX8_board 117 = .ok (.invokestatic 201, 3) := by decide +kernel
theorem dX8_board_120 : decode cX8_board 120 = .ok (.iaload, 1) := by decide +kernel
theorem dX8_board_121 : decode cX8_board 121 = .ok (.ireturn, 1) := by decide +kernel
theorem dX8_board_122 : decode cX8_board 122 = .ok (.aload_n 0, 1) := by decide +kernel
theorem dX8_board_123 : decode cX8_board 123 = .ok (.getfield 27, 3) := by decide +kernel
theorem dX8_board_126 : decode cX8_board 126 = .ok (.iload_n 1, 1) := by decide +kernel
theorem dX8_board_127 : decode cX8_board 127 = .ok (.iconst 0, 1) := by decide +kernel
theorem dX8_board_128 : decode cX8_board 128 = .ok (.invokestatic 201, 3) := by decide +kernel
theorem dX8_board_131 : decode cX8_board 131 = .ok (.iaload, 1) := by decide +kernel
theorem dX8_board_132 : decode cX8_board 132 = .ok (.ireturn, 1) := by decide +kernel
theorem dX8_board_133 : decode cX8_board 133 = .ok (.aload_n 0, 1) := by decide +kernel
theorem dX8_board_134 : decode cX8_board 134 = .ok (.getfield 27, 3) := by decide +kernel
theorem dX8_board_137 : decode cX8_board 137 = .ok (.iload_n 1, 1) := by decide +kernel
theorem dX8_board_138 : decode cX8_board 138 = .ok (.iconst 3, 1) := by decide +kernel
theorem dX8_board_139 : decode cX8_board 139 = .ok (.invokestatic 201, 3) := by decide +kernel
theorem dX8_board_142 : decode cX8_board 142 = .ok (.iaload, 1) := by decide +kernel
theorem dX8_board_143 : decode cX8_board 143 = .ok (.ireturn, 1) := by decide +kernel
theorem dX8_named_0 : decode cX8_named 0 = .ok (.aload_n 0, 1) := by decide +kernel
theorem dX8_named_1 : decode cX8_named 1 = .ok (.aload_n 0, 1) := by decide +kernel
theorem dX8_named_2 : decode cX8_named 2 = .ok (.getfield 192, 3) := by decide +kernel
theorem dX8_named_5 : decode cX8_named 5 = .ok (.invokestatic 324, 3) := by decide +kernel
theorem dX8_named_8 : decode cX8_named 8 = .ok (.invokevirtual 180, 3) := by decide +kernel
theorem dX8_named_11 : decode cX8_named 11 = .ok (.ifCond .eq 5, 3) := by decide +kernel
theorem dX8_named_14 : decode cX8_named 14 = .ok (.iconst (-1), 1) := by decide +kernel
theorem dX8_named_15 : decode cX8_named 15 = .ok (.ireturn, 1) := by decide +kernel
theorem dX8_named_16 : decode cX8_named 16 = .ok (.iconst 0, 1) := by decide +kernel
theorem dX8_named_17 : decode cX8_named 17 = .ok (.istore_n 2, 1) := by decide +kernel
theorem dX8_named_18 : decode cX8_named 18 = .ok (.iload_n 2, 1) := by decide +kernel
theorem dX8_named_19 : decode cX8_named 19 = .ok (.aload_n 0, 1) := by decide +kernel
theorem dX8_named_20 : decode cX8_named 20 = .ok (.getfield 17, 3) := by decide +kernel
theorem dX8_named_23 : decode cX8_named 23 = .ok (.iconst 3, 1) := by decide +kernel
theorem dX8_named_24 : decode cX8_named 24 = .ok (.iaload, 1) := by decide +kernel
theorem dX8_named_25 : decode cX8_named 25 = .ok (.if_icmp .ge 24, 3) := by decide +kernel
theorem dX8_named_28 : decode cX8_named 28 = .ok (.aload_n 0, 1) := by decide +kernel
theorem dX8_named_29 : decode cX8_named 29 = .ok (.getfield 17, 3) := by decide +kernel
theorem dX8_named_32 : decode cX8_named 32 = .ok (.bipush 11, 2) := by decide +kernel
theorem dX8_named_34 : decode cX8_named 34 = .ok (.iload_n 2, 1) := by decide +kernel
theorem dX8_named_35 : decode cX8_named 35 = .ok (.iadd, 1) := by decide +kernel
theorem dX8_named_36 : decode cX8_named 36 = .ok (.iaload, 1) := by decide +kernel
theorem dX8_named_37 : decode cX8_named 37 = .ok (.iload_n 1, 1) := by decide +kernel
theorem dX8_named_38 : decode cX8_named 38 = .ok (.if_icmp .ne 5, 3) := by decide +kernel
theorem dX8_named_41 : decode cX8_named 41 = .ok (.iload_n 2, 1) := by decide +kernel
theorem dX8_named_42 : decode cX8_named 42 = .ok (.ireturn, 1) := by decide +kernel
theorem dX8_named_43 : decode cX8_named 43 = .ok (.iinc 2 1, 3) := by decide +kernel
theorem dX8_named_46 : decode cX8_named 46 = .ok (.goto (-28), 3) := by decide +kernel
theorem dX8_named_49 : decode cX8_named 49 = .ok (.aload_n 0, 1) := by decide +kernel
theorem dX8_named_50 : decode cX8_named 50 = .ok (.iconst 1, 1) := by decide +kernel
theorem dX8_named_51 : decode cX8_named 51 = .ok (.invokevirtual 189, 3) := by decide +kernel
theorem dX8_named_54 : decode cX8_named 54 = .ok (.ireturn, 1) := by decide +kernel
theorem dX8_word_0 : decode cX8_word 0 = .ok (.aload_n 0, 1) := by decide +kernel
theorem dX8_word_1 : decode cX8_word 1 = .ok (.aload_n 0, 1) := by decide +kernel
theorem dX8_word_2 : decode cX8_word 2 = .ok (.iload_n 1, 1) := by decide +kernel
theorem dX8_word_3 : decode cX8_word 3 = .ok (.invokevirtual 268, 3) := by decide +kernel
theorem dX8_word_6 : decode cX8_word 6 = .ok (.ifCond .ne 7, 3) := by decide +kernel
theorem dX8_word_9 : decode cX8_word 9 = .ok (.iconst 1, 1) := by decide +kernel
theorem dX8_word_10 : decode cX8_word 10 = .ok (.goto 17, 3) := by decide +kernel
theorem dX8_word_13 : decode cX8_word 13 = .ok (.iload_n 2, 1) := by decide +kernel
theorem dX8_word_14 : decode cX8_word 14 = .ok (.iconst 1, 1) := by decide +kernel
theorem dX8_word_15 : decode cX8_word 15 = .ok (.iconst 2, 1) := by decide +kernel
theorem dX8_word_16 : decode cX8_word 16 = .ok (.invokestatic 83, 3) := by decide +kernel
theorem dX8_word_19 : decode cX8_word 19 = .ok (.ifCond .eq 7, 3) := by decide +kernel
theorem dX8_word_22 : decode cX8_word 22 = .ok (.iconst 0, 1) := by decide +kernel
theorem dX8_word_23 : decode cX8_word 23 = .ok (.goto 4, 3) := by decide +kernel
theorem dX8_word_26 : decode cX8_word 26 = .ok (.iconst 2, 1) := by decide +kernel
theorem dX8_word_27 : decode cX8_word 27 = .ok (.invokevirtual 180, 3) := by decide +kernel
theorem dX8_word_30 : decode cX8_word 30 = .ok (.ifCond .eq 7, 3) := by decide +kernel
theorem dX8_word_33 : decode cX8_word 33 = .ok (.iconst (-1), 1) := by decide +kernel
theorem dX8_word_34 : decode cX8_word 34 = .ok (.goto 9, 3) := by decide +kernel
theorem dX8_word_37 : decode cX8_word 37 = .ok (.aload_n 0, 1) := by decide +kernel
theorem dX8_word_38 : decode cX8_word 38 = .ok (.iload_n 1, 1) := by decide +kernel
theorem dX8_word_39 : decode cX8_word 39 = .ok (.iload_n 2, 1) := by decide +kernel
theorem dX8_word_40 : decode cX8_word 40 = .ok (.invokevirtual 250, 3) := by decide +kernel
theorem dX8_word_43 : decode cX8_word 43 = .ok (.ireturn, 1) := by decide +kernel
theorem dX8_ask_0 : decode cX8_ask 0 = .ok (.aload_n 0, 1) := by decide +kernel
theorem dX8_ask_1 : decode cX8_ask 1 = .ok (.aload_n 0, 1) := by decide +kernel
theorem dX8_ask_2 : decode cX8_ask 2 = .ok (.iload_n 1, 1) := by decide +kernel
theorem dX8_ask_3 : decode cX8_ask 3 = .ok (.invokevirtual 268, 3) := by decide +kernel
theorem dX8_ask_6 : decode cX8_ask 6 = .ok (.ifCond .ne 7, 3) := by decide +kernel
theorem dX8_ask_9 : decode cX8_ask 9 = .ok (.iconst 1, 1) := by decide +kernel
theorem dX8_ask_10 : decode cX8_ask 10 = .ok (.goto 18, 3) := by decide +kernel
theorem dX8_ask_13 : decode cX8_ask 13 = .ok (.iload_n 2, 1) := by decide +kernel
theorem dX8_ask_14 : decode cX8_ask 14 = .ok (.iconst 1, 1) := by decide +kernel
theorem dX8_ask_15 : decode cX8_ask 15 = .ok (.bipush 99, 2) := by decide +kernel
theorem dX8_ask_17 : decode cX8_ask 17 = .ok (.invokestatic 83, 3) := by decide +kernel
theorem dX8_ask_20 : decode cX8_ask 20 = .ok (.ifCond .eq 7, 3) := by decide +kernel
theorem dX8_ask_23 : decode cX8_ask 23 = .ok (.iconst 0, 1) := by decide +kernel
theorem dX8_ask_24 : decode cX8_ask 24 = .ok (.goto 4, 3) := by decide +kernel
theorem dX8_ask_27 : decode cX8_ask 27 = .ok (.iconst 2, 1) := by decide +kernel
theorem dX8_ask_28 : decode cX8_ask 28 = .ok (.invokevirtual 180, 3) := by decide +kernel
theorem dX8_ask_31 : decode cX8_ask 31 = .ok (.ifCond .eq 5, 3) := by decide +kernel
theorem dX8_ask_34 : decode cX8_ask 34 = .ok (.iconst (-1), 1) := by decide +kernel
theorem dX8_ask_35 : decode cX8_ask 35 = .ok (.ireturn, 1) := by decide +kernel
theorem dX8_ask_36 : decode cX8_ask 36 = .ok (.aload_n 0, 1) := by decide +kernel
theorem dX8_ask_37 : decode cX8_ask 37 = .ok (.iload_n 1, 1) := by decide +kernel
theorem dX8_ask_38 : decode cX8_ask 38 = .ok (.iload_n 2, 1) := by decide +kernel
theorem dX8_ask_39 : decode cX8_ask 39 = .ok (.invokevirtual 309, 3) := by decide +kernel
theorem dX8_ask_42 : decode cX8_ask 42 = .ok (.ifCond .eq 13, 3) := by decide +kernel
theorem dX8_ask_45 : decode cX8_ask 45 = .ok (.aload_n 0, 1) := by decide +kernel
theorem dX8_ask_46 : decode cX8_ask 46 = .ok (.invokevirtual 300, 3) := by decide +kernel
theorem dX8_ask_49 : decode cX8_ask 49 = .ok (.invokestatic 209, 3) := by decide +kernel
theorem dX8_ask_52 : decode cX8_ask 52 = .ok (.goto 8, 3) := by decide +kernel
theorem dX8_ask_55 : decode cX8_ask 55 = .ok (.aload_n 0, 1) := by decide +kernel
theorem dX8_ask_56 : decode cX8_ask 56 = .ok (.iconst 5, 1) := by decide +kernel
theorem dX8_ask_57 : decode cX8_ask 57 = .ok (.invokevirtual 189, 3) := by decide +kernel
theorem dX8_ask_60 : decode cX8_ask 60 = .ok (.ireturn, 1) := by decide +kernel
theorem dX8_waits_0 : decode cX8_waits 0 = .ok (.aload_n 0, 1) := by decide +kernel
theorem dX8_waits_1 : decode cX8_waits 1 = .ok (.aload_n 0, 1) := by decide +kernel
theorem dX8_waits_2 : decode cX8_waits 2 = .ok (.iload_n 1, 1) := by decide +kernel
theorem dX8_waits_3 : decode cX8_waits 3 = .ok (.invokevirtual 268, 3) := by decide +kernel
theorem dX8_waits_6 : decode cX8_waits 6 = .ok (.ifCond .ne 7, 3) := by decide +kernel
theorem dX8_waits_9 : decode cX8_waits 9 = .ok (.iconst 1, 1) := by decide +kernel
theorem dX8_waits_10 : decode cX8_waits 10 = .ok (.goto 44, 3) := by decide +kernel
theorem dX8_waits_13 : decode cX8_waits 13 = .ok (.iload_n 2, 1) := by decide +kernel
theorem dX8_waits_14 : decode cX8_waits 14 = .ok (.iconst (-1), 1) := by decide +kernel
theorem dX8_waits_15 : decode cX8_waits 15 = .ok (.if_icmp .eq 20, 3) := by decide +kernel
theorem dX8_waits_18 : decode cX8_waits 18 = .ok (.aload_n 0, 1) := by decide +kernel
theorem dX8_waits_19 : decode cX8_waits 19 = .ok (.iload_n 2, 1) := by decide +kernel
theorem dX8_waits_20 : decode cX8_waits 20 = .ok (.invokevirtual 268, 3) := by decide +kernel
theorem dX8_waits_23 : decode cX8_waits 23 = .ok (.ifCond .eq 8, 3) := by decide +kernel
theorem dX8_waits_26 : decode cX8_waits 26 = .ok (.iload_n 2, 1) := by decide +kernel
theorem dX8_waits_27 : decode cX8_waits 27 = .ok (.iload_n 1, 1) := by decide +kernel
theorem dX8_waits_28 : decode cX8_waits 28 = .ok (.if_icmp .ne 7, 3) := by decide +kernel
theorem dX8_waits_31 : decode cX8_waits 31 = .ok (.iconst 2, 1) := by decide +kernel
theorem dX8_waits_32 : decode cX8_waits 32 = .ok (.goto 22, 3) := by decide +kernel
theorem dX8_waits_35 : decode cX8_waits 35 = .ok (.iload_n 2, 1) := by decide +kernel
theorem dX8_waits_36 : decode cX8_waits 36 = .ok (.iconst (-1), 1) := by decide +kernel
theorem dX8_waits_37 : decode cX8_waits 37 = .ok (.if_icmp .eq 16, 3) := by decide +kernel
theorem dX8_waits_40 : decode cX8_waits 40 = .ok (.aload_n 0, 1) := by decide +kernel
theorem dX8_waits_41 : decode cX8_waits 41 = .ok (.iload_n 2, 1) := by decide +kernel
theorem dX8_waits_42 : decode cX8_waits 42 = .ok (.iload_n 1, 1) := by decide +kernel
theorem dX8_waits_43 : decode cX8_waits 43 = .ok (.invokevirtual 205, 3) := by decide +kernel
theorem dX8_waits_46 : decode cX8_waits 46 = .ok (.ifCond .eq 7, 3) := by decide +kernel
theorem dX8_waits_49 : decode cX8_waits 49 = .ok (.iconst 5, 1) := by decide +kernel
theorem dX8_waits_50 : decode cX8_waits 50 = .ok (.goto 4, 3) := by decide +kernel
theorem dX8_waits_53 : decode cX8_waits 53 = .ok (.iconst 0, 1) := by decide +kernel
theorem dX8_waits_54 : decode cX8_waits 54 = .ok (.invokevirtual 180, 3) := by decide +kernel
theorem dX8_waits_57 : decode cX8_waits 57 = .ok (.ifCond .eq 5, 3) := by decide +kernel
theorem dX8_waits_60 : decode cX8_waits 60 = .ok (.iconst (-1), 1) := by decide +kernel
theorem dX8_waits_61 : decode cX8_waits 61 = .ok (.ireturn, 1) := by decide +kernel
theorem dX8_waits_62 : decode cX8_waits 62 = .ok (.aload_n 0, 1) := by decide +kernel
theorem dX8_waits_63 : decode cX8_waits 63 = .ok (.getfield 27, 3) := by decide +kernel
theorem dX8_waits_66 : decode cX8_waits 66 = .ok (.iload_n 1, 1) := by decide +kernel
theorem dX8_waits_67 : decode cX8_waits 67 = .ok (.iconst 3, 1) := by decide +kernel
theorem dX8_waits_68 : decode cX8_waits 68 = .ok (.invokestatic 201, 3) := by decide +kernel
theorem dX8_waits_71 : decode cX8_waits 71 = .ok (.iaload, 1) := by decide +kernel
theorem dX8_waits_72 : decode cX8_waits 72 = .ok (.istore_n 3, 1) := by decide +kernel
theorem dX8_waits_73 : decode cX8_waits 73 = .ok (.aload_n 0, 1) := by decide +kernel
theorem dX8_waits_74 : decode cX8_waits 74 = .ok (.getfield 27, 3) := by decide +kernel
theorem dX8_waits_77 : decode cX8_waits 77 = .ok (.iload_n 1, 1) := by decide +kernel
theorem dX8_waits_78 : decode cX8_waits 78 = .ok (.iconst 3, 1) := by decide +kernel
theorem dX8_waits_79 : decode cX8_waits 79 = .ok (.invokestatic 201, 3) := by decide +kernel
theorem dX8_waits_82 : decode cX8_waits 82 = .ok (.iload_n 2, 1) := by decide +kernel
theorem dX8_waits_83 : decode cX8_waits 83 = .ok (.iconst (-1), 1) := by decide +kernel
theorem dX8_waits_84 : decode cX8_waits 84 = .ok (.if_icmp .ne 8, 3) := by decide +kernel
theorem dX8_waits_87 : decode cX8_waits 87 = .ok (.bipush (-2), 2) := by decide +kernel
theorem dX8_waits_89 : decode cX8_waits 89 = .ok (.goto 4, 3) := by decide +kernel
theorem dX8_waits_92 : decode cX8_waits 92 = .ok (.iload_n 2, 1) := by decide +kernel
theorem dX8_waits_93 : decode cX8_waits 93 = .ok (.iastore, 1) := by decide +kernel
theorem dX8_waits_94 : decode cX8_waits 94 = .ok (.iload_n 3, 1) := by decide +kernel
theorem dX8_waits_95 : decode cX8_waits 95 = .ok (.ireturn, 1) := by decide +kernel
theorem dX8_stick_0 : decode cX8_stick 0 = .ok (.aload_n 0, 1) := by decide +kernel
theorem dX8_stick_1 : decode cX8_stick 1 = .ok (.aload_n 0, 1) := by decide +kernel
theorem dX8_stick_2 : decode cX8_stick 2 = .ok (.getfield 192, 3) := by decide +kernel
theorem dX8_stick_5 : decode cX8_stick 5 = .ok (.ifCond .eq 12, 3) := by decide +kernel
theorem dX8_stick_8 : decode cX8_stick 8 = .ok (.iload_n 1, 1) := by decide +kernel
theorem dX8_stick_9 : decode cX8_stick 9 = .ok (.iconst 0, 1) := by decide +kernel
theorem dX8_stick_10 : decode cX8_stick 10 = .ok (.iconst 5, 1) := by decide +kernel
theorem dX8_stick_11 : decode cX8_stick 11 = .ok (.invokestatic 83, 3) := by decide +kernel
theorem dX8_stick_14 : decode cX8_stick 14 = .ok (.ifCond .ne 7, 3) := by decide +kernel
theorem dX8_stick_17 : decode cX8_stick 17 = .ok (.iconst 1, 1) := by decide +kernel
theorem dX8_stick_18 : decode cX8_stick 18 = .ok (.goto 17, 3) := by decide +kernel
theorem dX8_stick_21 : decode cX8_stick 21 = .ok (.iload_n 2, 1) := by decide +kernel
theorem dX8_stick_22 : decode cX8_stick 22 = .ok (.iconst 0, 1) := by decide +kernel
theorem dX8_stick_23 : decode cX8_stick 23 = .ok (.iconst 2, 1) := by decide +kernel
theorem dX8_stick_24 : decode cX8_stick 24 = .ok (.invokestatic 83, 3) := by decide +kernel
theorem dX8_stick_27 : decode cX8_stick 27 = .ok (.ifCond .eq 7, 3) := by decide +kernel
theorem dX8_stick_30 : decode cX8_stick 30 = .ok (.iconst 0, 1) := by decide +kernel
theorem dX8_stick_31 : decode cX8_stick 31 = .ok (.goto 4, 3) := by decide +kernel
theorem dX8_stick_34 : decode cX8_stick 34 = .ok (.iconst 2, 1) := by decide +kernel
theorem dX8_stick_35 : decode cX8_stick 35 = .ok (.invokevirtual 180, 3) := by decide +kernel
theorem dX8_stick_38 : decode cX8_stick 38 = .ok (.ifCond .eq 5, 3) := by decide +kernel
theorem dX8_stick_41 : decode cX8_stick 41 = .ok (.iconst (-1), 1) := by decide +kernel
theorem dX8_stick_42 : decode cX8_stick 42 = .ok (.ireturn, 1) := by decide +kernel
theorem dX8_stick_43 : decode cX8_stick 43 = .ok (.aload_n 0, 1) := by decide +kernel
theorem dX8_stick_44 : decode cX8_stick 44 = .ok (.getfield 27, 3) := by decide +kernel
theorem dX8_stick_47 : decode cX8_stick 47 = .ok (.bipush 12, 2) := by decide +kernel
theorem dX8_stick_49 : decode cX8_stick 49 = .ok (.iload_n 1, 1) := by decide +kernel
theorem dX8_stick_50 : decode cX8_stick 50 = .ok (.iadd, 1) := by decide +kernel
theorem dX8_stick_51 : decode cX8_stick 51 = .ok (.iaload, 1) := by decide +kernel
theorem dX8_stick_52 : decode cX8_stick 52 = .ok (.istore_n 3, 1) := by decide +kernel
theorem dX8_stick_53 : decode cX8_stick 53 = .ok (.aload_n 0, 1) := by decide +kernel
theorem dX8_stick_54 : decode cX8_stick 54 = .ok (.getfield 27, 3) := by decide +kernel
theorem dX8_stick_57 : decode cX8_stick 57 = .ok (.bipush 12, 2) := by decide +kernel
theorem dX8_stick_59 : decode cX8_stick 59 = .ok (.iload_n 1, 1) := by decide +kernel
theorem dX8_stick_60 : decode cX8_stick 60 = .ok (.iadd, 1) := by decide +kernel
theorem dX8_stick_61 : decode cX8_stick 61 = .ok (.iload_n 2, 1) := by decide +kernel
theorem dX8_stick_62 : decode cX8_stick 62 = .ok (.iastore, 1) := by decide +kernel
theorem dX8_stick_63 : decode cX8_stick 63 = .ok (.iload_n 3, 1) := by decide +kernel
theorem dX8_stick_64 : decode cX8_stick 64 = .ok (.ireturn, 1) := by decide +kernel
theorem dX8_ticks_0 : decode cX8_ticks 0 = .ok (.aload_n 0, 1) := by decide +kernel
theorem dX8_ticks_1 : decode cX8_ticks 1 = .ok (.aload_n 0, 1) := by decide +kernel
theorem dX8_ticks_2 : decode cX8_ticks 2 = .ok (.getfield 192, 3) := by decide +kernel
theorem dX8_ticks_5 : decode cX8_ticks 5 = .ok (.ifCond .ne 7, 3) := by decide +kernel
theorem dX8_ticks_8 : decode cX8_ticks 8 = .ok (.iconst 1, 1) := by decide +kernel
theorem dX8_ticks_9 : decode cX8_ticks 9 = .ok (.goto 19, 3) := by decide +kernel
theorem dX8_ticks_12 : decode cX8_ticks 12 = .ok (.iload_n 1, 1) := by decide +kernel
theorem dX8_ticks_13 : decode cX8_ticks 13 = .ok (.iconst 1, 1) := by decide +kernel
theorem dX8_ticks_14 : decode cX8_ticks 14 = .ok (.sipush 999, 3) := by decide +kernel
theorem dX8_ticks_17 : decode cX8_ticks 17 = .ok (.invokestatic 83, 3) := by decide +kernel
theorem dX8_ticks_20 : decode cX8_ticks 20 = .ok (.ifCond .eq 7, 3) := by decide +kernel
theorem dX8_ticks_23 : decode cX8_ticks 23 = .ok (.iconst 0, 1) := by decide +kernel
theorem dX8_ticks_24 : decode cX8_ticks 24 = .ok (.goto 4, 3) := by decide +kernel
theorem dX8_ticks_27 : decode cX8_ticks 27 = .ok (.iconst 2, 1) := by decide +kernel
theorem dX8_ticks_28 : decode cX8_ticks 28 = .ok (.invokevirtual 180, 3) := by decide +kernel
theorem dX8_ticks_31 : decode cX8_ticks 31 = .ok (.ifCond .eq 5, 3) := by decide +kernel
theorem dX8_ticks_34 : decode cX8_ticks 34 = .ok (.iconst (-1), 1) := by decide +kernel
theorem dX8_ticks_35 : decode cX8_ticks 35 = .ok (.ireturn, 1) := by decide +kernel
theorem dX8_ticks_36 : decode cX8_ticks 36 = .ok (.iconst 0, 1) := by decide +kernel
theorem dX8_ticks_37 : decode cX8_ticks 37 = .ok (.istore_n 2, 1) := by decide +kernel
theorem dX8_ticks_38 : decode cX8_ticks 38 = .ok (.iload_n 2, 1) := by decide +kernel
theorem dX8_ticks_39 : decode cX8_ticks 39 = .ok (.iload_n 1, 1) := by decide +kernel
theorem dX8_ticks_40 : decode cX8_ticks 40 = .ok (.if_icmp .ge 13, 3) := by decide +kernel
theorem dX8_ticks_43 : decode cX8_ticks 43 = .ok (.aload_n 0, 1) := by decide +kernel
theorem dX8_ticks_44 : decode cX8_ticks 44 = .ok (.invokevirtual 334, 3) := by decide +kernel
theorem dX8_ticks_47 : decode cX8_ticks 47 = .ok (.iinc 2 1, 3) := by decide +kernel
theorem dX8_ticks_50 : decode cX8_ticks 50 = .ok (.goto (-12), 3) := by decide +kernel
theorem dX8_ticks_53 : decode cX8_ticks 53 = .ok (.aload_n 0, 1) := by decide +kernel
theorem dX8_ticks_54 : decode cX8_ticks 54 = .ok (.getfield 27, 3) := by decide +kernel
theorem dX8_ticks_57 : decode cX8_ticks 57 = .ok (.iconst 1, 1) := by decide +kernel
theorem dX8_ticks_58 : decode cX8_ticks 58 = .ok (.iaload, 1) := by decide +kernel
theorem dX8_ticks_59 : decode cX8_ticks 59 = .ok (.ireturn, 1) := by decide +kernel
theorem dX8_keep_0 : decode cX8_keep 0 = .ok (.aload_n 0, 1) := by decide +kernel
theorem dX8_keep_1 : decode cX8_keep 1 = .ok (.aload_n 0, 1) := by decide +kernel
theorem dX8_keep_2 : decode cX8_keep 2 = .ok (.getfield 192, 3) := by decide +kernel
theorem dX8_keep_5 : decode cX8_keep 5 = .ok (.invokestatic 324, 3) := by decide +kernel
theorem dX8_keep_8 : decode cX8_keep 8 = .ok (.invokevirtual 180, 3) := by decide +kernel
theorem dX8_keep_11 : decode cX8_keep 11 = .ok (.ifCond .eq 5, 3) := by decide +kernel
theorem dX8_keep_14 : decode cX8_keep 14 = .ok (.iconst 0, 1) := by decide +kernel
theorem dX8_keep_15 : decode cX8_keep 15 = .ok (.ireturn, 1) := by decide +kernel
theorem dX8_keep_16 : decode cX8_keep 16 = .ok (.iconst 0, 1) := by decide +kernel
theorem dX8_keep_17 : decode cX8_keep 17 = .ok (.istore_n 1, 1) := by decide +kernel
theorem dX8_keep_18 : decode cX8_keep 18 = .ok (.iload_n 1, 1) := by decide +kernel
theorem dX8_keep_19 : decode cX8_keep 19 = .ok (.sipush 251, 3) := by decide +kernel
theorem dX8_keep_22 : decode cX8_keep 22 = .ok (.if_icmp .ge 21, 3) := by decide +kernel
theorem dX8_keep_25 : decode cX8_keep 25 = .ok (.aload_n 0, 1) := by decide +kernel
theorem dX8_keep_26 : decode cX8_keep 26 = .ok (.getfield 33, 3) := by decide +kernel
theorem dX8_keep_29 : decode cX8_keep 29 = .ok (.iload_n 1, 1) := by decide +kernel
theorem dX8_keep_30 : decode cX8_keep 30 = .ok (.aload_n 0, 1) := by decide +kernel
theorem dX8_keep_31 : decode cX8_keep 31 = .ok (.getfield 27, 3) := by decide +kernel
theorem dX8_keep_34 : decode cX8_keep 34 = .ok (.iload_n 1, 1) := by decide +kernel
theorem dX8_keep_35 : decode cX8_keep 35 = .ok (.iaload, 1) := by decide +kernel
theorem dX8_keep_36 : decode cX8_keep 36 = .ok (.iastore, 1) := by decide +kernel
theorem dX8_keep_37 : decode cX8_keep 37 = .ok (.iinc 1 1, 3) := by decide +kernel
theorem dX8_keep_40 : decode cX8_keep 40 = .ok (.goto (-22), 3) := by decide +kernel
theorem dX8_keep_43 : decode cX8_keep 43 = .ok (.aload_n 0, 1) := by decide +kernel
theorem dX8_keep_44 : decode cX8_keep 44 = .ok (.iconst 1, 1) := by decide +kernel
theorem dX8_keep_45 : decode cX8_keep 45 = .ok (.putfield 195, 3) := by decide +kernel
theorem dX8_keep_48 : decode cX8_keep 48 = .ok (.iconst 1, 1) := by decide +kernel
theorem dX8_keep_49 : decode cX8_keep 49 = .ok (.ireturn, 1) := by decide +kernel
theorem dX8_back_0 : decode cX8_back 0 = .ok (.aload_n 0, 1) := by decide +kernel
theorem dX8_back_1 : decode cX8_back 1 = .ok (.aload_n 0, 1) := by decide +kernel
theorem dX8_back_2 : decode cX8_back 2 = .ok (.getfield 195, 3) := by decide +kernel
theorem dX8_back_5 : decode cX8_back 5 = .ok (.invokestatic 324, 3) := by decide +kernel
theorem dX8_back_8 : decode cX8_back 8 = .ok (.invokevirtual 180, 3) := by decide +kernel
theorem dX8_back_11 : decode cX8_back 11 = .ok (.ifCond .eq 5, 3) := by decide +kernel
theorem dX8_back_14 : decode cX8_back 14 = .ok (.iconst 0, 1) := by decide +kernel
theorem dX8_back_15 : decode cX8_back 15 = .ok (.ireturn, 1) := by decide +kernel
theorem dX8_back_16 : decode cX8_back 16 = .ok (.iconst 0, 1) := by decide +kernel
theorem dX8_back_17 : decode cX8_back 17 = .ok (.istore_n 1, 1) := by decide +kernel
theorem dX8_back_18 : decode cX8_back 18 = .ok (.iload_n 1, 1) := by decide +kernel
theorem dX8_back_19 : decode cX8_back 19 = .ok (.sipush 251, 3) := by decide +kernel
theorem dX8_back_22 : decode cX8_back 22 = .ok (.if_icmp .ge 21, 3) := by decide +kernel
theorem dX8_back_25 : decode cX8_back 25 = .ok (.aload_n 0, 1) := by decide +kernel
theorem dX8_back_26 : decode cX8_back 26 = .ok (.getfield 27, 3) := by decide +kernel
theorem dX8_back_29 : decode cX8_back 29 = .ok (.iload_n 1, 1) := by decide +kernel
theorem dX8_back_30 : decode cX8_back 30 = .ok (.aload_n 0, 1) := by decide +kernel
theorem dX8_back_31 : decode cX8_back 31 = .ok (.getfield 33, 3) := by decide +kernel
theorem dX8_back_34 : decode cX8_back 34 = .ok (.iload_n 1, 1) := by decide +kernel
theorem dX8_back_35 : decode cX8_back 35 = .ok (.iaload, 1) := by decide +kernel
theorem dX8_back_36 : decode cX8_back 36 = .ok (.iastore, 1) := by decide +kernel
theorem dX8_back_37 : decode cX8_back 37 = .ok (.iinc 1 1, 3) := by decide +kernel
theorem dX8_back_40 : decode cX8_back 40 = .ok (.goto (-22), 3) := by decide +kernel
theorem dX8_back_43 : decode cX8_back 43 = .ok (.iconst 1, 1) := by decide +kernel
theorem dX8_back_44 : decode cX8_back 44 = .ok (.ireturn, 1) := by decide +kernel
theorem dX8_bySlot_0 : decode cX8_bySlot 0 = .ok (.iconst 0, 1) := by decide +kernel
theorem dX8_bySlot_1 : decode cX8_bySlot 1 = .ok (.istore_n 2, 1) := by decide +kernel
theorem dX8_bySlot_2 : decode cX8_bySlot 2 = .ok (.iload_n 2, 1) := by decide +kernel
theorem dX8_bySlot_3 : decode cX8_bySlot 3 = .ok (.aload_n 0, 1) := by decide +kernel
theorem dX8_bySlot_4 : decode cX8_bySlot 4 = .ok (.getfield 17, 3) := by decide +kernel
theorem dX8_bySlot_7 : decode cX8_bySlot 7 = .ok (.iconst 3, 1) := by decide +kernel
theorem dX8_bySlot_8 : decode cX8_bySlot 8 = .ok (.iaload, 1) := by decide +kernel
theorem dX8_bySlot_9 : decode cX8_bySlot 9 = .ok (.if_icmp .ge 66, 3) := by decide +kernel
theorem dX8_bySlot_12 : decode cX8_bySlot 12 = .ok (.iconst 0, 1) := by decide +kernel
theorem dX8_bySlot_13 : decode cX8_bySlot 13 = .ok (.istore_n 3, 1) := by decide +kernel
theorem dX8_bySlot_14 : decode cX8_bySlot 14 = .ok (.iconst 0, 1) := by decide +kernel
theorem dX8_bySlot_15 : decode cX8_bySlot 15 = .ok (.istore 4, 2) := by decide +kernel
theorem dX8_bySlot_17 : decode cX8_bySlot 17 = .ok (.iload 4, 2) := by decide +kernel
theorem dX8_bySlot_19 : decode cX8_bySlot 19 = .ok (.aload_n 0, 1) := by decide +kernel
theorem dX8_bySlot_20 : decode cX8_bySlot 20 = .ok (.getfield 17, 3) := by decide +kernel
theorem dX8_bySlot_23 : decode cX8_bySlot 23 = .ok (.iconst 3, 1) := by decide +kernel
theorem dX8_bySlot_24 : decode cX8_bySlot 24 = .ok (.iaload, 1) := by decide +kernel
theorem dX8_bySlot_25 : decode cX8_bySlot 25 = .ok (.if_icmp .ge 37, 3) := by decide +kernel
theorem dX8_bySlot_28 : decode cX8_bySlot 28 = .ok (.iload_n 3, 1) := by decide +kernel
theorem dX8_bySlot_29 : decode cX8_bySlot 29 = .ok (.aload_n 0, 1) := by decide +kernel
theorem dX8_bySlot_30 : decode cX8_bySlot 30 = .ok (.getfield 17, 3) := by decide +kernel
theorem dX8_bySlot_33 : decode cX8_bySlot 33 = .ok (.iconst 5, 1) := by decide +kernel
theorem dX8_bySlot_34 : decode cX8_bySlot 34 = .ok (.iload 4, 2) := by decide +kernel
theorem dX8_bySlot_36 : decode cX8_bySlot 36 = .ok (.iadd, 1) := by decide +kernel
theorem dX8_bySlot_37 : decode cX8_bySlot 37 = .ok (.iaload, 1) := by decide +kernel
theorem dX8_bySlot_38 : decode cX8_bySlot 38 = .ok (.aload_n 0, 1) := by decide +kernel
theorem dX8_bySlot_39 : decode cX8_bySlot 39 = .ok (.getfield 17, 3) := by decide +kernel
theorem dX8_bySlot_42 : decode cX8_bySlot 42 = .ok (.iconst 5, 1) := by decide +kernel
theorem dX8_bySlot_43 : decode cX8_bySlot 43 = .ok (.iload_n 2, 1) := by decide +kernel
theorem dX8_bySlot_44 : decode cX8_bySlot 44 = .ok (.iadd, 1) := by decide +kernel
theorem dX8_bySlot_45 : decode cX8_bySlot 45 = .ok (.iaload, 1) := by decide +kernel
theorem dX8_bySlot_46 : decode cX8_bySlot 46 = .ok (.if_icmp .ge 7, 3) := by decide +kernel
theorem dX8_bySlot_49 : decode cX8_bySlot 49 = .ok (.iconst 1, 1) := by decide +kernel
theorem dX8_bySlot_50 : decode cX8_bySlot 50 = .ok (.goto 4, 3) := by decide +kernel
theorem dX8_bySlot_53 : decode cX8_bySlot 53 = .ok (.iconst 0, 1) := by decide +kernel
theorem dX8_bySlot_54 : decode cX8_bySlot 54 = .ok (.iadd, 1) := by decide +kernel
theorem dX8_bySlot_55 : decode cX8_bySlot 55 = .ok (.istore_n 3, 1) := by decide +kernel
theorem dX8_bySlot_56 : decode cX8_bySlot 56 = .ok (.iinc 4 1, 3) := by decide +kernel
theorem dX8_bySlot_59 : decode cX8_bySlot 59 = .ok (.goto (-42), 3) := by decide +kernel
theorem dX8_bySlot_62 : decode cX8_bySlot 62 = .ok (.iload_n 3, 1) := by decide +kernel
theorem dX8_bySlot_63 : decode cX8_bySlot 63 = .ok (.iload_n 1, 1) := by decide +kernel
theorem dX8_bySlot_64 : decode cX8_bySlot 64 = .ok (.if_icmp .ne 5, 3) := by decide +kernel
theorem dX8_bySlot_67 : decode cX8_bySlot 67 = .ok (.iload_n 2, 1) := by decide +kernel
theorem dX8_bySlot_68 : decode cX8_bySlot 68 = .ok (.ireturn, 1) := by decide +kernel
theorem dX8_bySlot_69 : decode cX8_bySlot 69 = .ok (.iinc 2 1, 3) := by decide +kernel
theorem dX8_bySlot_72 : decode cX8_bySlot 72 = .ok (.goto (-70), 3) := by decide +kernel
theorem dX8_bySlot_75 : decode cX8_bySlot 75 = .ok (.iconst (-1), 1) := by decide +kernel
theorem dX8_bySlot_76 : decode cX8_bySlot 76 = .ok (.ireturn, 1) := by decide +kernel
theorem dX8_never_0 : decode cX8_never 0 = .ok (.aload_n 0, 1) := by decide +kernel
theorem dX8_never_1 : decode cX8_never 1 = .ok (.iconst 0, 1) := by decide +kernel
theorem dX8_never_2 : decode cX8_never 2 = .ok (.putfield 54, 3) := by decide +kernel
theorem dX8_never_5 : decode cX8_never 5 = .ok (.iconst 0, 1) := by decide +kernel
theorem dX8_never_6 : decode cX8_never 6 = .ok (.istore_n 2, 1) := by decide +kernel
theorem dX8_never_7 : decode cX8_never 7 = .ok (.iconst 0, 1) := by decide +kernel
theorem dX8_never_8 : decode cX8_never 8 = .ok (.istore_n 3, 1) := by decide +kernel
theorem dX8_never_9 : decode cX8_never 9 = .ok (.aload_n 0, 1) := by decide +kernel
theorem dX8_never_10 : decode cX8_never 10 = .ok (.getfield 192, 3) := by decide +kernel
theorem dX8_never_13 : decode cX8_never 13 = .ok (.ifCond .eq 52, 3) := by decide +kernel
theorem dX8_never_16 : decode cX8_never 16 = .ok (.iload_n 3, 1) := by decide +kernel
theorem dX8_never_17 : decode cX8_never 17 = .ok (.aload_n 0, 1) := by decide +kernel
theorem dX8_never_18 : decode cX8_never 18 = .ok (.getfield 17, 3) := by decide +kernel
theorem dX8_never_21 : decode cX8_never 21 = .ok (.iconst 3, 1) := by decide +kernel
theorem dX8_never_22 : decode cX8_never 22 = .ok (.iaload, 1) := by decide +kernel
theorem dX8_never_23 : decode cX8_never 23 = .ok (.if_icmp .ge 42, 3) := by decide +kernel
theorem dX8_never_26 : decode cX8_never 26 = .ok (.aload_n 0, 1) := by decide +kernel
theorem dX8_never_27 : decode cX8_never 27 = .ok (.iload_n 3, 1) := by decide +kernel
theorem dX8_never_28 : decode cX8_never 28 = .ok (.invokevirtual 340, 3) := by decide +kernel
theorem dX8_never_31 : decode cX8_never 31 = .ok (.istore 4, 2) := by decide +kernel
theorem dX8_never_33 : decode cX8_never 33 = .ok (.aload_n 0, 1) := by decide +kernel
theorem dX8_never_34 : decode cX8_never 34 = .ok (.getfield 27, 3) := by decide +kernel
theorem dX8_never_37 : decode cX8_never 37 = .ok (.iload 4, 2) := by decide +kernel
theorem dX8_never_39 : decode cX8_never 39 = .ok (.bipush 6, 2) := by decide +kernel
theorem dX8_never_41 : decode cX8_never 41 = .ok (.invokestatic 201, 3) := by decide +kernel
theorem dX8_never_44 : decode cX8_never 44 = .ok (.iaload, 1) := by decide +kernel
theorem dX8_never_45 : decode cX8_never 45 = .ok (.ifCond .ne 14, 3) := by decide +kernel
theorem dX8_never_48 : decode cX8_never 48 = .ok (.iload_n 2, 1) := by decide +kernel
theorem dX8_never_49 : decode cX8_never 49 = .ok (.iload_n 1, 1) := by decide +kernel
theorem dX8_never_50 : decode cX8_never 50 = .ok (.if_icmp .ne 6, 3) := by decide +kernel
theorem dX8_never_53 : decode cX8_never 53 = .ok (.iload 4, 2) := by decide +kernel
theorem dX8_never_55 : decode cX8_never 55 = .ok (.ireturn, 1) := by decide +kernel
theorem dX8_never_56 : decode cX8_never 56 = .ok (.iinc 2 1, 3) := by decide +kernel
theorem dX8_never_59 : decode cX8_never 59 = .ok (.iinc 3 1, 3) := by decide +kernel
theorem dX8_never_62 : decode cX8_never 62 = .ok (.goto (-53), 3) := by decide +kernel
theorem dX8_never_65 : decode cX8_never 65 = .ok (.aload_n 0, 1) := by decide +kernel
theorem dX8_never_66 : decode cX8_never 66 = .ok (.iconst 1, 1) := by decide +kernel
theorem dX8_never_67 : decode cX8_never 67 = .ok (.putfield 54, 3) := by decide +kernel
theorem dX8_never_70 : decode cX8_never 70 = .ok (.iconst 0, 1) := by decide +kernel
theorem dX8_never_71 : decode cX8_never 71 = .ok (.ireturn, 1) := by decide +kernel
theorem dX8_size_0 : decode cX8_size 0 = .ok (.aload_n 0, 1) := by decide +kernel
theorem dX8_size_1 : decode cX8_size 1 = .ok (.iconst 0, 1) := by decide +kernel
theorem dX8_size_2 : decode cX8_size 2 = .ok (.putfield 54, 3) := by decide +kernel
theorem dX8_size_5 : decode cX8_size 5 = .ok (.iconst 0, 1) := by decide +kernel
theorem dX8_size_6 : decode cX8_size 6 = .ok (.istore_n 2, 1) := by decide +kernel
theorem dX8_size_7 : decode cX8_size 7 = .ok (.iconst 0, 1) := by decide +kernel
theorem dX8_size_8 : decode cX8_size 8 = .ok (.istore_n 3, 1) := by decide +kernel
theorem dX8_size_9 : decode cX8_size 9 = .ok (.iload_n 3, 1) := by decide +kernel
theorem dX8_size_10 : decode cX8_size 10 = .ok (.bipush 6, 2) := by decide +kernel
theorem dX8_size_12 : decode cX8_size 12 = .ok (.if_icmp .ge 29, 3) := by decide +kernel
theorem dX8_size_15 : decode cX8_size 15 = .ok (.iload_n 2, 1) := by decide +kernel
theorem dX8_size_16 : decode cX8_size 16 = .ok (.aload_n 0, 1) := by decide +kernel
theorem dX8_size_17 : decode cX8_size 17 = .ok (.getfield 27, 3) := by decide +kernel
theorem dX8_size_20 : decode cX8_size 20 = .ok (.bipush 12, 2) := by decide +kernel
theorem dX8_size_22 : decode cX8_size 22 = .ok (.iload_n 3, 1) := by decide +kernel
theorem dX8_size_23 : decode cX8_size 23 = .ok (.iadd, 1) := by decide +kernel
theorem dX8_size_24 : decode cX8_size 24 = .ok (.iaload, 1) := by decide +kernel
theorem dX8_size_25 : decode cX8_size 25 = .ok (.ifCond .ne 7, 3) := by decide +kernel
theorem dX8_size_28 : decode cX8_size 28 = .ok (.iconst 0, 1) := by decide +kernel
theorem dX8_size_29 : decode cX8_size 29 = .ok (.goto 4, 3) := by decide +kernel
theorem dX8_size_32 : decode cX8_size 32 = .ok (.iconst 1, 1) := by decide +kernel
theorem dX8_size_33 : decode cX8_size 33 = .ok (.iadd, 1) := by decide +kernel
theorem dX8_size_34 : decode cX8_size 34 = .ok (.istore_n 2, 1) := by decide +kernel
theorem dX8_size_35 : decode cX8_size 35 = .ok (.iinc 3 1, 3) := by decide +kernel
theorem dX8_size_38 : decode cX8_size 38 = .ok (.goto (-29), 3) := by decide +kernel
theorem dX8_size_41 : decode cX8_size 41 = .ok (.iload_n 1, 1) := by decide +kernel
theorem dX8_size_42 : decode cX8_size 42 = .ok (.tableswitch 76 0 3 #[30, 35, 61, 74], 30) := by decide +kernel
theorem dX8_size_72 : decode cX8_size 72 = .ok (.aload_n 0, 1) := by decide +kernel
theorem dX8_size_73 : decode cX8_size 73 = .ok (.getfield 60, 3) := by decide +kernel
theorem dX8_size_76 : decode cX8_size 76 = .ok (.ireturn, 1) := by decide +kernel
theorem dX8_size_77 : decode cX8_size 77 = .ok (.aload_n 0, 1) := by decide +kernel
theorem dX8_size_78 : decode cX8_size 78 = .ok (.getfield 192, 3) := by decide +kernel
theorem dX8_size_81 : decode cX8_size 81 = .ok (.ifCond .eq 20, 3) := by decide +kernel
theorem dX8_size_84 : decode cX8_size 84 = .ok (.aload_n 0, 1) := by decide +kernel
theorem dX8_size_85 : decode cX8_size 85 = .ok (.getfield 17, 3) := by decide +kernel
theorem dX8_size_88 : decode cX8_size 88 = .ok (.iconst 4, 1) := by decide +kernel
theorem dX8_size_89 : decode cX8_size 89 = .ok (.iaload, 1) := by decide +kernel
theorem dX8_size_90 : decode cX8_size 90 = .ok (.aload_n 0, 1) := by decide +kernel
theorem dX8_size_91 : decode cX8_size 91 = .ok (.getfield 27, 3) := by decide +kernel
theorem dX8_size_94 : decode cX8_size 94 = .ok (.bipush 11, 2) := by decide +kernel
theorem dX8_size_96 : decode cX8_size 96 = .ok (.iaload, 1) := by decide +kernel
theorem dX8_size_97 : decode cX8_size 97 = .ok (.isub, 1) := by decide +kernel
theorem dX8_size_98 : decode cX8_size 98 = .ok (.goto 4, 3) := by decide +kernel
theorem dX8_size_101 : decode cX8_size 101 = .ok (.iconst 0, 1) := by decide +kernel
theorem dX8_size_102 : decode cX8_size 102 = .ok (.ireturn, 1) := by decide +kernel
theorem dX8_size_103 : decode cX8_size 103 = .ok (.aload_n 0, 1) := by decide +kernel
theorem dX8_size_104 : decode cX8_size 104 = .ok (.getfield 195, 3) := by decide +kernel
theorem dX8_size_107 : decode cX8_size 107 = .ok (.ifCond .eq 7, 3) := by decide +kernel
theorem dX8_size_110 : decode cX8_size 110 = .ok (.iconst 1, 1) := by decide +kernel
theorem dX8_size_111 : decode cX8_size 111 = .ok (.goto 4, 3) := by decide +kernel
theorem dX8_size_114 : decode cX8_size 114 = .ok (.iconst 0, 1) := by decide +kernel
theorem dX8_size_115 : decode cX8_size 115 = .ok (.ireturn, 1) := by decide +kernel
theorem dX8_size_116 : decode cX8_size 116 = .ok (.iload_n 2, 1) := by decide +kernel
theorem dX8_size_117 : decode cX8_size 117 = .ok (.ireturn, 1) := by decide +kernel
theorem dX8_size_118 : decode cX8_size 118 = .ok (.iconst (-1), 1) := by decide +kernel
theorem dX8_size_119 : decode cX8_size 119 = .ok (.ireturn, 1) := by decide +kernel
theorem dX8_trouble_0 : decode cX8_trouble 0 = .ok (.aload_n 0, 1) := by decide +kernel
theorem dX8_trouble_1 : decode cX8_trouble 1 = .ok (.iconst 0, 1) := by decide +kernel
theorem dX8_trouble_2 : decode cX8_trouble 2 = .ok (.putfield 54, 3) := by decide +kernel
theorem dX8_trouble_5 : decode cX8_trouble 5 = .ok (.aload_n 0, 1) := by decide +kernel
theorem dX8_trouble_6 : decode cX8_trouble 6 = .ok (.getfield 57, 3) := by decide +kernel
theorem dX8_trouble_9 : decode cX8_trouble 9 = .ok (.ireturn, 1) := by decide +kernel
