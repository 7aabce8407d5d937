theorem dX0_init_0 : decode cX0_init 0 = .ok (.aload_n 0, 1) := by decide +kernel
theorem dX0_init_1 : decode cX0_init 1 = .ok (.invokespecial 3, 3) := by decide +kernel
theorem dX0_init_4 : decode cX0_init 4 = .ok (.aload_n 0, 1) := by decide +kernel
theorem dX0_init_5 : decode cX0_init 5 = .ok (.bipush 16, 2) := by decide +kernel
theorem dX0_init_7 : decode cX0_init 7 = .ok (.newarray .int, 2) := by decide +kernel
theorem dX0_init_9 : decode cX0_init 9 = .ok (.putfield 9, 3) := by decide +kernel
theorem dX0_init_12 : decode cX0_init 12 = .ok (.return_, 1) := by decide +kernel
theorem dX0_fewest_0 : decode cX0_fewest 0 = .ok (.iconst 0, 1) := by decide +kernel
theorem dX0_fewest_1 : decode cX0_fewest 1 = .ok (.istore_n 2, 1) := by decide +kernel
theorem dX0_fewest_2 : decode cX0_fewest 2 = .ok (.iload_n 2, 1) := by decide +kernel
theorem dX0_fewest_3 : decode cX0_fewest 3 = .ok (.aload_n 1, 1) := by decide +kernel
theorem dX0_fewest_4 : decode cX0_fewest 4 = .ok (.getfield 15, 3) := by decide +kernel
theorem dX0_fewest_7 : decode cX0_fewest 7 = .ok (.if_icmp .ge 25, 3) := by decide +kernel
theorem dX0_fewest_10 : decode cX0_fewest 10 = .ok (.aload_n 1, 1) := by decide +kernel
theorem dX0_fewest_11 : decode cX0_fewest 11 = .ok (.aload_n 0, 1) := by decide +kernel
theorem dX0_fewest_12 : decode cX0_fewest 12 = .ok (.getfield 9, 3) := by decide +kernel
theorem dX0_fewest_15 : decode cX0_fewest 15 = .ok (.iconst 0, 1) := by decide +kernel
theorem dX0_fewest_16 : decode cX0_fewest 16 = .ok (.iconst 0, 1) := by decide +kernel
theorem dX0_fewest_17 : decode cX0_fewest 17 = .ok (.iload_n 2, 1) := by decide +kernel
theorem dX0_fewest_18 : decode cX0_fewest 18 = .ok (.invokestatic 21, 3) := by decide +kernel
theorem dX0_fewest_21 : decode cX0_fewest 21 = .ok (.ifCond .eq 5, 3) := by decide +kernel
theorem dX0_fewest_24 : decode cX0_fewest 24 = .ok (.iload_n 2, 1) := by decide +kernel
theorem dX0_fewest_25 : decode cX0_fewest 25 = .ok (.ireturn, 1) := by decide +kernel
theorem dX0_fewest_26 : decode cX0_fewest 26 = .ok (.iinc 2 1, 3) := by decide +kernel
theorem dX0_fewest_29 : decode cX0_fewest 29 = .ok (.goto (-27), 3) := by decide +kernel
theorem dX0_fewest_32 : decode cX0_fewest 32 = .ok (.aload_n 1, 1) := by decide +kernel
theorem dX0_fewest_33 : decode cX0_fewest 33 = .ok (.getfield 15, 3) := by decide +kernel
theorem dX0_fewest_36 : decode cX0_fewest 36 = .ok (.ireturn, 1) := by decide +kernel
theorem dX0_paint_0 : decode cX0_paint 0 = .ok (.iload_n 2, 1) := by decide +kernel
theorem dX0_paint_1 : decode cX0_paint 1 = .ok (.aload_n 0, 1) := by decide +kernel
theorem dX0_paint_2 : decode cX0_paint 2 = .ok (.getfield 15, 3) := by decide +kernel
theorem dX0_paint_5 : decode cX0_paint 5 = .ok (.if_icmp .ge 9, 3) := by decide +kernel
theorem dX0_paint_8 : decode cX0_paint 8 = .ok (.iload_n 2, 1) := by decide +kernel
theorem dX0_paint_9 : decode cX0_paint 9 = .ok (.bipush 16, 2) := by decide +kernel
theorem dX0_paint_11 : decode cX0_paint 11 = .ok (.if_icmp .lt 5, 3) := by decide +kernel
theorem dX0_paint_14 : decode cX0_paint 14 = .ok (.iconst 1, 1) := by decide +kernel
theorem dX0_paint_15 : decode cX0_paint 15 = .ok (.ireturn, 1) := by decide +kernel
theorem dX0_paint_16 : decode cX0_paint 16 = .ok (.iconst 0, 1) := by decide +kernel
theorem dX0_paint_17 : decode cX0_paint 17 = .ok (.istore 5, 2) := by decide +kernel
theorem dX0_paint_19 : decode cX0_paint 19 = .ok (.iload 5, 2) := by decide +kernel
theorem dX0_paint_21 : decode cX0_paint 21 = .ok (.iload_n 3, 1) := by decide +kernel
theorem dX0_paint_22 : decode cX0_paint 22 = .ok (.if_icmp .gt 55, 3) := by decide +kernel
theorem dX0_paint_25 : decode cX0_paint 25 = .ok (.iload 5, 2) := by decide +kernel
theorem dX0_paint_27 : decode cX0_paint 27 = .ok (.iload 4, 2) := by decide +kernel
theorem dX0_paint_29 : decode cX0_paint 29 = .ok (.if_icmp .ge 48, 3) := by decide +kernel
theorem dX0_paint_32 : decode cX0_paint 32 = .ok (.aload_n 0, 1) := by decide +kernel
theorem dX0_paint_33 : decode cX0_paint 33 = .ok (.aload_n 1, 1) := by decide +kernel
theorem dX0_paint_34 : decode cX0_paint 34 = .ok (.iload_n 2, 1) := by decide +kernel
theorem dX0_paint_35 : decode cX0_paint 35 = .ok (.iload 5, 2) := by decide +kernel
theorem dX0_paint_37 : decode cX0_paint 37 = .ok (.invokestatic 25, 3) := by decide +kernel
theorem dX0_paint_40 : decode cX0_paint 40 = .ok (.ifCond .eq 31, 3) := by decide +kernel
theorem dX0_paint_43 : decode cX0_paint 43 = .ok (.aload_n 1, 1) := by decide +kernel
theorem dX0_paint_44 : decode cX0_paint 44 = .ok (.iload_n 2, 1) := by decide +kernel
theorem dX0_paint_45 : decode cX0_paint 45 = .ok (.iload 5, 2) := by decide +kernel
theorem dX0_paint_47 : decode cX0_paint 47 = .ok (.iastore, 1) := by decide +kernel
theorem dX0_paint_48 : decode cX0_paint 48 = .ok (.aload_n 0, 1) := by decide +kernel
theorem dX0_paint_49 : decode cX0_paint 49 = .ok (.aload_n 1, 1) := by decide +kernel
theorem dX0_paint_50 : decode cX0_paint 50 = .ok (.iload_n 2, 1) := by decide +kernel
theorem dX0_paint_51 : decode cX0_paint 51 = .ok (.iconst 1, 1) := by decide +kernel
theorem dX0_paint_52 : decode cX0_paint 52 = .ok (.iadd, 1) := by decide +kernel
theorem dX0_paint_53 : decode cX0_paint 53 = .ok (.iload_n 3, 1) := by decide +kernel
theorem dX0_paint_54 : decode cX0_paint 54 = .ok (.iload 5, 2) := by decide +kernel
theorem dX0_paint_56 : decode cX0_paint 56 = .ok (.iconst 1, 1) := by decide +kernel
theorem dX0_paint_57 : decode cX0_paint 57 = .ok (.iadd, 1) := by decide +kernel
theorem dX0_paint_58 : decode cX0_paint 58 = .ok (.invokestatic 29, 3) := by decide +kernel
theorem dX0_paint_61 : decode cX0_paint 61 = .ok (.iload 4, 2) := by decide +kernel
theorem dX0_paint_63 : decode cX0_paint 63 = .ok (.invokestatic 21, 3) := by decide +kernel
theorem dX0_paint_66 : decode cX0_paint 66 = .ok (.ifCond .eq 5, 3) := by decide +kernel
theorem dX0_paint_69 : decode cX0_paint 69 = .ok (.iconst 1, 1) := by decide +kernel
theorem dX0_paint_70 : decode cX0_paint 70 = .ok (.ireturn, 1) := by decide +kernel
theorem dX0_paint_71 : decode cX0_paint 71 = .ok (.iinc 5 1, 3) := by decide +kernel
theorem dX0_paint_74 : decode cX0_paint 74 = .ok (.goto (-55), 3) := by decide +kernel
theorem dX0_paint_77 : decode cX0_paint 77 = .ok (.iconst 0, 1) := by decide +kernel
theorem dX0_paint_78 : decode cX0_paint 78 = .ok (.ireturn, 1) := by decide +kernel
theorem dX0_isFree_0 : decode cX0_isFree 0 = .ok (.iconst 0, 1) := by decide +kernel
theorem dX0_isFree_1 : decode cX0_isFree 1 = .ok (.istore 4, 2) := by decide +kernel
theorem dX0_isFree_3 : decode cX0_isFree 3 = .ok (.iload 4, 2) := by decide +kernel
theorem dX0_isFree_5 : decode cX0_isFree 5 = .ok (.iload_n 2, 1) := by decide +kernel
theorem dX0_isFree_6 : decode cX0_isFree 6 = .ok (.if_icmp .ge 33, 3) := by decide +kernel
theorem dX0_isFree_9 : decode cX0_isFree 9 = .ok (.aload_n 1, 1) := by decide +kernel
theorem dX0_isFree_10 : decode cX0_isFree 10 = .ok (.iload 4, 2) := by decide +kernel
theorem dX0_isFree_12 : decode cX0_isFree 12 = .ok (.iaload, 1) := by decide +kernel
theorem dX0_isFree_13 : decode cX0_isFree 13 = .ok (.iload_n 3, 1) := by decide +kernel
theorem dX0_isFree_14 : decode cX0_isFree 14 = .ok (.if_icmp .ne 19, 3) := by decide +kernel
theorem dX0_isFree_17 : decode cX0_isFree 17 = .ok (.aload_n 0, 1) := by decide +kernel
theorem dX0_isFree_18 : decode cX0_isFree 18 = .ok (.getfield 35, 3) := by decide +kernel
theorem dX0_isFree_21 : decode cX0_isFree 21 = .ok (.iload_n 2, 1) := by decide +kernel
theorem dX0_isFree_22 : decode cX0_isFree 22 = .ok (.iaload, 1) := by decide +kernel
theorem dX0_isFree_23 : decode cX0_isFree 23 = .ok (.iload 4, 2) := by decide +kernel
theorem dX0_isFree_25 : decode cX0_isFree 25 = .ok (.ishr, 1) := by decide +kernel
theorem dX0_isFree_26 : decode cX0_isFree 26 = .ok (.iconst 1, 1) := by decide +kernel
theorem dX0_isFree_27 : decode cX0_isFree 27 = .ok (.iand, 1) := by decide +kernel
theorem dX0_isFree_28 : decode cX0_isFree 28 = .ok (.ifCond .eq 5, 3) := by decide +kernel
theorem dX0_isFree_31 : decode cX0_isFree 31 = .ok (.iconst 0, 1) := by decide +kernel
theorem dX0_isFree_32 : decode cX0_isFree 32 = .ok (.ireturn, 1) := by decide +kernel
theorem dX0_isFree_33 : decode cX0_isFree 33 = .ok (.iinc 4 1, 3) := by decide +kernel
theorem dX0_isFree_36 : decode cX0_isFree 36 = .ok (.goto (-33), 3) := by decide +kernel
theorem dX0_isFree_39 : decode cX0_isFree 39 = .ok (.iconst 1, 1) := by decide +kernel
theorem dX0_isFree_40 : decode cX0_isFree 40 = .ok (.ireturn, 1) := by decide +kernel
theorem dX1_init_0 : decode cX1_init 0 = .ok (.aload_n 0, 1) := by decide +kernel
theorem dX1_init_1 : decode cX1_init 1 = .ok (.invokespecial 3, 3) := by decide +kernel
theorem dX1_init_4 : decode cX1_init 4 = .ok (.aload_n 0, 1) := by decide +kernel
theorem dX1_init_5 : decode cX1_init 5 = .ok (.iconst 0, 1) := by decide +kernel
theorem dX1_init_6 : decode cX1_init 6 = .ok (.putfield 9, 3) := by decide +kernel
theorem dX1_init_9 : decode cX1_init 9 = .ok (.aload_n 0, 1) := by decide +kernel
theorem dX1_init_10 : decode cX1_init 10 = .ok (.iconst 0, 1) := by decide +kernel
theorem dX1_init_11 : decode cX1_init 11 = .ok (.putfield 15, 3) := by decide +kernel
theorem dX1_init_14 : decode cX1_init 14 = .ok (.aload_n 0, 1) := by decide +kernel
theorem dX1_init_15 : decode cX1_init 15 = .ok (.iconst 0, 1) := by decide +kernel
theorem dX1_init_16 : decode cX1_init 16 = .ok (.putfield 18, 3) := by decide +kernel
theorem dX1_init_19 : decode cX1_init 19 = .ok (.aload_n 0, 1) := by decide +kernel
theorem dX1_init_20 : decode cX1_init 20 = .ok (.bipush 20, 2) := by decide +kernel
theorem dX1_init_22 : decode cX1_init 22 = .ok (.newarray .int, 2) := by decide +kernel
theorem dX1_init_24 : decode cX1_init 24 = .ok (.putfield 21, 3) := by decide +kernel
theorem dX1_init_27 : decode cX1_init 27 = .ok (.aload_n 0, 1) := by decide +kernel
theorem dX1_init_28 : decode cX1_init 28 = .ok (.bipush 6, 2) := by decide +kernel
theorem dX1_init_30 : decode cX1_init 30 = .ok (.newarray .int, 2) := by decide +kernel
theorem dX1_init_32 : decode cX1_init 32 = .ok (.putfield 25, 3) := by decide +kernel
theorem dX1_init_35 : decode cX1_init 35 = .ok (.aload_n 0, 1) := by decide +kernel
theorem dX1_init_36 : decode cX1_init 36 = .ok (.bipush 60, 2) := by decide +kernel
theorem dX1_init_38 : decode cX1_init 38 = .ok (.newarray .int, 2) := by decide +kernel
theorem dX1_init_40 : decode cX1_init 40 = .ok (.putfield 28, 3) := by decide +kernel
theorem dX1_init_43 : decode cX1_init 43 = .ok (.return_, 1) := by decide +kernel
theorem dX1_become_0 : decode cX1_become 0 = .ok (.aload_n 0, 1) := by decide +kernel
theorem dX1_become_1 : decode cX1_become 1 = .ok (.aload_n 1, 1) := by decide +kernel
theorem dX1_become_2 : decode cX1_become 2 = .ok (.getfield 9, 3) := by decide +kernel
theorem dX1_become_5 : decode cX1_become 5 = .ok (.putfield 9, 3) := by decide +kernel
theorem dX1_become_8 : decode cX1_become 8 = .ok (.aload_n 0, 1) := by decide +kernel
theorem dX1_become_9 : decode cX1_become 9 = .ok (.aload_n 1, 1) := by decide +kernel
theorem dX1_become_10 : decode cX1_become 10 = .ok (.getfield 15, 3) := by decide +kernel
theorem dX1_become_13 : decode cX1_become 13 = .ok (.putfield 15, 3) := by decide +kernel
theorem dX1_become_16 : decode cX1_become 16 = .ok (.aload_n 0, 1) := by decide +kernel
theorem dX1_become_17 : decode cX1_become 17 = .ok (.aload_n 1, 1) := by decide +kernel
theorem dX1_become_18 : decode cX1_become 18 = .ok (.getfield 18, 3) := by decide +kernel
theorem dX1_become_21 : decode cX1_become 21 = .ok (.putfield 18, 3) := by decide +kernel
theorem dX1_become_24 : decode cX1_become 24 = .ok (.aload_n 1, 1) := by decide +kernel
theorem dX1_become_25 : decode cX1_become 25 = .ok (.getfield 21, 3) := by decide +kernel
theorem dX1_become_28 : decode cX1_become 28 = .ok (.iconst 0, 1) := by decide +kernel
theorem dX1_become_29 : decode cX1_become 29 = .ok (.aload_n 0, 1) := by decide +kernel
theorem dX1_become_30 : decode cX1_become 30 = .ok (.getfield 21, 3) := by decide +kernel
theorem dX1_become_33 : decode cX1_become 33 = .ok (.iconst 0, 1) := by decide +kernel
theorem dX1_become_34 : decode cX1_become 34 = .ok (.aload_n 0, 1) := by decide +kernel
theorem dX1_become_35 : decode cX1_become 35 = .ok (.getfield 21, 3) := by decide +kernel
theorem dX1_become_38 : decode cX1_become 38 = .ok (.arraylength, 1) := by decide +kernel
theorem dX1_become_39 : decode cX1_become 39 = .ok (.invokestatic 31, 3) := by decide +kernel
theorem dX1_become_42 : decode cX1_become 42 = .ok (.aload_n 1, 1) := by decide +kernel
theorem dX1_become_43 : decode cX1_become 43 = .ok (.getfield 25, 3) := by decide +kernel
theorem dX1_become_46 : decode cX1_become 46 = .ok (.iconst 0, 1) := by decide +kernel
theorem dX1_become_47 : decode cX1_become 47 = .ok (.aload_n 0, 1) := by decide +kernel
theorem dX1_become_48 : decode cX1_become 48 = .ok (.getfield 25, 3) := by decide +kernel
theorem dX1_become_51 : decode cX1_become 51 = .ok (.iconst 0, 1) := by decide +kernel
theorem dX1_become_52 : decode cX1_become 52 = .ok (.aload_n 0, 1) := by decide +kernel
theorem dX1_become_53 : decode cX1_become 53 = .ok (.getfield 25, 3) := by decide +kernel
theorem dX1_become_56 : decode cX1_become 56 = .ok (.arraylength, 1) := by decide +kernel
theorem dX1_become_57 : decode cX1_become 57 = .ok (.invokestatic 31, 3) := by decide +kernel
theorem dX1_become_60 : decode cX1_become 60 = .ok (.aload_n 1, 1) := by decide +kernel
theorem dX1_become_61 : decode cX1_become 61 = .ok (.getfield 28, 3) := by decide +kernel
theorem dX1_become_64 : decode cX1_become 64 = .ok (.iconst 0, 1) := by decide +kernel
theorem dX1_become_65 : decode cX1_become 65 = .ok (.aload_n 0, 1) := by decide +kernel
theorem dX1_become_66 : decode cX1_become 66 = .ok (.getfield 28, 3) := by decide +kernel
theorem dX1_become_69 : decode cX1_become 69 = .ok (.iconst 0, 1) := by decide +kernel
theorem dX1_become_70 : decode cX1_become 70 = .ok (.aload_n 0, 1) := by decide +kernel
theorem dX1_become_71 : decode cX1_become 71 = .ok (.getfield 28, 3) := by decide +kernel
theorem dX1_become_74 : decode cX1_become 74 = .ok (.arraylength, 1) := by decide +kernel
theorem dX1_become_75 : decode cX1_become 75 = .ok (.invokestatic 31, 3) := by decide +kernel
theorem dX1_become_78 : decode cX1_become 78 = .ok (.return_, 1) := by decide +kernel
theorem dX1_hasPost_0 : decode cX1_hasPost 0 = .ok (.iload_n 1, 1) := by decide +kernel
theorem dX1_hasPost_1 : decode cX1_hasPost 1 = .ok (.ifCond .lt 15, 3) := by decide +kernel
theorem dX1_hasPost_4 : decode cX1_hasPost 4 = .ok (.iload_n 1, 1) := by decide +kernel
theorem dX1_hasPost_5 : decode cX1_hasPost 5 = .ok (.aload_n 0, 1) := by decide +kernel
theorem dX1_hasPost_6 : decode cX1_hasPost 6 = .ok (.getfield 9, 3) := by decide +kernel
theorem dX1_hasPost_9 : decode cX1_hasPost 9 = .ok (.if_icmp .ge 7, 3) := by decide +kernel
theorem dX1_hasPost_12 : decode cX1_hasPost 12 = .ok (.iconst 1, 1) := by decide +kernel
theorem dX1_hasPost_13 : decode cX1_hasPost 13 = .ok (.goto 4, 3) := by decide +kernel
theorem dX1_hasPost_16 : decode cX1_hasPost 16 = .ok (.iconst 0, 1) := by decide +kernel
theorem dX1_hasPost_17 : decode cX1_hasPost 17 = .ok (.ireturn, 1) := by decide +kernel
theorem dX1_hasLine_0 : decode cX1_hasLine 0 = .ok (.iload_n 1, 1) := by decide +kernel
theorem dX1_hasLine_1 : decode cX1_hasLine 1 = .ok (.ifCond .lt 15, 3) := by decide +kernel
theorem dX1_hasLine_4 : decode cX1_hasLine 4 = .ok (.iload_n 1, 1) := by decide +kernel
theorem dX1_hasLine_5 : decode cX1_hasLine 5 = .ok (.aload_n 0, 1) := by decide +kernel
theorem dX1_hasLine_6 : decode cX1_hasLine 6 = .ok (.getfield 15, 3) := by decide +kernel
theorem dX1_hasLine_9 : decode cX1_hasLine 9 = .ok (.if_icmp .ge 7, 3) := by decide +kernel
theorem dX1_hasLine_12 : decode cX1_hasLine 12 = .ok (.iconst 1, 1) := by decide +kernel
theorem dX1_hasLine_13 : decode cX1_hasLine 13 = .ok (.goto 4, 3) := by decide +kernel
theorem dX1_hasLine_16 : decode cX1_hasLine 16 = .ok (.iconst 0, 1) := by decide +kernel
theorem dX1_hasLine_17 : decode cX1_hasLine 17 = .ok (.ireturn, 1) := by decide +kernel
theorem dX1_hasCorner_0 : decode cX1_hasCorner 0 = .ok (.aload_n 0, 1) := by decide +kernel
theorem dX1_hasCorner_1 : decode cX1_hasCorner 1 = .ok (.iload_n 1, 1) := by decide +kernel
theorem dX1_hasCorner_2 : decode cX1_hasCorner 2 = .ok (.invokevirtual 37, 3) := by decide +kernel
theorem dX1_hasCorner_5 : decode cX1_hasCorner 5 = .ok (.ifCond .eq 25, 3) := by decide +kernel
theorem dX1_hasCorner_8 : decode cX1_hasCorner 8 = .ok (.iload_n 2, 1) := by decide +kernel
theorem dX1_hasCorner_9 : decode cX1_hasCorner 9 = .ok (.ifCond .lt 21, 3) := by decide +kernel
theorem dX1_hasCorner_12 : decode cX1_hasCorner 12 = .ok (.iload_n 2, 1) := by decide +kernel
theorem dX1_hasCorner_13 : decode cX1_hasCorner 13 = .ok (.iconst 1, 1) := by decide +kernel
theorem dX1_hasCorner_14 : decode cX1_hasCorner 14 = .ok (.aload_n 0, 1) := by decide +kernel
theorem dX1_hasCorner_15 : decode cX1_hasCorner 15 = .ok (.getfield 25, 3) := by decide +kernel
theorem dX1_hasCorner_18 : decode cX1_hasCorner 18 = .ok (.iload_n 1, 1) := by decide +kernel
theorem dX1_hasCorner_19 : decode cX1_hasCorner 19 = .ok (.iaload, 1) := by decide +kernel
theorem dX1_hasCorner_20 : decode cX1_hasCorner 20 = .ok (.invokestatic 41, 3) := by decide +kernel
theorem dX1_hasCorner_23 : decode cX1_hasCorner 23 = .ok (.if_icmp .ge 7, 3) := by decide +kernel
theorem dX1_hasCorner_26 : decode cX1_hasCorner 26 = .ok (.iconst 1, 1) := by decide +kernel
theorem dX1_hasCorner_27 : decode cX1_hasCorner 27 = .ok (.goto 4, 3) := by decide +kernel
theorem dX1_hasCorner_30 : decode cX1_hasCorner 30 = .ok (.iconst 0, 1) := by decide +kernel
theorem dX1_hasCorner_31 : decode cX1_hasCorner 31 = .ok (.ireturn, 1) := by decide +kernel
theorem dX1_isTwisted_0 : decode cX1_isTwisted 0 = .ok (.aload_n 0, 1) := by decide +kernel
theorem dX1_isTwisted_1 : decode cX1_isTwisted 1 = .ok (.getfield 18, 3) := by decide +kernel
theorem dX1_isTwisted_4 : decode cX1_isTwisted 4 = .ok (.iload_n 1, 1) := by decide +kernel
theorem dX1_isTwisted_5 : decode cX1_isTwisted 5 = .ok (.ishr, 1) := by decide +kernel
theorem dX1_isTwisted_6 : decode cX1_isTwisted 6 = .ok (.iconst 1, 1) := by decide +kernel
theorem dX1_isTwisted_7 : decode cX1_isTwisted 7 = .ok (.iand, 1) := by decide +kernel
theorem dX1_isTwisted_8 : decode cX1_isTwisted 8 = .ok (.ifCond .eq 7, 3) := by decide +kernel
theorem dX1_isTwisted_11 : decode cX1_isTwisted 11 = .ok (.iconst 1, 1) := by decide +kernel
theorem dX1_isTwisted_12 : decode cX1_isTwisted 12 = .ok (.goto 4, 3) := by decide +kernel
theorem dX1_isTwisted_15 : decode cX1_isTwisted 15 = .ok (.iconst 0, 1) := by decide +kernel
theorem dX1_isTwisted_16 : decode cX1_isTwisted 16 = .ok (.ireturn, 1) := by decide +kernel
theorem dX1_isLineOf_0 : decode cX1_isLineOf 0 = .ok (.aload_n 0, 1) := by decide +kernel
theorem dX1_isLineOf_1 : decode cX1_isLineOf 1 = .ok (.getfield 21, 3) := by decide +kernel
theorem dX1_isLineOf_4 : decode cX1_isLineOf 4 = .ok (.iconst 2, 1) := by decide +kernel
theorem dX1_isLineOf_5 : decode cX1_isLineOf 5 = .ok (.iload_n 1, 1) := by decide +kernel
theorem dX1_isLineOf_6 : decode cX1_isLineOf 6 = .ok (.imul, 1) := by decide +kernel
theorem dX1_isLineOf_7 : decode cX1_isLineOf 7 = .ok (.iaload, 1) := by decide +kernel
theorem dX1_isLineOf_8 : decode cX1_isLineOf 8 = .ok (.iload_n 2, 1) := by decide +kernel
theorem dX1_isLineOf_9 : decode cX1_isLineOf 9 = .ok (.if_icmp .eq 17, 3) := by decide +kernel
theorem dX1_isLineOf_12 : decode cX1_isLineOf 12 = .ok (.aload_n 0, 1) := by decide +kernel
theorem dX1_isLineOf_13 : decode cX1_isLineOf 13 = .ok (.getfield 21, 3) := by decide +kernel
theorem dX1_isLineOf_16 : decode cX1_isLineOf 16 = .ok (.iconst 2, 1) := by decide +kernel
theorem dX1_isLineOf_17 : decode cX1_isLineOf 17 = .ok (.iload_n 1, 1) := by decide +kernel
theorem dX1_isLineOf_18 : decode cX1_isLineOf 18 = .ok (.imul, 1) := by decide +kernel
theorem dX1_isLineOf_19 : decode cX1_isLineOf 19 = .ok (.iconst 1, 1) := by decide +kernel
theorem dX1_isLineOf_20 : decode cX1_isLineOf 20 = .ok (.iadd, 1) := by decide +kernel
theorem dX1_isLineOf_21 : decode cX1_isLineOf 21 = .ok (.iaload, 1) := by decide +kernel
theorem dX1_isLineOf_22 : decode cX1_isLineOf 22 = .ok (.iload_n 2, 1) := by decide +kernel
theorem dX1_isLineOf_23 : decode cX1_isLineOf 23 = .ok (.if_icmp .ne 7, 3) := by decide +kernel
theorem dX1_isLineOf_26 : decode cX1_isLineOf 26 = .ok (.iconst 1, 1) := by decide +kernel
theorem dX1_isLineOf_27 : decode cX1_isLineOf 27 = .ok (.goto 4, 3) := by decide +kernel
theorem dX1_isLineOf_30 : decode cX1_isLineOf 30 = .ok (.iconst 0, 1) := by decide +kernel
theorem dX1_isLineOf_31 : decode cX1_isLineOf 31 = .ok (.ireturn, 1) := by decide +kernel
theorem dX1_lineAt_0 : decode cX1_lineAt 0 = .ok (.aload_n 0, 1) := by decide +kernel
theorem dX1_lineAt_1 : decode cX1_lineAt 1 = .ok (.getfield 28, 3) := by decide +kernel
theorem dX1_lineAt_4 : decode cX1_lineAt 4 = .ok (.iload_n 1, 1) := by decide +kernel
theorem dX1_lineAt_5 : decode cX1_lineAt 5 = .ok (.bipush 10, 2) := by decide +kernel
theorem dX1_lineAt_7 : decode cX1_lineAt 7 = .ok (.imul, 1) := by decide +kernel
theorem dX1_lineAt_8 : decode cX1_lineAt 8 = .ok (.iload_n 2, 1) := by decide +kernel
theorem dX1_lineAt_9 : decode cX1_lineAt 9 = .ok (.iadd, 1) := by decide +kernel
theorem dX1_lineAt_10 : decode cX1_lineAt 10 = .ok (.iaload, 1) := by decide +kernel
theorem dX1_lineAt_11 : decode cX1_lineAt 11 = .ok (.ireturn, 1) := by decide +kernel
theorem dX1_armAt_0 : decode cX1_armAt 0 = .ok (.iconst 2, 1) := by decide +kernel
theorem dX1_armAt_1 : decode cX1_armAt 1 = .ok (.aload_n 0, 1) := by decide +kernel
theorem dX1_armAt_2 : decode cX1_armAt 2 = .ok (.getfield 28, 3) := by decide +kernel
theorem dX1_armAt_5 : decode cX1_armAt 5 = .ok (.iload_n 1, 1) := by decide +kernel
theorem dX1_armAt_6 : decode cX1_armAt 6 = .ok (.bipush 10, 2) := by decide +kernel
theorem dX1_armAt_8 : decode cX1_armAt 8 = .ok (.imul, 1) := by decide +kernel
theorem dX1_armAt_9 : decode cX1_armAt 9 = .ok (.iload_n 2, 1) := by decide +kernel
theorem dX1_armAt_10 : decode cX1_armAt 10 = .ok (.iadd, 1) := by decide +kernel
theorem dX1_armAt_11 : decode cX1_armAt 11 = .ok (.iaload, 1) := by decide +kernel
theorem dX1_armAt_12 : decode cX1_armAt 12 = .ok (.imul, 1) := by decide +kernel
theorem dX1_armAt_13 : decode cX1_armAt 13 = .ok (.istore_n 3, 1) := by decide +kernel
theorem dX1_armAt_14 : decode cX1_armAt 14 = .ok (.aload_n 0, 1) := by decide +kernel
theorem dX1_armAt_15 : decode cX1_armAt 15 = .ok (.getfield 21, 3) := by decide +kernel
theorem dX1_armAt_18 : decode cX1_armAt 18 = .ok (.iload_n 3, 1) := by decide +kernel
theorem dX1_armAt_19 : decode cX1_armAt 19 = .ok (.iaload, 1) := by decide +kernel
theorem dX1_armAt_20 : decode cX1_armAt 20 = .ok (.iload_n 1, 1) := by decide +kernel
theorem dX1_armAt_21 : decode cX1_armAt 21 = .ok (.if_icmp .ne 7, 3) := by decide +kernel
theorem dX1_armAt_24 : decode cX1_armAt 24 = .ok (.iload_n 3, 1) := by decide +kernel
theorem dX1_armAt_25 : decode cX1_armAt 25 = .ok (.goto 6, 3) := by decide +kernel
theorem dX1_armAt_28 : decode cX1_armAt 28 = .ok (.iload_n 3, 1) := by decide +kernel
theorem dX1_armAt_29 : decode cX1_armAt 29 = .ok (.iconst 1, 1) := by decide +kernel
theorem dX1_armAt_30 : decode cX1_armAt 30 = .ok (.iadd, 1) := by decide +kernel
theorem dX1_armAt_31 : decode cX1_armAt 31 = .ok (.ireturn, 1) := by decide +kernel
theorem dX1_hasTwin_0 : decode cX1_hasTwin 0 = .ok (.iconst 0, 1) := by decide +kernel
theorem dX1_hasTwin_1 : decode cX1_hasTwin 1 = .ok (.istore_n 2, 1) := by decide +kernel
theorem dX1_hasTwin_2 : decode cX1_hasTwin 2 = .ok (.iload_n 2, 1) := by decide +kernel
theorem dX1_hasTwin_3 : decode cX1_hasTwin 3 = .ok (.aload_n 0, 1) := by decide +kernel
theorem dX1_hasTwin_4 : decode cX1_hasTwin 4 = .ok (.getfield 15, 3) := by decide +kernel
theorem dX1_hasTwin_7 : decode cX1_hasTwin 7 = .ok (.if_icmp .ge 50, 3) := by decide +kernel
theorem dX1_hasTwin_10 : decode cX1_hasTwin 10 = .ok (.iload_n 2, 1) := by decide +kernel
theorem dX1_hasTwin_11 : decode cX1_hasTwin 11 = .ok (.iload_n 1, 1) := by decide +kernel
theorem dX1_hasTwin_12 : decode cX1_hasTwin 12 = .ok (.if_icmp .eq 39, 3) := by decide +kernel
theorem dX1_hasTwin_15 : decode cX1_hasTwin 15 = .ok (.aload_n 0, 1) := by decide +kernel
theorem dX1_hasTwin_16 : decode cX1_hasTwin 16 = .ok (.iload_n 2, 1) := by decide +kernel
theorem dX1_hasTwin_17 : decode cX1_hasTwin 17 = .ok (.aload_n 0, 1) := by decide +kernel
theorem dX1_hasTwin_18 : decode cX1_hasTwin 18 = .ok (.getfield 21, 3) := by decide +kernel
theorem dX1_hasTwin_21 : decode cX1_hasTwin 21 = .ok (.iconst 2, 1) := by decide +kernel
theorem dX1_hasTwin_22 : decode cX1_hasTwin 22 = .ok (.iload_n 1, 1) := by decide +kernel
theorem dX1_hasTwin_23 : decode cX1_hasTwin 23 = .ok (.imul, 1) := by decide +kernel
theorem dX1_hasTwin_24 : decode cX1_hasTwin 24 = .ok (.iaload, 1) := by decide +kernel
theorem dX1_hasTwin_25 : decode cX1_hasTwin 25 = .ok (.invokevirtual 47, 3) := by decide +kernel
theorem dX1_hasTwin_28 : decode cX1_hasTwin 28 = .ok (.ifCond .eq 23, 3) := by decide +kernel
theorem dX1_hasTwin_31 : decode cX1_hasTwin 31 = .ok (.aload_n 0, 1) := by decide +kernel
theorem dX1_hasTwin_32 : decode cX1_hasTwin 32 = .ok (.iload_n 2, 1) := by decide +kernel
theorem dX1_hasTwin_33 : decode cX1_hasTwin 33 = .ok (.aload_n 0, 1) := by decide +kernel
theorem dX1_hasTwin_34 : decode cX1_hasTwin 34 = .ok (.getfield 21, 3) := by decide +kernel
theorem dX1_hasTwin_37 : decode cX1_hasTwin 37 = .ok (.iconst 2, 1) := by decide +kernel
theorem dX1_hasTwin_38 : decode cX1_hasTwin 38 = .ok (.iload_n 1, 1) := by decide +kernel
theorem dX1_hasTwin_39 : decode cX1_hasTwin 39 = .ok (.imul, 1) := by decide +kernel
theorem dX1_hasTwin_40 : decode cX1_hasTwin 40 = .ok (.iconst 1, 1) := by decide +kernel
theorem dX1_hasTwin_41 : decode cX1_hasTwin 41 = .ok (.iadd, 1) := by decide +kernel
theorem dX1_hasTwin_42 : decode cX1_hasTwin 42 = .ok (.iaload, 1) := by decide +kernel
theorem dX1_hasTwin_43 : decode cX1_hasTwin 43 = .ok (.invokevirtual 47, 3) := by decide +kernel
theorem dX1_hasTwin_46 : decode cX1_hasTwin 46 = .ok (.ifCond .eq 5, 3) := by decide +kernel
theorem dX1_hasTwin_49 : decode cX1_hasTwin 49 = .ok (.iconst 1, 1) := by decide +kernel
theorem dX1_hasTwin_50 : decode cX1_hasTwin 50 = .ok (.ireturn, 1) := by decide +kernel
theorem dX1_hasTwin_51 : decode cX1_hasTwin 51 = .ok (.iinc 2 1, 3) := by decide +kernel
theorem dX1_hasTwin_54 : decode cX1_hasTwin 54 = .ok (.goto (-52), 3) := by decide +kernel
theorem dX1_hasTwin_57 : decode cX1_hasTwin 57 = .ok (.iconst 0, 1) := by decide +kernel
theorem dX1_hasTwin_58 : decode cX1_hasTwin 58 = .ok (.ireturn, 1) := by decide +kernel
theorem dX1_barePosts_0 : decode cX1_barePosts 0 = .ok (.iconst 0, 1) := by decide +kernel
theorem dX1_barePosts_1 : decode cX1_barePosts 1 = .ok (.istore_n 1, 1) := by decide +kernel
theorem dX1_barePosts_2 : decode cX1_barePosts 2 = .ok (.iconst 0, 1) := by decide +kernel
theorem dX1_barePosts_3 : decode cX1_barePosts 3 = .ok (.istore_n 2, 1) := by decide +kernel
theorem dX1_barePosts_4 : decode cX1_barePosts 4 = .ok (.iload_n 2, 1) := by decide +kernel
theorem dX1_barePosts_5 : decode cX1_barePosts 5 = .ok (.aload_n 0, 1) := by decide +kernel
theorem dX1_barePosts_6 : decode cX1_barePosts 6 = .ok (.getfield 9, 3) := by decide +kernel
theorem dX1_barePosts_9 : decode cX1_barePosts 9 = .ok (.if_icmp .ge 21, 3) := by decide +kernel
theorem dX1_barePosts_12 : decode cX1_barePosts 12 = .ok (.aload_n 0, 1) := by decide +kernel
theorem dX1_barePosts_13 : decode cX1_barePosts 13 = .ok (.getfield 25, 3) := by decide +kernel
theorem dX1_barePosts_16 : decode cX1_barePosts 16 = .ok (.iload_n 2, 1) := by decide +kernel
theorem dX1_barePosts_17 : decode cX1_barePosts 17 = .ok (.iaload, 1) := by decide +kernel
theorem dX1_barePosts_18 : decode cX1_barePosts 18 = .ok (.ifCond .ne 6, 3) := by decide +kernel
theorem dX1_barePosts_21 : decode cX1_barePosts 21 = .ok (.iinc 1 1, 3) := by decide +kernel
theorem dX1_barePosts_24 : decode cX1_barePosts 24 = .ok (.iinc 2 1, 3) := by decide +kernel
theorem dX1_barePosts_27 : decode cX1_barePosts 27 = .ok (.goto (-23), 3) := by decide +kernel
theorem dX1_barePosts_30 : decode cX1_barePosts 30 = .ok (.iload_n 1, 1) := by decide +kernel
theorem dX1_barePosts_31 : decode cX1_barePosts 31 = .ok (.ireturn, 1) := by decide +kernel
theorem dX1_addLine_0 : decode cX1_addLine 0 = .ok (.aload_n 0, 1) := by decide +kernel
theorem dX1_addLine_1 : decode cX1_addLine 1 = .ok (.getfield 15, 3) := by decide +kernel
theorem dX1_addLine_4 : decode cX1_addLine 4 = .ok (.istore 6, 2) := by decide +kernel
theorem dX1_addLine_6 : decode cX1_addLine 6 = .ok (.aload_n 0, 1) := by decide +kernel
theorem dX1_addLine_7 : decode cX1_addLine 7 = .ok (.dup, 1) := by decide +kernel
theorem dX1_addLine_8 : decode cX1_addLine 8 = .ok (.getfield 15, 3) := by decide +kernel
theorem dX1_addLine_11 : decode cX1_addLine 11 = .ok (.iconst 1, 1) := by decide +kernel
theorem dX1_addLine_12 : decode cX1_addLine 12 = .ok (.iadd, 1) := by decide +kernel
theorem dX1_addLine_13 : decode cX1_addLine 13 = .ok (.putfield 15, 3) := by decide +kernel
theorem dX1_addLine_16 : decode cX1_addLine 16 = .ok (.aload_n 0, 1) := by decide +kernel
theorem dX1_addLine_17 : decode cX1_addLine 17 = .ok (.getfield 21, 3) := by decide +kernel
theorem dX1_addLine_20 : decode cX1_addLine 20 = .ok (.iconst 2, 1) := by decide +kernel
theorem dX1_addLine_21 : decode cX1_addLine 21 = .ok (.iload 6, 2) := by decide +kernel
theorem dX1_addLine_23 : decode cX1_addLine 23 = .ok (.imul, 1) := by decide +kernel
theorem dX1_addLine_24 : decode cX1_addLine 24 = .ok (.iload_n 1, 1) := by decide +kernel
theorem dX1_addLine_25 : decode cX1_addLine 25 = .ok (.iastore, 1) := by decide +kernel
theorem dX1_addLine_26 : decode cX1_addLine 26 = .ok (.aload_n 0, 1) := by decide +kernel
theorem dX1_addLine_27 : decode cX1_addLine 27 = .ok (.getfield 21, 3) := by decide +kernel
theorem dX1_addLine_30 : decode cX1_addLine 30 = .ok (.iconst 2, 1) := by decide +kernel
theorem dX1_addLine_31 : decode cX1_addLine 31 = .ok (.iload 6, 2) := by decide +kernel
theorem dX1_addLine_33 : decode cX1_addLine 33 = .ok (.imul, 1) := by decide +kernel
theorem dX1_addLine_34 : decode cX1_addLine 34 = .ok (.iconst 1, 1) := by decide +kernel
theorem dX1_addLine_35 : decode cX1_addLine 35 = .ok (.iadd, 1) := by decide +kernel
theorem dX1_addLine_36 : decode cX1_addLine 36 = .ok (.iload_n 3, 1) := by decide +kernel
theorem dX1_addLine_37 : decode cX1_addLine 37 = .ok (.iastore, 1) := by decide +kernel
theorem dX1_addLine_38 : decode cX1_addLine 38 = .ok (.iload 5, 2) := by decide +kernel
theorem dX1_addLine_40 : decode cX1_addLine 40 = .ok (.ifCond .eq 16, 3) := by decide +kernel
theorem dX1_addLine_43 : decode cX1_addLine 43 = .ok (.aload_n 0, 1) := by decide +kernel
theorem dX1_addLine_44 : decode cX1_addLine 44 = .ok (.dup, 1) := by decide +kernel
theorem dX1_addLine_45 : decode cX1_addLine 45 = .ok (.getfield 18, 3) := by decide +kernel
theorem dX1_addLine_48 : decode cX1_addLine 48 = .ok (.iconst 1, 1) := by decide +kernel
theorem dX1_addLine_49 : decode cX1_addLine 49 = .ok (.iload 6, 2) := by decide +kernel
theorem dX1_addLine_51 : decode cX1_addLine 51 = .ok (.ishl, 1) := by decide +kernel
theorem dX1_addLine_52 : decode cX1_addLine 52 = .ok (.ior, 1) := by decide +kernel
theorem dX1_addLine_53 : decode cX1_addLine 53 = .ok (.putfield 18, 3) := by decide +kernel
theorem dX1_addLine_56 : decode cX1_addLine 56 = .ok (.aload_n 0, 1) := by decide +kernel
theorem dX1_addLine_57 : decode cX1_addLine 57 = .ok (.iload_n 1, 1) := by decide +kernel
theorem dX1_addLine_58 : decode cX1_addLine 58 = .ok (.iload_n 2, 1) := by decide +kernel
theorem dX1_addLine_59 : decode cX1_addLine 59 = .ok (.iconst 1, 1) := by decide +kernel
theorem dX1_addLine_60 : decode cX1_addLine 60 = .ok (.iadd, 1) := by decide +kernel
theorem dX1_addLine_61 : decode cX1_addLine 61 = .ok (.aload_n 0, 1) := by decide +kernel
theorem dX1_addLine_62 : decode cX1_addLine 62 = .ok (.getfield 25, 3) := by decide +kernel
theorem dX1_addLine_65 : decode cX1_addLine 65 = .ok (.iload_n 1, 1) := by decide +kernel
theorem dX1_addLine_66 : decode cX1_addLine 66 = .ok (.iaload, 1) := by decide +kernel
theorem dX1_addLine_67 : decode cX1_addLine 67 = .ok (.invokestatic 51, 3) := by decide +kernel
theorem dX1_addLine_70 : decode cX1_addLine 70 = .ok (.iload 6, 2) := by decide +kernel
theorem dX1_addLine_72 : decode cX1_addLine 72 = .ok (.invokevirtual 54, 3) := by decide +kernel
theorem dX1_addLine_75 : decode cX1_addLine 75 = .ok (.aload_n 0, 1) := by decide +kernel
theorem dX1_addLine_76 : decode cX1_addLine 76 = .ok (.iload_n 3, 1) := by decide +kernel
theorem dX1_addLine_77 : decode cX1_addLine 77 = .ok (.iload 4, 2) := by decide +kernel
theorem dX1_addLine_79 : decode cX1_addLine 79 = .ok (.iconst 1, 1) := by decide +kernel
theorem dX1_addLine_80 : decode cX1_addLine 80 = .ok (.iadd, 1) := by decide +kernel
theorem dX1_addLine_81 : decode cX1_addLine 81 = .ok (.aload_n 0, 1) := by decide +kernel
theorem dX1_addLine_82 : decode cX1_addLine 82 = .ok (.getfield 25, 3) := by decide +kernel
theorem dX1_addLine_85 : decode cX1_addLine 85 = .ok (.iload_n 3, 1) := by decide +kernel
theorem dX1_addLine_86 : decode cX1_addLine 86 = .ok (.iaload, 1) := by decide +kernel
theorem dX1_addLine_87 : decode cX1_addLine 87 = .ok (.invokestatic 51, 3) := by decide +kernel
theorem dX1_addLine_90 : decode cX1_addLine 90 = .ok (.iload 6, 2) := by decide +kernel
theorem dX1_addLine_92 : decode cX1_addLine 92 = .ok (.invokevirtual 54, 3) := by decide +kernel
theorem dX1_addLine_95 : decode cX1_addLine 95 = .ok (.iload 6, 2) := by decide +kernel
theorem dX1_addLine_97 : decode cX1_addLine 97 = .ok (.ireturn, 1) := by decide +kernel
theorem dX1_dropLine_0 : decode cX1_dropLine 0 = .ok (.aload_n 0, 1) := by decide +kernel
theorem dX1_dropLine_1 : decode cX1_dropLine 1 = .ok (.aload_n 0, 1) := by decide +kernel
theorem dX1_dropLine_2 : decode cX1_dropLine 2 = .ok (.getfield 21, 3) := by decide +kernel
theorem dX1_dropLine_5 : decode cX1_dropLine 5 = .ok (.iconst 2, 1) := by decide +kernel
theorem dX1_dropLine_6 : decode cX1_dropLine 6 = .ok (.iload_n 1, 1) := by decide +kernel
theorem dX1_dropLine_7 : decode cX1_dropLine 7 = .ok (.imul, 1) := by decide +kernel
theorem dX1_dropLine_8 : decode cX1_dropLine 8 = .ok (.iaload, 1) := by decide +kernel
theorem dX1_dropLine_9 : decode cX1_dropLine 9 = .ok (.iload_n 1, 1) := by decide +kernel
theorem dX1_dropLine_10 : decode cX1_dropLine 10 = .ok (.invokevirtual 58, 3) := by decide +kernel
theorem dX1_dropLine_13 : decode cX1_dropLine 13 = .ok (.pop, 1) := by decide +kernel
theorem dX1_dropLine_14 : decode cX1_dropLine 14 = .ok (.aload_n 0, 1) := by decide +kernel
theorem dX1_dropLine_15 : decode cX1_dropLine 15 = .ok (.aload_n 0, 1) := by decide +kernel
theorem dX1_dropLine_16 : decode cX1_dropLine 16 = .ok (.getfield 21, 3) := by decide +kernel
theorem dX1_dropLine_19 : decode cX1_dropLine 19 = .ok (.iconst 2, 1) := by decide +kernel
theorem dX1_dropLine_20 : decode cX1_dropLine 20 = .ok (.iload_n 1, 1) := by decide +kernel
theorem dX1_dropLine_21 : decode cX1_dropLine 21 = .ok (.imul, 1) := by decide +kernel
theorem dX1_dropLine_22 : decode cX1_dropLine 22 = .ok (.iconst 1, 1) := by decide +kernel
theorem dX1_dropLine_23 : decode cX1_dropLine 23 = .ok (.iadd, 1) := by decide +kernel
theorem dX1_dropLine_24 : decode cX1_dropLine 24 = .ok (.iaload, 1) := by decide +kernel
theorem dX1_dropLine_25 : decode cX1_dropLine 25 = .ok (.iload_n 1, 1) := by decide +kernel
theorem dX1_dropLine_26 : decode cX1_dropLine 26 = .ok (.invokevirtual 58, 3) := by decide +kernel
theorem dX1_dropLine_29 : decode cX1_dropLine 29 = .ok (.pop, 1) := by decide +kernel
theorem dX1_dropLine_30 : decode cX1_dropLine 30 = .ok (.aload_n 0, 1) := by decide +kernel
theorem dX1_dropLine_31 : decode cX1_dropLine 31 = .ok (.iload_n 1, 1) := by decide +kernel
theorem dX1_dropLine_32 : decode cX1_dropLine 32 = .ok (.invokevirtual 61, 3) := by decide +kernel
theorem dX1_dropLine_35 : decode cX1_dropLine 35 = .ok (.return_, 1) := by decide +kernel
theorem dX1_turnOver_0 : decode cX1_turnOver 0 = .ok (.iload_n 1, 1) := by decide +kernel
theorem dX1_turnOver_1 : decode cX1_turnOver 1 = .ok (.bipush 10, 2) := by decide +kernel
theorem dX1_turnOver_3 : decode cX1_turnOver 3 = .ok (.imul, 1) := by decide +kernel
theorem dX1_turnOver_4 : decode cX1_turnOver 4 = .ok (.istore_n 2, 1) := by decide +kernel
theorem dX1_turnOver_5 : decode cX1_turnOver 5 = .ok (.iload_n 2, 1) := by decide +kernel
theorem dX1_turnOver_6 : decode cX1_turnOver 6 = .ok (.aload_n 0, 1) := by decide +kernel
theorem dX1_turnOver_7 : decode cX1_turnOver 7 = .ok (.getfield 25, 3) := by decide +kernel
theorem dX1_turnOver_10 : decode cX1_turnOver 10 = .ok (.iload_n 1, 1) := by decide +kernel
theorem dX1_turnOver_11 : decode cX1_turnOver 11 = .ok (.iaload, 1) := by decide +kernel
theorem dX1_turnOver_12 : decode cX1_turnOver 12 = .ok (.iadd, 1) := by decide +kernel
theorem dX1_turnOver_13 : decode cX1_turnOver 13 = .ok (.iconst 1, 1) := by decide +kernel
theorem dX1_turnOver_14 : decode cX1_turnOver 14 = .ok (.isub, 1) := by decide +kernel
theorem dX1_turnOver_15 : decode cX1_turnOver 15 = .ok (.istore_n 3, 1) := by decide +kernel
theorem dX1_turnOver_16 : decode cX1_turnOver 16 = .ok (.iload_n 2, 1) := by decide +kernel
theorem dX1_turnOver_17 : decode cX1_turnOver 17 = .ok (.istore 4, 2) := by decide +kernel
theorem dX1_turnOver_19 : decode cX1_turnOver 19 = .ok (.iload 4, 2) := by decide +kernel
theorem dX1_turnOver_21 : decode cX1_turnOver 21 = .ok (.iload_n 3, 1) := by decide +kernel
theorem dX1_turnOver_22 : decode cX1_turnOver 22 = .ok (.if_icmp .gt 27, 3) := by decide +kernel
theorem dX1_turnOver_25 : decode cX1_turnOver 25 = .ok (.aload_n 0, 1) := by decide +kernel
theorem dX1_turnOver_26 : decode cX1_turnOver 26 = .ok (.dup, 1) := by decide +kernel
theorem dX1_turnOver_27 : decode cX1_turnOver 27 = .ok (.getfield 18, 3) := by decide +kernel
theorem dX1_turnOver_30 : decode cX1_turnOver 30 = .ok (.iconst 1, 1) := by decide +kernel
theorem dX1_turnOver_31 : decode cX1_turnOver 31 = .ok (.aload_n 0, 1) := by decide +kernel
theorem dX1_turnOver_32 : decode cX1_turnOver 32 = .ok (.getfield 28, 3) := by decide +kernel
theorem dX1_turnOver_35 : decode cX1_turnOver 35 = .ok (.iload 4, 2) := by decide +kernel
theorem dX1_turnOver_37 : decode cX1_turnOver 37 = .ok (.iaload, 1) := by decide +kernel
theorem dX1_turnOver_38 : decode cX1_turnOver 38 = .ok (.ishl, 1) := by decide +kernel
theorem dX1_turnOver_39 : decode cX1_turnOver 39 = .ok (.ixor, 1) := by decide +kernel
theorem dX1_turnOver_40 : decode cX1_turnOver 40 = .ok (.putfield 18, 3) := by decide +kernel
theorem dX1_turnOver_43 : decode cX1_turnOver 43 = .ok (.iinc 4 1, 3) := by decide +kernel
theorem dX1_turnOver_46 : decode cX1_turnOver 46 = .ok (.goto (-27), 3) := by decide +kernel
theorem dX1_turnOver_49 : decode cX1_turnOver 49 = .ok (.aload_n 0, 1) := by decide +kernel
theorem dX1_turnOver_50 : decode cX1_turnOver 50 = .ok (.iload_n 2, 1) := by decide +kernel
theorem dX1_turnOver_51 : decode cX1_turnOver 51 = .ok (.iload_n 3, 1) := by decide +kernel
theorem dX1_turnOver_52 : decode cX1_turnOver 52 = .ok (.invokevirtual 65, 3) := by decide +kernel
theorem dX1_turnOver_55 : decode cX1_turnOver 55 = .ok (.return_, 1) := by decide +kernel
theorem dX1_reverseRow_0 : decode cX1_reverseRow 0 = .ok (.iload_n 2, 1) := by decide +kernel
theorem dX1_reverseRow_1 : decode cX1_reverseRow 1 = .ok (.istore_n 3, 1) := by decide +kernel
theorem dX1_reverseRow_2 : decode cX1_reverseRow 2 = .ok (.iload_n 1, 1) := by decide +kernel
theorem dX1_reverseRow_3 : decode cX1_reverseRow 3 = .ok (.istore 4, 2) := by decide +kernel
theorem dX1_reverseRow_5 : decode cX1_reverseRow 5 = .ok (.iload 4, 2) := by decide +kernel
theorem dX1_reverseRow_7 : decode cX1_reverseRow 7 = .ok (.iload_n 3, 1) := by decide +kernel
theorem dX1_reverseRow_8 : decode cX1_reverseRow 8 = .ok (.if_icmp .ge 19, 3) := by decide +kernel
theorem dX1_reverseRow_11 : decode cX1_reverseRow 11 = .ok (.aload_n 0, 1) := by decide +kernel
theorem dX1_reverseRow_12 : decode cX1_reverseRow 12 = .ok (.iload 4, 2) := by decide +kernel
theorem dX1_reverseRow_14 : decode cX1_reverseRow 14 = .ok (.iload_n 3, 1) := by decide +kernel
theorem dX1_reverseRow_15 : decode cX1_reverseRow 15 = .ok (.invokevirtual 69, 3) := by decide +kernel
theorem dX1_reverseRow_18 : decode cX1_reverseRow 18 = .ok (.iinc 3 (-1), 3) := by decide +kernel
theorem dX1_reverseRow_21 : decode cX1_reverseRow 21 = .ok (.iinc 4 1, 3) := by decide +kernel
theorem dX1_reverseRow_24 : decode cX1_reverseRow 24 = .ok (.goto (-19), 3) := by decide +kernel
theorem dX1_reverseRow_27 : decode cX1_reverseRow 27 = .ok (.return_, 1) := by decide +kernel
theorem dX1_swap_0 : decode cX1_swap 0 = .ok (.aload_n 0, 1) := by decide +kernel
theorem dX1_swap_1 : decode cX1_swap 1 = .ok (.getfield 28, 3) := by decide +kernel
theorem dX1_swap_4 : decode cX1_swap 4 = .ok (.iload_n 1, 1) := by decide +kernel
theorem dX1_swap_5 : decode cX1_swap 5 = .ok (.iaload, 1) := by decide +kernel
theorem dX1_swap_6 : decode cX1_swap 6 = .ok (.istore_n 3, 1) := by decide +kernel
theorem dX1_swap_7 : decode cX1_swap 7 = .ok (.aload_n 0, 1) := by decide +kernel
theorem dX1_swap_8 : decode cX1_swap 8 = .ok (.getfield 28, 3) := by decide +kernel
theorem dX1_swap_11 : decode cX1_swap 11 = .ok (.iload_n 1, 1) := by decide +kernel
theorem dX1_swap_12 : decode cX1_swap 12 = .ok (.aload_n 0, 1) := by decide +kernel
theorem dX1_swap_13 : decode cX1_swap 13 = .ok (.getfield 28, 3) := by decide +kernel
theorem dX1_swap_16 : decode cX1_swap 16 = .ok (.iload_n 2, 1) := by decide +kernel
theorem dX1_swap_17 : decode cX1_swap 17 = .ok (.iaload, 1) := by decide +kernel
theorem dX1_swap_18 : decode cX1_swap 18 = .ok (.iastore, 1) := by decide +kernel
theorem dX1_swap_19 : decode cX1_swap 19 = .ok (.aload_n 0, 1) := by decide +kernel
theorem dX1_swap_20 : decode cX1_swap 20 = .ok (.getfield 28, 3) := by decide +kernel
theorem dX1_swap_23 : decode cX1_swap 23 = .ok (.iload_n 2, 1) := by decide +kernel
theorem dX1_swap_24 : decode cX1_swap 24 = .ok (.iload_n 3, 1) := by decide +kernel
theorem dX1_swap_25 : decode cX1_swap 25 = .ok (.iastore, 1) := by decide +kernel
theorem dX1_swap_26 : decode cX1_swap 26 = .ok (.return_, 1) := by decide +kernel
theorem dX1_swapWithNext_0 : decode cX1_swapWithNext 0 = .ok (.iload_n 1, 1) := by decide +kernel
theorem dX1_swapWithNext_1 : decode cX1_swapWithNext 1 = .ok (.bipush 10, 2) := by decide +kernel
theorem dX1_swapWithNext_3 : decode cX1_swapWithNext 3 = .ok (.imul, 1) := by decide +kernel
theorem dX1_swapWithNext_4 : decode cX1_swapWithNext 4 = .ok (.istore_n 3, 1) := by decide +kernel
theorem dX1_swapWithNext_5 : decode cX1_swapWithNext 5 = .ok (.aload_n 0, 1) := by decide +kernel
theorem dX1_swapWithNext_6 : decode cX1_swapWithNext 6 = .ok (.iload_n 3, 1) := by decide +kernel
theorem dX1_swapWithNext_7 : decode cX1_swapWithNext 7 = .ok (.iload_n 2, 1) := by decide +kernel
theorem dX1_swapWithNext_8 : decode cX1_swapWithNext 8 = .ok (.iadd, 1) := by decide +kernel
theorem dX1_swapWithNext_9 : decode cX1_swapWithNext 9 = .ok (.iload_n 2, 1) := by decide +kernel
theorem dX1_swapWithNext_10 : decode cX1_swapWithNext 10 = .ok (.iconst 1, 1) := by decide +kernel
theorem dX1_swapWithNext_11 : decode cX1_swapWithNext 11 = .ok (.iadd, 1) := by decide +kernel
theorem dX1_swapWithNext_12 : decode cX1_swapWithNext 12 = .ok (.aload_n 0, 1) := by decide +kernel
theorem dX1_swapWithNext_13 : decode cX1_swapWithNext 13 = .ok (.getfield 25, 3) := by decide +kernel
theorem dX1_swapWithNext_16 : decode cX1_swapWithNext 16 = .ok (.iload_n 1, 1) := by decide +kernel
theorem dX1_swapWithNext_17 : decode cX1_swapWithNext 17 = .ok (.iaload, 1) := by decide +kernel
theorem dX1_swapWithNext_18 : decode cX1_swapWithNext 18 = .ok (.if_icmp .ne 7, 3) := by decide +kernel
theorem dX1_swapWithNext_21 : decode cX1_swapWithNext 21 = .ok (.iload_n 3, 1) := by decide +kernel
theorem dX1_swapWithNext_22 : decode cX1_swapWithNext 22 = .ok (.goto 8, 3) := by decide +kernel
theorem dX1_swapWithNext_25 : decode cX1_swapWithNext 25 = .ok (.iload_n 3, 1) := by decide +kernel
theorem dX1_swapWithNext_26 : decode cX1_swapWithNext 26 = .ok (.iload_n 2, 1) := by decide +kernel
theorem dX1_swapWithNext_27 : decode cX1_swapWithNext 27 = .ok (.iadd, 1) := by decide +kernel
theorem dX1_swapWithNext_28 : decode cX1_swapWithNext 28 = .ok (.iconst 1, 1) := by decide +kernel
theorem dX1_swapWithNext_29 : decode cX1_swapWithNext 29 = .ok (.iadd, 1) := by decide +kernel
theorem dX1_swapWithNext_30 : decode cX1_swapWithNext 30 = .ok (.invokevirtual 69, 3) := by decide +kernel
theorem dX1_swapWithNext_33 : decode cX1_swapWithNext 33 = .ok (.return_, 1) := by decide +kernel
theorem dX1_contract_0 : decode cX1_contract 0 = .ok (.aload_n 0, 1) := by decide +kernel
theorem dX1_contract_1 : decode cX1_contract 1 = .ok (.getfield 21, 3) := by decide +kernel
theorem dX1_contract_4 : decode cX1_contract 4 = .ok (.iconst 2, 1) := by decide +kernel
theorem dX1_contract_5 : decode cX1_contract 5 = .ok (.iload_n 1, 1) := by decide +kernel
theorem dX1_contract_6 : decode cX1_contract 6 = .ok (.imul, 1) := by decide +kernel
theorem dX1_contract_7 : decode cX1_contract 7 = .ok (.iaload, 1) := by decide +kernel
theorem dX1_contract_8 : decode cX1_contract 8 = .ok (.istore_n 2, 1) := by decide +kernel
theorem dX1_contract_9 : decode cX1_contract 9 = .ok (.aload_n 0, 1) := by decide +kernel
theorem dX1_contract_10 : decode cX1_contract 10 = .ok (.getfield 21, 3) := by decide +kernel
theorem dX1_contract_13 : decode cX1_contract 13 = .ok (.iconst 2, 1) := by decide +kernel
theorem dX1_contract_14 : decode cX1_contract 14 = .ok (.iload_n 1, 1) := by decide +kernel
theorem dX1_contract_15 : decode cX1_contract 15 = .ok (.imul, 1) := by decide +kernel
theorem dX1_contract_16 : decode cX1_contract 16 = .ok (.iconst 1, 1) := by decide +kernel
theorem dX1_contract_17 : decode cX1_contract 17 = .ok (.iadd, 1) := by decide +kernel
theorem dX1_contract_18 : decode cX1_contract 18 = .ok (.iaload, 1) := by decide +kernel
theorem dX1_contract_19 : decode cX1_contract 19 = .ok (.istore_n 3, 1) := by decide +kernel
theorem dX1_contract_20 : decode cX1_contract 20 = .ok (.aload_n 0, 1) := by decide +kernel
theorem dX1_contract_21 : decode cX1_contract 21 = .ok (.iload_n 1, 1) := by decide +kernel
theorem dX1_contract_22 : decode cX1_contract 22 = .ok (.invokevirtual 72, 3) := by decide +kernel
theorem dX1_contract_25 : decode cX1_contract 25 = .ok (.ifCond .eq 8, 3) := by decide +kernel
theorem dX1_contract_28 : decode cX1_contract 28 = .ok (.aload_n 0, 1) := by decide +kernel
theorem dX1_contract_29 : decode cX1_contract 29 = .ok (.iload_n 3, 1) := by decide +kernel
theorem dX1_contract_30 : decode cX1_contract 30 = .ok (.invokevirtual 75, 3) := by decide +kernel
theorem dX1_contract_33 : decode cX1_contract 33 = .ok (.aload_n 0, 1) := by decide +kernel
theorem dX1_contract_34 : decode cX1_contract 34 = .ok (.iload_n 2, 1) := by decide +kernel
theorem dX1_contract_35 : decode cX1_contract 35 = .ok (.iload_n 1, 1) := by decide +kernel
theorem dX1_contract_36 : decode cX1_contract 36 = .ok (.invokevirtual 58, 3) := by decide +kernel
theorem dX1_contract_39 : decode cX1_contract 39 = .ok (.istore 4, 2) := by decide +kernel
theorem dX1_contract_41 : decode cX1_contract 41 = .ok (.aload_n 0, 1) := by decide +kernel
theorem dX1_contract_42 : decode cX1_contract 42 = .ok (.iload_n 3, 1) := by decide +kernel
theorem dX1_contract_43 : decode cX1_contract 43 = .ok (.iload_n 1, 1) := by decide +kernel
theorem dX1_contract_44 : decode cX1_contract 44 = .ok (.invokevirtual 78, 3) := by decide +kernel
theorem dX1_contract_47 : decode cX1_contract 47 = .ok (.istore 5, 2) := by decide +kernel
theorem dX1_contract_49 : decode cX1_contract 49 = .ok (.aload_n 0, 1) := by decide +kernel
theorem dX1_contract_50 : decode cX1_contract 50 = .ok (.getfield 25, 3) := by decide +kernel
theorem dX1_contract_53 : decode cX1_contract 53 = .ok (.iload_n 3, 1) := by decide +kernel
theorem dX1_contract_54 : decode cX1_contract 54 = .ok (.iaload, 1) := by decide +kernel
theorem dX1_contract_55 : decode cX1_contract 55 = .ok (.istore 6, 2) := by decide +kernel
theorem dX1_contract_57 : decode cX1_contract 57 = .ok (.iconst 1, 1) := by decide +kernel
theorem dX1_contract_58 : decode cX1_contract 58 = .ok (.istore 7, 2) := by decide +kernel
theorem dX1_contract_60 : decode cX1_contract 60 = .ok (.iload 7, 2) := by decide +kernel
theorem dX1_contract_62 : decode cX1_contract 62 = .ok (.iload 6, 2) := by decide +kernel
theorem dX1_contract_64 : decode cX1_contract 64 = .ok (.if_icmp .ge 73, 3) := by decide +kernel
theorem dX1_contract_67 : decode cX1_contract 67 = .ok (.iload 5, 2) := by decide +kernel
theorem dX1_contract_69 : decode cX1_contract 69 = .ok (.iload 7, 2) := by decide +kernel
theorem dX1_contract_71 : decode cX1_contract 71 = .ok (.iadd, 1) := by decide +kernel
theorem dX1_contract_72 : decode cX1_contract 72 = .ok (.iload 6, 2) := by decide +kernel
theorem dX1_contract_74 : decode cX1_contract 74 = .ok (.if_icmp .ge 11, 3) := by decide +kernel
theorem dX1_contract_77 : decode cX1_contract 77 = .ok (.iload 5, 2) := by decide +kernel
theorem dX1_contract_79 : decode cX1_contract 79 = .ok (.iload 7, 2) := by decide +kernel
theorem dX1_contract_81 : decode cX1_contract 81 = .ok (.iadd, 1) := by decide +kernel
theorem dX1_contract_82 : decode cX1_contract 82 = .ok (.goto 11, 3) := by decide +kernel
theorem dX1_contract_85 : decode cX1_contract 85 = .ok (.iload 5, 2) := by decide +kernel
theorem dX1_contract_87 : decode cX1_contract 87 = .ok (.iload 7, 2) := by decide +kernel
theorem dX1_contract_89 : decode cX1_contract 89 = .ok (.iadd, 1) := by decide +kernel
theorem dX1_contract_90 : decode cX1_contract 90 = .ok (.iload 6, 2) := by decide +kernel
theorem dX1_contract_92 : decode cX1_contract 92 = .ok (.isub, 1) := by decide +kernel
theorem dX1_contract_93 : decode cX1_contract 93 = .ok (.istore 8, 2) := by decide +kernel
theorem dX1_contract_95 : decode cX1_contract 95 = .ok (.aload_n 0, 1) := by decide +kernel
theorem dX1_contract_96 : decode cX1_contract 96 = .ok (.iload_n 3, 1) := by decide +kernel
theorem dX1_contract_97 : decode cX1_contract 97 = .ok (.iload 8, 2) := by decide +kernel
theorem dX1_contract_99 : decode cX1_contract 99 = .ok (.invokevirtual 81, 3) := by decide +kernel
theorem dX1_contract_102 : decode cX1_contract 102 = .ok (.istore 9, 2) := by decide +kernel
theorem dX1_contract_104 : decode cX1_contract 104 = .ok (.aload_n 0, 1) := by decide +kernel
theorem dX1_contract_105 : decode cX1_contract 105 = .ok (.getfield 21, 3) := by decide +kernel
theorem dX1_contract_108 : decode cX1_contract 108 = .ok (.aload_n 0, 1) := by decide +kernel
theorem dX1_contract_109 : decode cX1_contract 109 = .ok (.iload_n 3, 1) := by decide +kernel
theorem dX1_contract_110 : decode cX1_contract 110 = .ok (.iload 8, 2) := by decide +kernel
theorem dX1_contract_112 : decode cX1_contract 112 = .ok (.invokevirtual 84, 3) := by decide +kernel
theorem dX1_contract_115 : decode cX1_contract 115 = .ok (.iload_n 2, 1) := by decide +kernel
theorem dX1_contract_116 : decode cX1_contract 116 = .ok (.iastore, 1) := by decide +kernel
theorem dX1_contract_117 : decode cX1_contract 117 = .ok (.aload_n 0, 1) := by decide +kernel
theorem dX1_contract_118 : decode cX1_contract 118 = .ok (.iload_n 2, 1) := by decide +kernel
theorem dX1_contract_119 : decode cX1_contract 119 = .ok (.iload 4, 2) := by decide +kernel
theorem dX1_contract_121 : decode cX1_contract 121 = .ok (.iload 7, 2) := by decide +kernel
theorem dX1_contract_123 : decode cX1_contract 123 = .ok (.iadd, 1) := by decide +kernel
theorem dX1_contract_124 : decode cX1_contract 124 = .ok (.iconst 1, 1) := by decide +kernel
theorem dX1_contract_125 : decode cX1_contract 125 = .ok (.isub, 1) := by decide +kernel
theorem dX1_contract_126 : decode cX1_contract 126 = .ok (.iload 9, 2) := by decide +kernel
theorem dX1_contract_128 : decode cX1_contract 128 = .ok (.invokevirtual 54, 3) := by decide +kernel
theorem dX1_contract_131 : decode cX1_contract 131 = .ok (.iinc 7 1, 3) := by decide +kernel
theorem dX1_contract_134 : decode cX1_contract 134 = .ok (.goto (-74), 3) := by decide +kernel
theorem dX1_contract_137 : decode cX1_contract 137 = .ok (.aload_n 0, 1) := by decide +kernel
theorem dX1_contract_138 : decode cX1_contract 138 = .ok (.iload_n 1, 1) := by decide +kernel
theorem dX1_contract_139 : decode cX1_contract 139 = .ok (.invokevirtual 61, 3) := by decide +kernel
theorem dX1_contract_142 : decode cX1_contract 142 = .ok (.aload_n 0, 1) := by decide +kernel
theorem dX1_contract_143 : decode cX1_contract 143 = .ok (.iload_n 3, 1) := by decide +kernel
theorem dX1_contract_144 : decode cX1_contract 144 = .ok (.invokevirtual 87, 3) := by decide +kernel
theorem dX1_contract_147 : decode cX1_contract 147 = .ok (.return_, 1) := by decide +kernel
theorem dX1_insertAt_0 : decode cX1_insertAt 0 = .ok (.aload_n 0, 1) := by decide +kernel
theorem dX1_insertAt_1 : decode cX1_insertAt 1 = .ok (.getfield 25, 3) := by decide +kernel
theorem dX1_insertAt_4 : decode cX1_insertAt 4 = .ok (.iload_n 1, 1) := by decide +kernel
theorem dX1_insertAt_5 : decode cX1_insertAt 5 = .ok (.iaload, 1) := by decide +kernel
theorem dX1_insertAt_6 : decode cX1_insertAt 6 = .ok (.istore 4, 2) := by decide +kernel
theorem dX1_insertAt_8 : decode cX1_insertAt 8 = .ok (.iload 4, 2) := by decide +kernel
theorem dX1_insertAt_10 : decode cX1_insertAt 10 = .ok (.bipush 10, 2) := by decide +kernel
theorem dX1_insertAt_12 : decode cX1_insertAt 12 = .ok (.if_icmp .ge 13, 3) := by decide +kernel
theorem dX1_insertAt_15 : decode cX1_insertAt 15 = .ok (.iload_n 2, 1) := by decide +kernel
theorem dX1_insertAt_16 : decode cX1_insertAt 16 = .ok (.ifCond .lt 9, 3) := by decide +kernel
theorem dX1_insertAt_19 : decode cX1_insertAt 19 = .ok (.iload_n 2, 1) := by decide +kernel
theorem dX1_insertAt_20 : decode cX1_insertAt 20 = .ok (.iload 4, 2) := by decide +kernel
theorem dX1_insertAt_22 : decode cX1_insertAt 22 = .ok (.if_icmp .le 4, 3) := by decide +kernel
theorem dX1_insertAt_25 : decode cX1_insertAt 25 = .ok (.return_, 1) := by decide +kernel
theorem dX1_insertAt_26 : decode cX1_insertAt 26 = .ok (.iload_n 1, 1) := by decide +kernel
theorem dX1_insertAt_27 : decode cX1_insertAt 27 = .ok (.bipush 10, 2) := by decide +kernel
theorem dX1_insertAt_29 : decode cX1_insertAt 29 = .ok (.imul, 1) := by decide +kernel
theorem dX1_insertAt_30 : decode cX1_insertAt 30 = .ok (.istore 5, 2) := by decide +kernel
theorem dX1_insertAt_32 : decode cX1_insertAt 32 = .ok (.iload 4, 2) := by decide +kernel
theorem dX1_insertAt_34 : decode cX1_insertAt 34 = .ok (.istore 6, 2) := by decide +kernel
theorem dX1_insertAt_36 : decode cX1_insertAt 36 = .ok (.iload 6, 2) := by decide +kernel
theorem dX1_insertAt_38 : decode cX1_insertAt 38 = .ok (.iload_n 2, 1) := by decide +kernel
theorem dX1_insertAt_39 : decode cX1_insertAt 39 = .ok (.if_icmp .le 31, 3) := by decide +kernel
theorem dX1_insertAt_42 : decode cX1_insertAt 42 = .ok (.aload_n 0, 1) := by decide +kernel
theorem dX1_insertAt_43 : decode cX1_insertAt 43 = .ok (.getfield 28, 3) := by decide +kernel
theorem dX1_insertAt_46 : decode cX1_insertAt 46 = .ok (.iload 5, 2) := by decide +kernel
theorem dX1_insertAt_48 : decode cX1_insertAt 48 = .ok (.iload 6, 2) := by decide +kernel
theorem dX1_insertAt_50 : decode cX1_insertAt 50 = .ok (.iadd, 1) := by decide +kernel
theorem dX1_insertAt_51 : decode cX1_insertAt 51 = .ok (.aload_n 0, 1) := by decide +kernel
theorem dX1_insertAt_52 : decode cX1_insertAt 52 = .ok (.getfield 28, 3) := by decide +kernel
theorem dX1_insertAt_55 : decode cX1_insertAt 55 = .ok (.iload 5, 2) := by decide +kernel
theorem dX1_insertAt_57 : decode cX1_insertAt 57 = .ok (.iload 6, 2) := by decide +kernel
theorem dX1_insertAt_59 : decode cX1_insertAt 59 = .ok (.iadd, 1) := by decide +kernel
theorem dX1_insertAt_60 : decode cX1_insertAt 60 = .ok (.iconst 1, 1) := by decide +kernel
theorem dX1_insertAt_61 : decode cX1_insertAt 61 = .ok (.isub, 1) := by decide +kernel
theorem dX1_insertAt_62 : decode cX1_insertAt 62 = .ok (.iaload, 1) := by decide +kernel
theorem dX1_insertAt_63 : decode cX1_insertAt 63 = .ok (.iastore, 1) := by decide +kernel
theorem dX1_insertAt_64 : decode cX1_insertAt 64 = .ok (.iinc 6 (-1), 3) := by decide +kernel
theorem dX1_insertAt_67 : decode cX1_insertAt 67 = .ok (.goto (-31), 3) := by decide +kernel
theorem dX1_insertAt_70 : decode cX1_insertAt 70 = .ok (.aload_n 0, 1) := by decide +kernel
theorem dX1_insertAt_71 : decode cX1_insertAt 71 = .ok (.getfield 28, 3) := by decide +kernel
theorem dX1_insertAt_74 : decode cX1_insertAt 74 = .ok (.iload 5, 2) := by decide +kernel
theorem dX1_insertAt_76 : decode cX1_insertAt 76 = .ok (.iload_n 2, 1) := by decide +kernel
theorem dX1_insertAt_77 : decode cX1_insertAt 77 = .ok (.iadd, 1) := by decide +kernel
theorem dX1_insertAt_78 : decode cX1_insertAt 78 = .ok (.iload_n 3, 1) := by decide +kernel
theorem dX1_insertAt_79 : decode cX1_insertAt 79 = .ok (.iastore, 1) := by decide +kernel
theorem dX1_insertAt_80 : decode cX1_insertAt 80 = .ok (.aload_n 0, 1) := by decide +kernel
theorem dX1_insertAt_81 : decode cX1_insertAt 81 = .ok (.getfield 25, 3) := by decide +kernel
theorem dX1_insertAt_84 : decode cX1_insertAt 84 = .ok (.iload_n 1, 1) := by decide +kernel
theorem dX1_insertAt_85 : decode cX1_insertAt 85 = .ok (.iload 4, 2) := by decide +kernel
theorem dX1_insertAt_87 : decode cX1_insertAt 87 = .ok (.iconst 1, 1) := by decide +kernel
theorem dX1_insertAt_88 : decode cX1_insertAt 88 = .ok (.iadd, 1) := by decide +kernel
theorem dX1_insertAt_89 : decode cX1_insertAt 89 = .ok (.iastore, 1) := by decide +kernel
theorem dX1_insertAt_90 : decode cX1_insertAt 90 = .ok (.return_, 1) := by decide +kernel
theorem dX1_placeOf_0 : decode cX1_placeOf 0 = .ok (.iconst 0, 1) := by decide +kernel
theorem dX1_placeOf_1 : decode cX1_placeOf 1 = .ok (.istore_n 3, 1) := by decide +kernel
theorem dX1_placeOf_2 : decode cX1_placeOf 2 = .ok (.iload_n 3, 1) := by decide +kernel
theorem dX1_placeOf_3 : decode cX1_placeOf 3 = .ok (.aload_n 0, 1) := by decide +kernel
theorem dX1_placeOf_4 : decode cX1_placeOf 4 = .ok (.getfield 25, 3) := by decide +kernel
theorem dX1_placeOf_7 : decode cX1_placeOf 7 = .ok (.iload_n 1, 1) := by decide +kernel
theorem dX1_placeOf_8 : decode cX1_placeOf 8 = .ok (.iaload, 1) := by decide +kernel
theorem dX1_placeOf_9 : decode cX1_placeOf 9 = .ok (.if_icmp .ge 21, 3) := by decide +kernel
theorem dX1_placeOf_12 : decode cX1_placeOf 12 = .ok (.aload_n 0, 1) := by decide +kernel
theorem dX1_placeOf_13 : decode cX1_placeOf 13 = .ok (.iload_n 1, 1) := by decide +kernel
theorem dX1_placeOf_14 : decode cX1_placeOf 14 = .ok (.iload_n 3, 1) := by decide +kernel
theorem dX1_placeOf_15 : decode cX1_placeOf 15 = .ok (.invokevirtual 81, 3) := by decide +kernel
theorem dX1_placeOf_18 : decode cX1_placeOf 18 = .ok (.iload_n 2, 1) := by decide +kernel
theorem dX1_placeOf_19 : decode cX1_placeOf 19 = .ok (.if_icmp .ne 5, 3) := by decide +kernel
theorem dX1_placeOf_22 : decode cX1_placeOf 22 = .ok (.iload_n 3, 1) := by decide +kernel
theorem dX1_placeOf_23 : decode cX1_placeOf 23 = .ok (.ireturn, 1) := by decide +kernel
theorem dX1_placeOf_24 : decode cX1_placeOf 24 = .ok (.iinc 3 1, 3) := by decide +kernel
theorem dX1_placeOf_27 : decode cX1_placeOf 27 = .ok (.goto (-25), 3) := by decide +kernel
theorem dX1_placeOf_30 : decode cX1_placeOf 30 = .ok (.aload_n 0, 1) := by decide +kernel
theorem dX1_placeOf_31 : decode cX1_placeOf 31 = .ok (.getfield 25, 3) := by decide +kernel
theorem dX1_placeOf_34 : decode cX1_placeOf 34 = .ok (.iload_n 1, 1) := by decide +kernel
theorem dX1_placeOf_35 : decode cX1_placeOf 35 = .ok (.iaload, 1) := by decide +kernel
theorem dX1_placeOf_36 : decode cX1_placeOf 36 = .ok (.ireturn, 1) := by decide +kernel
theorem dX1_takeOut_0 : decode cX1_takeOut 0 = .ok (.aload_n 0, 1) := by decide +kernel
theorem dX1_takeOut_1 : decode cX1_takeOut 1 = .ok (.iload_n 1, 1) := by decide +kernel
theorem dX1_takeOut_2 : decode cX1_takeOut 2 = .ok (.iload_n 2, 1) := by decide +kernel
theorem dX1_takeOut_3 : decode cX1_takeOut 3 = .ok (.invokevirtual 78, 3) := by decide +kernel
theorem dX1_takeOut_6 : decode cX1_takeOut 6 = .ok (.istore_n 3, 1) := by decide +kernel
theorem dX1_takeOut_7 : decode cX1_takeOut 7 = .ok (.iload_n 1, 1) := by decide +kernel
theorem dX1_takeOut_8 : decode cX1_takeOut 8 = .ok (.bipush 10, 2) := by decide +kernel
theorem dX1_takeOut_10 : decode cX1_takeOut 10 = .ok (.imul, 1) := by decide +kernel
theorem dX1_takeOut_11 : decode cX1_takeOut 11 = .ok (.istore 4, 2) := by decide +kernel
theorem dX1_takeOut_13 : decode cX1_takeOut 13 = .ok (.iload_n 3, 1) := by decide +kernel
theorem dX1_takeOut_14 : decode cX1_takeOut 14 = .ok (.istore 5, 2) := by decide +kernel
theorem dX1_takeOut_16 : decode cX1_takeOut 16 = .ok (.iload 5, 2) := by decide +kernel
theorem dX1_takeOut_18 : decode cX1_takeOut 18 = .ok (.iconst 1, 1) := by decide +kernel
theorem dX1_takeOut_19 : decode cX1_takeOut 19 = .ok (.iadd, 1) := by decide +kernel
theorem dX1_takeOut_20 : decode cX1_takeOut 20 = .ok (.aload_n 0, 1) := by decide +kernel
theorem dX1_takeOut_21 : decode cX1_takeOut 21 = .ok (.getfield 25, 3) := by decide +kernel
theorem dX1_takeOut_24 : decode cX1_takeOut 24 = .ok (.iload_n 1, 1) := by decide +kernel
theorem dX1_takeOut_25 : decode cX1_takeOut 25 = .ok (.iaload, 1) := by decide +kernel
theorem dX1_takeOut_26 : decode cX1_takeOut 26 = .ok (.if_icmp .ge 31, 3) := by decide +kernel
theorem dX1_takeOut_29 : decode cX1_takeOut 29 = .ok (.aload_n 0, 1) := by decide +kernel
theorem dX1_takeOut_30 : decode cX1_takeOut 30 = .ok (.getfield 28, 3) := by decide +kernel
theorem dX1_takeOut_33 : decode cX1_takeOut 33 = .ok (.iload 4, 2) := by decide +kernel
theorem dX1_takeOut_35 : decode cX1_takeOut 35 = .ok (.iload 5, 2) := by decide +kernel
theorem dX1_takeOut_37 : decode cX1_takeOut 37 = .ok (.iadd, 1) := by decide +kernel
theorem dX1_takeOut_38 : decode cX1_takeOut 38 = .ok (.aload_n 0, 1) := by decide +kernel
theorem dX1_takeOut_39 : decode cX1_takeOut 39 = .ok (.getfield 28, 3) := by decide +kernel
theorem dX1_takeOut_42 : decode cX1_takeOut 42 = .ok (.iload 4, 2) := by decide +kernel
theorem dX1_takeOut_44 : decode cX1_takeOut 44 = .ok (.iload 5, 2) := by decide +kernel
theorem dX1_takeOut_46 : decode cX1_takeOut 46 = .ok (.iadd, 1) := by decide +kernel
theorem dX1_takeOut_47 : decode cX1_takeOut 47 = .ok (.iconst 1, 1) := by decide +kernel
theorem dX1_takeOut_48 : decode cX1_takeOut 48 = .ok (.iadd, 1) := by decide +kernel
theorem dX1_takeOut_49 : decode cX1_takeOut 49 = .ok (.iaload, 1) := by decide +kernel
theorem dX1_takeOut_50 : decode cX1_takeOut 50 = .ok (.iastore, 1) := by decide +kernel
theorem dX1_takeOut_51 : decode cX1_takeOut 51 = .ok (.iinc 5 1, 3) := by decide +kernel
theorem dX1_takeOut_54 : decode cX1_takeOut 54 = .ok (.goto (-38), 3) := by decide +kernel
theorem dX1_takeOut_57 : decode cX1_takeOut 57 = .ok (.iload_n 3, 1) := by decide +kernel
theorem dX1_takeOut_58 : decode cX1_takeOut 58 = .ok (.aload_n 0, 1) := by decide +kernel
theorem dX1_takeOut_59 : decode cX1_takeOut 59 = .ok (.getfield 25, 3) := by decide +kernel
theorem dX1_takeOut_62 : decode cX1_takeOut 62 = .ok (.iload_n 1, 1) := by decide +kernel
theorem dX1_takeOut_63 : decode cX1_takeOut 63 = .ok (.iaload, 1) := by decide +kernel
theorem dX1_takeOut_64 : decode cX1_takeOut 64 = .ok (.if_icmp .ge 13, 3) := by decide +kernel
theorem dX1_takeOut_67 : decode cX1_takeOut 67 = .ok (.aload_n 0, 1) := by decide +kernel
theorem dX1_takeOut_68 : decode cX1_takeOut 68 = .ok (.getfield 25, 3) := by decide +kernel
theorem dX1_takeOut_71 : decode cX1_takeOut 71 = .ok (.iload_n 1, 1) := by decide +kernel
theorem dX1_takeOut_72 : decode cX1_takeOut 72 = .ok (.dup2, 1) := by decide +kernel
theorem dX1_takeOut_73 : decode cX1_takeOut 73 = .ok (.iaload, 1) := by decide +kernel
theorem dX1_takeOut_74 : decode cX1_takeOut 74 = .ok (.iconst 1, 1) := by decide +kernel
theorem dX1_takeOut_75 : decode cX1_takeOut 75 = .ok (.isub, 1) := by decide +kernel
theorem dX1_takeOut_76 : decode cX1_takeOut 76 = .ok (.iastore, 1) := by decide +kernel
theorem dX1_takeOut_77 : decode cX1_takeOut 77 = .ok (.iload_n 3, 1) := by decide +kernel
theorem dX1_takeOut_78 : decode cX1_takeOut 78 = .ok (.ireturn, 1) := by decide +kernel
theorem dX1_closeLineNumber_0 : decode cX1_closeLineNumber 0 = .ok (.iconst 2, 1) := by decide +kernel
theorem dX1_closeLineNumber_1 : decode cX1_closeLineNumber 1 = .ok (.iload_n 1, 1) := by decide +kernel
theorem dX1_closeLineNumber_2 : decode cX1_closeLineNumber 2 = .ok (.imul, 1) := by decide +kernel
theorem dX1_closeLineNumber_3 : decode cX1_closeLineNumber 3 = .ok (.istore_n 2, 1) := by decide +kernel
theorem dX1_closeLineNumber_4 : decode cX1_closeLineNumber 4 = .ok (.iload_n 2, 1) := by decide +kernel
theorem dX1_closeLineNumber_5 : decode cX1_closeLineNumber 5 = .ok (.iconst 2, 1) := by decide +kernel
theorem dX1_closeLineNumber_6 : decode cX1_closeLineNumber 6 = .ok (.iadd, 1) := by decide +kernel
theorem dX1_closeLineNumber_7 : decode cX1_closeLineNumber 7 = .ok (.iconst 2, 1) := by decide +kernel
theorem dX1_closeLineNumber_8 : decode cX1_closeLineNumber 8 = .ok (.aload_n 0, 1) := by decide +kernel
theorem dX1_closeLineNumber_9 : decode cX1_closeLineNumber 9 = .ok (.getfield 15, 3) := by decide +kernel
theorem dX1_closeLineNumber_12 : decode cX1_closeLineNumber 12 = .ok (.imul, 1) := by decide +kernel
theorem dX1_closeLineNumber_13 : decode cX1_closeLineNumber 13 = .ok (.if_icmp .ge 23, 3) := by decide +kernel
theorem dX1_closeLineNumber_16 : decode cX1_closeLineNumber 16 = .ok (.aload_n 0, 1) := by decide +kernel
theorem dX1_closeLineNumber_17 : decode cX1_closeLineNumber 17 = .ok (.getfield 21, 3) := by decide +kernel
theorem dX1_closeLineNumber_20 : decode cX1_closeLineNumber 20 = .ok (.iload_n 2, 1) := by decide +kernel
theorem dX1_closeLineNumber_21 : decode cX1_closeLineNumber 21 = .ok (.aload_n 0, 1) := by decide +kernel
theorem dX1_closeLineNumber_22 : decode cX1_closeLineNumber 22 = .ok (.getfield 21, 3) := by decide +kernel
theorem dX1_closeLineNumber_25 : decode cX1_closeLineNumber 25 = .ok (.iload_n 2, 1) := by decide +kernel
theorem dX1_closeLineNumber_26 : decode cX1_closeLineNumber 26 = .ok (.iconst 2, 1) := by decide +kernel
theorem dX1_closeLineNumber_27 : decode cX1_closeLineNumber 27 = .ok (.iadd, 1) := by decide +kernel
theorem dX1_closeLineNumber_28 : decode cX1_closeLineNumber 28 = .ok (.iaload, 1) := by decide +kernel
theorem dX1_closeLineNumber_29 : decode cX1_closeLineNumber 29 = .ok (.iastore, 1) := by decide +kernel
theorem dX1_closeLineNumber_30 : decode cX1_closeLineNumber 30 = .ok (.iinc 2 1, 3) := by decide +kernel
theorem dX1_closeLineNumber_33 : decode cX1_closeLineNumber 33 = .ok (.goto (-29), 3) := by decide +kernel
theorem dX1_closeLineNumber_36 : decode cX1_closeLineNumber 36 = .ok (.aload_n 0, 1) := by decide +kernel
theorem dX1_closeLineNumber_37 : decode cX1_closeLineNumber 37 = .ok (.dup, 1) := by decide +kernel
theorem dX1_closeLineNumber_38 : decode cX1_closeLineNumber 38 = .ok (.getfield 15, 3) := by decide +kernel
theorem dX1_closeLineNumber_41 : decode cX1_closeLineNumber 41 = .ok (.iconst 1, 1) := by decide +kernel
theorem dX1_closeLineNumber_42 : decode cX1_closeLineNumber 42 = .ok (.isub, 1) := by decide +kernel
theorem dX1_closeLineNumber_43 : decode cX1_closeLineNumber 43 = .ok (.putfield 15, 3) := by decide +kernel
theorem dX1_closeLineNumber_46 : decode cX1_closeLineNumber 46 = .ok (.iconst 1, 1) := by decide +kernel
theorem dX1_closeLineNumber_47 : decode cX1_closeLineNumber 47 = .ok (.iload_n 1, 1) := by decide +kernel
theorem dX1_closeLineNumber_48 : decode cX1_closeLineNumber 48 = .ok (.ishl, 1) := by decide +kernel
theorem dX1_closeLineNumber_49 : decode cX1_closeLineNumber 49 = .ok (.iconst 1, 1) := by decide +kernel
theorem dX1_closeLineNumber_50 : decode cX1_closeLineNumber 50 = .ok (.isub, 1) := by decide +kernel
theorem dX1_closeLineNumber_51 : decode cX1_closeLineNumber 51 = .ok (.istore_n 2, 1) := by decide +kernel
theorem dX1_closeLineNumber_52 : decode cX1_closeLineNumber 52 = .ok (.aload_n 0, 1) := by decide +kernel
theorem dX1_closeLineNumber_53 : decode cX1_closeLineNumber 53 = .ok (.aload_n 0, 1) := by decide +kernel
theorem dX1_closeLineNumber_54 : decode cX1_closeLineNumber 54 = .ok (.getfield 18, 3) := by decide +kernel
theorem dX1_closeLineNumber_57 : decode cX1_closeLineNumber 57 = .ok (.iload_n 2, 1) := by decide +kernel
theorem dX1_closeLineNumber_58 : decode cX1_closeLineNumber 58 = .ok (.iand, 1) := by decide +kernel
theorem dX1_closeLineNumber_59 : decode cX1_closeLineNumber 59 = .ok (.aload_n 0, 1) := by decide +kernel
theorem dX1_closeLineNumber_60 : decode cX1_closeLineNumber 60 = .ok (.getfield 18, 3) := by decide +kernel
theorem dX1_closeLineNumber_63 : decode cX1_closeLineNumber 63 = .ok (.iconst 1, 1) := by decide +kernel
theorem dX1_closeLineNumber_64 : decode cX1_closeLineNumber 64 = .ok (.ishr, 1) := by decide +kernel
theorem dX1_closeLineNumber_65 : decode cX1_closeLineNumber 65 = .ok (.iload_n 2, 1) := by decide +kernel
theorem dX1_closeLineNumber_66 : decode cX1_closeLineNumber 66 = .ok (.iconst (-1), 1) := by decide +kernel
theorem dX1_closeLineNumber_67 : decode cX1_closeLineNumber 67 = .ok (.ixor, 1) := by decide +kernel
theorem dX1_closeLineNumber_68 : decode cX1_closeLineNumber 68 = .ok (.iand, 1) := by decide +kernel
theorem dX1_closeLineNumber_69 : decode cX1_closeLineNumber 69 = .ok (.ior, 1) := by decide +kernel
theorem dX1_closeLineNumber_70 : decode cX1_closeLineNumber 70 = .ok (.putfield 18, 3) := by decide +kernel
theorem dX1_closeLineNumber_73 : decode cX1_closeLineNumber 73 = .ok (.iconst 0, 1) := by decide +kernel
theorem dX1_closeLineNumber_74 : decode cX1_closeLineNumber 74 = .ok (.istore_n 3, 1) := by decide +kernel
theorem dX1_closeLineNumber_75 : decode cX1_closeLineNumber 75 = .ok (.iload_n 3, 1) := by decide +kernel
theorem dX1_closeLineNumber_76 : decode cX1_closeLineNumber 76 = .ok (.aload_n 0, 1) := by decide +kernel
theorem dX1_closeLineNumber_77 : decode cX1_closeLineNumber 77 = .ok (.getfield 9, 3) := by decide +kernel
theorem dX1_closeLineNumber_80 : decode cX1_closeLineNumber 80 = .ok (.if_icmp .ge 56, 3) := by decide +kernel
theorem dX1_closeLineNumber_83 : decode cX1_closeLineNumber 83 = .ok (.iconst 0, 1) := by decide +kernel
theorem dX1_closeLineNumber_84 : decode cX1_closeLineNumber 84 = .ok (.istore 4, 2) := by decide +kernel
theorem dX1_closeLineNumber_86 : decode cX1_closeLineNumber 86 = .ok (.iload 4, 2) := by decide +kernel
theorem dX1_closeLineNumber_88 : decode cX1_closeLineNumber 88 = .ok (.aload_n 0, 1) := by decide +kernel
theorem dX1_closeLineNumber_89 : decode cX1_closeLineNumber 89 = .ok (.getfield 25, 3) := by decide +kernel
theorem dX1_closeLineNumber_92 : decode cX1_closeLineNumber 92 = .ok (.iload_n 3, 1) := by decide +kernel
theorem dX1_closeLineNumber_93 : decode cX1_closeLineNumber 93 = .ok (.iaload, 1) := by decide +kernel
theorem dX1_closeLineNumber_94 : decode cX1_closeLineNumber 94 = .ok (.if_icmp .ge 36, 3) := by decide +kernel
theorem dX1_closeLineNumber_97 : decode cX1_closeLineNumber 97 = .ok (.aload_n 0, 1) := by decide +kernel
theorem dX1_closeLineNumber_98 : decode cX1_closeLineNumber 98 = .ok (.iload_n 3, 1) := by decide +kernel
theorem dX1_closeLineNumber_99 : decode cX1_closeLineNumber 99 = .ok (.iload 4, 2) := by decide +kernel
theorem dX1_closeLineNumber_101 : decode cX1_closeLineNumber 101 = .ok (.invokevirtual 81, 3) := by decide +kernel
theorem dX1_closeLineNumber_104 : decode cX1_closeLineNumber 104 = .ok (.iload_n 1, 1) := by decide +kernel
theorem dX1_closeLineNumber_105 : decode cX1_closeLineNumber 105 = .ok (.if_icmp .le 19, 3) := by decide +kernel
theorem dX1_closeLineNumber_108 : decode cX1_closeLineNumber 108 = .ok (.aload_n 0, 1) := by decide +kernel
theorem dX1_closeLineNumber_109 : decode cX1_closeLineNumber 109 = .ok (.getfield 28, 3) := by decide +kernel
theorem dX1_closeLineNumber_112 : decode cX1_closeLineNumber 112 = .ok (.iload_n 3, 1) := by decide +kernel
theorem dX1_closeLineNumber_113 : decode cX1_closeLineNumber 113 = .ok (.bipush 10, 2) := by decide +kernel
theorem dX1_closeLineNumber_115 : decode cX1_closeLineNumber 115 = .ok (.imul, 1) := by decide +kernel
theorem dX1_closeLineNumber_116 : decode cX1_closeLineNumber 116 = .ok (.iload 4, 2) := by decide +kernel
theorem dX1_closeLineNumber_118 : decode cX1_closeLineNumber 118 = .ok (.iadd, 1) := by decide +kernel
theorem dX1_closeLineNumber_119 : decode cX1_closeLineNumber 119 = .ok (.dup2, 1) := by decide +kernel
theorem dX1_closeLineNumber_120 : decode cX1_closeLineNumber 120 = .ok (.iaload, 1) := by decide +kernel
theorem dX1_closeLineNumber_121 : decode cX1_closeLineNumber 121 = .ok (.iconst 1, 1) := by decide +kernel
theorem dX1_closeLineNumber_122 : decode cX1_closeLineNumber 122 = .ok (.isub, 1) := by decide +kernel
theorem dX1_closeLineNumber_123 : decode cX1_closeLineNumber 123 = .ok (.iastore, 1) := by decide +kernel
theorem dX1_closeLineNumber_124 : decode cX1_closeLineNumber 124 = .ok (.iinc 4 1, 3) := by decide +kernel
theorem dX1_closeLineNumber_127 : decode cX1_closeLineNumber 127 = .ok (.goto (-41), 3) := by decide +kernel
theorem dX1_closeLineNumber_130 : decode cX1_closeLineNumber 130 = .ok (.iinc 3 1, 3) := by decide +kernel
theorem dX1_closeLineNumber_133 : decode cX1_closeLineNumber 133 = .ok (.goto (-58), 3) := by decide +kernel
theorem dX1_closeLineNumber_136 : decode cX1_closeLineNumber 136 = .ok (.return_, 1) := by decide +kernel
theorem dX1_closePostNumber_0 : decode cX1_closePostNumber 0 = .ok (.iload_n 1, 1) := by decide +kernel
theorem dX1_closePostNumber_1 : decode cX1_closePostNumber 1 = .ok (.istore_n 2, 1) := by decide +kernel
theorem dX1_closePostNumber_2 : decode cX1_closePostNumber 2 = .ok (.iload_n 2, 1) := by decide +kernel
theorem dX1_closePostNumber_3 : decode cX1_closePostNumber 3 = .ok (.iconst 1, 1) := by decide +kernel
theorem dX1_closePostNumber_4 : decode cX1_closePostNumber 4 = .ok (.iadd, 1) := by decide +kernel
theorem dX1_closePostNumber_5 : decode cX1_closePostNumber 5 = .ok (.aload_n 0, 1) := by decide +kernel
theorem dX1_closePostNumber_6 : decode cX1_closePostNumber 6 = .ok (.getfield 9, 3) := by decide +kernel
theorem dX1_closePostNumber_9 : decode cX1_closePostNumber 9 = .ok (.if_icmp .ge 46, 3) := by decide +kernel
theorem dX1_closePostNumber_12 : decode cX1_closePostNumber 12 = .ok (.aload_n 0, 1) := by decide +kernel
theorem dX1_closePostNumber_13 : decode cX1_closePostNumber 13 = .ok (.getfield 25, 3) := by decide +kernel
theorem dX1_closePostNumber_16 : decode cX1_closePostNumber 16 = .ok (.iload_n 2, 1) := by decide +kernel
theorem dX1_closePostNumber_17 : decode cX1_closePostNumber 17 = .ok (.aload_n 0, 1) := by decide +kernel
theorem dX1_closePostNumber_18 : decode cX1_closePostNumber 18 = .ok (.getfield 25, 3) := by decide +kernel
theorem dX1_closePostNumber_21 : decode cX1_closePostNumber 21 = .ok (.iload_n 2, 1) := by decide +kernel
theorem dX1_closePostNumber_22 : decode cX1_closePostNumber 22 = .ok (.iconst 1, 1) := by decide +kernel
theorem dX1_closePostNumber_23 : decode cX1_closePostNumber 23 = .ok (.iadd, 1) := by decide +kernel
theorem dX1_closePostNumber_24 : decode cX1_closePostNumber 24 = .ok (.iaload, 1) := by decide +kernel
theorem dX1_closePostNumber_25 : decode cX1_closePostNumber 25 = .ok (.iastore, 1) := by decide +kernel
theorem dX1_closePostNumber_26 : decode cX1_closePostNumber 26 = .ok (.aload_n 0, 1) := by decide +kernel
theorem dX1_closePostNumber_27 : decode cX1_closePostNumber 27 = .ok (.getfield 28, 3) := by decide +kernel
theorem dX1_closePostNumber_30 : decode cX1_closePostNumber 30 = .ok (.iload_n 2, 1) := by decide +kernel
theorem dX1_closePostNumber_31 : decode cX1_closePostNumber 31 = .ok (.iconst 1, 1) := by decide +kernel
theorem dX1_closePostNumber_32 : decode cX1_closePostNumber 32 = .ok (.iadd, 1) := by decide +kernel
theorem dX1_closePostNumber_33 : decode cX1_closePostNumber 33 = .ok (.bipush 10, 2) := by decide +kernel
theorem dX1_closePostNumber_35 : decode cX1_closePostNumber 35 = .ok (.imul, 1) := by decide +kernel
theorem dX1_closePostNumber_36 : decode cX1_closePostNumber 36 = .ok (.aload_n 0, 1) := by decide +kernel
theorem dX1_closePostNumber_37 : decode cX1_closePostNumber 37 = .ok (.getfield 28, 3) := by decide +kernel
theorem dX1_closePostNumber_40 : decode cX1_closePostNumber 40 = .ok (.iload_n 2, 1) := by decide +kernel
theorem dX1_closePostNumber_41 : decode cX1_closePostNumber 41 = .ok (.bipush 10, 2) := by decide +kernel
theorem dX1_closePostNumber_43 : decode cX1_closePostNumber 43 = .ok (.imul, 1) := by decide +kernel
theorem dX1_closePostNumber_44 : decode cX1_closePostNumber 44 = .ok (.bipush 10, 2) := by decide +kernel
theorem dX1_closePostNumber_46 : decode cX1_closePostNumber 46 = .ok (.invokestatic 31, 3) := by decide +kernel
theorem dX1_closePostNumber_49 : decode cX1_closePostNumber 49 = .ok (.iinc 2 1, 3) := by decide +kernel
theorem dX1_closePostNumber_52 : decode cX1_closePostNumber 52 = .ok (.goto (-50), 3) := by decide +kernel
theorem dX1_closePostNumber_55 : decode cX1_closePostNumber 55 = .ok (.aload_n 0, 1) := by decide +kernel
theorem dX1_closePostNumber_56 : decode cX1_closePostNumber 56 = .ok (.dup, 1) := by decide +kernel
theorem dX1_closePostNumber_57 : decode cX1_closePostNumber 57 = .ok (.getfield 9, 3) := by decide +kernel
theorem dX1_closePostNumber_60 : decode cX1_closePostNumber 60 = .ok (.iconst 1, 1) := by decide +kernel
theorem dX1_closePostNumber_61 : decode cX1_closePostNumber 61 = .ok (.isub, 1) := by decide +kernel
theorem dX1_closePostNumber_62 : decode cX1_closePostNumber 62 = .ok (.putfield 9, 3) := by decide +kernel
theorem dX1_closePostNumber_65 : decode cX1_closePostNumber 65 = .ok (.iconst 0, 1) := by decide +kernel
theorem dX1_closePostNumber_66 : decode cX1_closePostNumber 66 = .ok (.istore_n 2, 1) := by decide +kernel
theorem dX1_closePostNumber_67 : decode cX1_closePostNumber 67 = .ok (.iload_n 2, 1) := by decide +kernel
theorem dX1_closePostNumber_68 : decode cX1_closePostNumber 68 = .ok (.iconst 2, 1) := by decide +kernel
theorem dX1_closePostNumber_69 : decode cX1_closePostNumber 69 = .ok (.aload_n 0, 1) := by decide +kernel
theorem dX1_closePostNumber_70 : decode cX1_closePostNumber 70 = .ok (.getfield 15, 3) := by decide +kernel
theorem dX1_closePostNumber_73 : decode cX1_closePostNumber 73 = .ok (.imul, 1) := by decide +kernel
theorem dX1_closePostNumber_74 : decode cX1_closePostNumber 74 = .ok (.if_icmp .ge 29, 3) := by decide +kernel
theorem dX1_closePostNumber_77 : decode cX1_closePostNumber 77 = .ok (.aload_n 0, 1) := by decide +kernel
theorem dX1_closePostNumber_78 : decode cX1_closePostNumber 78 = .ok (.getfield 21, 3) := by decide +kernel
theorem dX1_closePostNumber_81 : decode cX1_closePostNumber 81 = .ok (.iload_n 2, 1) := by decide +kernel
theorem dX1_closePostNumber_82 : decode cX1_closePostNumber 82 = .ok (.iaload, 1) := by decide +kernel
theorem dX1_closePostNumber_83 : decode cX1_closePostNumber 83 = .ok (.iload_n 1, 1) := by decide +kernel
theorem dX1_closePostNumber_84 : decode cX1_closePostNumber 84 = .ok (.if_icmp .le 13, 3) := by decide +kernel
theorem dX1_closePostNumber_87 : decode cX1_closePostNumber 87 = .ok (.aload_n 0, 1) := by decide +kernel
theorem dX1_closePostNumber_88 : decode cX1_closePostNumber 88 = .ok (.getfield 21, 3) := by decide +kernel
theorem dX1_closePostNumber_91 : decode cX1_closePostNumber 91 = .ok (.iload_n 2, 1) := by decide +kernel
theorem dX1_closePostNumber_92 : decode cX1_closePostNumber 92 = .ok (.dup2, 1) := by decide +kernel
theorem dX1_closePostNumber_93 : decode cX1_closePostNumber 93 = .ok (.iaload, 1) := by decide +kernel
theorem dX1_closePostNumber_94 : decode cX1_closePostNumber 94 = .ok (.iconst 1, 1) := by decide +kernel
theorem dX1_closePostNumber_95 : decode cX1_closePostNumber 95 = .ok (.isub, 1) := by decide +kernel
theorem dX1_closePostNumber_96 : decode cX1_closePostNumber 96 = .ok (.iastore, 1) := by decide +kernel
theorem dX1_closePostNumber_97 : decode cX1_closePostNumber 97 = .ok (.iinc 2 1, 3) := by decide +kernel
theorem dX1_closePostNumber_100 : decode cX1_closePostNumber 100 = .ok (.goto (-33), 3) := by decide +kernel
theorem dX1_closePostNumber_103 : decode cX1_closePostNumber 103 = .ok (.return_, 1) := by decide +kernel
theorem dX1_orderByNumber_0 : decode cX1_orderByNumber 0 = .ok (.aload_n 0, 1) := by decide +kernel
theorem dX1_orderByNumber_1 : decode cX1_orderByNumber 1 = .ok (.getfield 25, 3) := by decide +kernel
theorem dX1_orderByNumber_4 : decode cX1_orderByNumber 4 = .ok (.iconst 0, 1) := by decide +kernel
theorem dX1_orderByNumber_5 : decode cX1_orderByNumber 5 = .ok (.invokestatic 90, 3) := by decide +kernel
theorem dX1_orderByNumber_8 : decode cX1_orderByNumber 8 = .ok (.iconst 0, 1) := by decide +kernel
theorem dX1_orderByNumber_9 : decode cX1_orderByNumber 9 = .ok (.istore_n 1, 1) := by decide +kernel
theorem dX1_orderByNumber_10 : decode cX1_orderByNumber 10 = .ok (.iload_n 1, 1) := by decide +kernel
theorem dX1_orderByNumber_11 : decode cX1_orderByNumber 11 = .ok (.iconst 2, 1) := by decide +kernel
theorem dX1_orderByNumber_12 : decode cX1_orderByNumber 12 = .ok (.aload_n 0, 1) := by decide +kernel
theorem dX1_orderByNumber_13 : decode cX1_orderByNumber 13 = .ok (.getfield 15, 3) := by decide +kernel
theorem dX1_orderByNumber_16 : decode cX1_orderByNumber 16 = .ok (.imul, 1) := by decide +kernel
theorem dX1_orderByNumber_17 : decode cX1_orderByNumber 17 = .ok (.if_icmp .ge 33, 3) := by decide +kernel
theorem dX1_orderByNumber_20 : decode cX1_orderByNumber 20 = .ok (.aload_n 0, 1) := by decide +kernel
theorem dX1_orderByNumber_21 : decode cX1_orderByNumber 21 = .ok (.aload_n 0, 1) := by decide +kernel
theorem dX1_orderByNumber_22 : decode cX1_orderByNumber 22 = .ok (.getfield 21, 3) := by decide +kernel
theorem dX1_orderByNumber_25 : decode cX1_orderByNumber 25 = .ok (.iload_n 1, 1) := by decide +kernel
theorem dX1_orderByNumber_26 : decode cX1_orderByNumber 26 = .ok (.iaload, 1) := by decide +kernel
theorem dX1_orderByNumber_27 : decode cX1_orderByNumber 27 = .ok (.aload_n 0, 1) := by decide +kernel
theorem dX1_orderByNumber_28 : decode cX1_orderByNumber 28 = .ok (.getfield 25, 3) := by decide +kernel
theorem dX1_orderByNumber_31 : decode cX1_orderByNumber 31 = .ok (.aload_n 0, 1) := by decide +kernel
theorem dX1_orderByNumber_32 : decode cX1_orderByNumber 32 = .ok (.getfield 21, 3) := by decide +kernel
theorem dX1_orderByNumber_35 : decode cX1_orderByNumber 35 = .ok (.iload_n 1, 1) := by decide +kernel
theorem dX1_orderByNumber_36 : decode cX1_orderByNumber 36 = .ok (.iaload, 1) := by decide +kernel
theorem dX1_orderByNumber_37 : decode cX1_orderByNumber 37 = .ok (.iaload, 1) := by decide +kernel
theorem dX1_orderByNumber_38 : decode cX1_orderByNumber 38 = .ok (.iload_n 1, 1) := by decide +kernel
theorem dX1_orderByNumber_39 : decode cX1_orderByNumber 39 = .ok (.iconst 1, 1) := by decide +kernel
theorem dX1_orderByNumber_40 : decode cX1_orderByNumber 40 = .ok (.ishr, 1) := by decide +kernel
theorem dX1_orderByNumber_41 : decode cX1_orderByNumber 41 = .ok (.invokevirtual 54, 3) := by decide +kernel
theorem dX1_orderByNumber_44 : decode cX1_orderByNumber 44 = .ok (.iinc 1 1, 3) := by decide +kernel
theorem dX1_orderByNumber_47 : decode cX1_orderByNumber 47 = .ok (.goto (-37), 3) := by decide +kernel
theorem dX1_orderByNumber_50 : decode cX1_orderByNumber 50 = .ok (.return_, 1) := by decide +kernel
theorem dX1_reach_0 : decode cX1_reach 0 = .ok (.iconst 1, 1) := by decide +kernel
theorem dX1_reach_1 : decode cX1_reach 1 = .ok (.iload_n 1, 1) := by decide +kernel
theorem dX1_reach_2 : decode cX1_reach 2 = .ok (.ishl, 1) := by decide +kernel
theorem dX1_reach_3 : decode cX1_reach 3 = .ok (.istore_n 3, 1) := by decide +kernel
theorem dX1_reach_4 : decode cX1_reach 4 = .ok (.iconst 1, 1) := by decide +kernel
theorem dX1_reach_5 : decode cX1_reach 5 = .ok (.istore 4, 2) := by decide +kernel
theorem dX1_reach_7 : decode cX1_reach 7 = .ok (.iload 4, 2) := by decide +kernel
theorem dX1_reach_9 : decode cX1_reach 9 = .ok (.aload_n 0, 1) := by decide +kernel
theorem dX1_reach_10 : decode cX1_reach 10 = .ok (.getfield 9, 3) := by decide +kernel
theorem dX1_reach_13 : decode cX1_reach 13 = .ok (.if_icmp .ge 75, 3) := by decide +kernel
theorem dX1_reach_16 : decode cX1_reach 16 = .ok (.iload_n 3, 1) := by decide +kernel
theorem dX1_reach_17 : decode cX1_reach 17 = .ok (.istore 5, 2) := by decide +kernel
theorem dX1_reach_19 : decode cX1_reach 19 = .ok (.iconst 0, 1) := by decide +kernel
theorem dX1_reach_20 : decode cX1_reach 20 = .ok (.istore 6, 2) := by decide +kernel
theorem dX1_reach_22 : decode cX1_reach 22 = .ok (.iload 6, 2) := by decide +kernel
theorem dX1_reach_24 : decode cX1_reach 24 = .ok (.iload_n 2, 1) := by decide +kernel
theorem dX1_reach_25 : decode cX1_reach 25 = .ok (.if_icmp .ge 48, 3) := by decide +kernel
theorem dX1_reach_28 : decode cX1_reach 28 = .ok (.iconst 1, 1) := by decide +kernel
theorem dX1_reach_29 : decode cX1_reach 29 = .ok (.aload_n 0, 1) := by decide +kernel
theorem dX1_reach_30 : decode cX1_reach 30 = .ok (.getfield 21, 3) := by decide +kernel
theorem dX1_reach_33 : decode cX1_reach 33 = .ok (.iconst 2, 1) := by decide +kernel
theorem dX1_reach_34 : decode cX1_reach 34 = .ok (.iload 6, 2) := by decide +kernel
theorem dX1_reach_36 : decode cX1_reach 36 = .ok (.imul, 1) := by decide +kernel
theorem dX1_reach_37 : decode cX1_reach 37 = .ok (.iaload, 1) := by decide +kernel
theorem dX1_reach_38 : decode cX1_reach 38 = .ok (.ishl, 1) := by decide +kernel
theorem dX1_reach_39 : decode cX1_reach 39 = .ok (.iconst 1, 1) := by decide +kernel
theorem dX1_reach_40 : decode cX1_reach 40 = .ok (.aload_n 0, 1) := by decide +kernel
theorem dX1_reach_41 : decode cX1_reach 41 = .ok (.getfield 21, 3) := by decide +kernel
theorem dX1_reach_44 : decode cX1_reach 44 = .ok (.iconst 2, 1) := by decide +kernel
theorem dX1_reach_45 : decode cX1_reach 45 = .ok (.iload 6, 2) := by decide +kernel
theorem dX1_reach_47 : decode cX1_reach 47 = .ok (.imul, 1) := by decide +kernel
theorem dX1_reach_48 : decode cX1_reach 48 = .ok (.iconst 1, 1) := by decide +kernel
theorem dX1_reach_49 : decode cX1_reach 49 = .ok (.iadd, 1) := by decide +kernel
theorem dX1_reach_50 : decode cX1_reach 50 = .ok (.iaload, 1) := by decide +kernel
theorem dX1_reach_51 : decode cX1_reach 51 = .ok (.ishl, 1) := by decide +kernel
theorem dX1_reach_52 : decode cX1_reach 52 = .ok (.ior, 1) := by decide +kernel
theorem dX1_reach_53 : decode cX1_reach 53 = .ok (.istore 7, 2) := by decide +kernel
theorem dX1_reach_55 : decode cX1_reach 55 = .ok (.iload_n 3, 1) := by decide +kernel
theorem dX1_reach_56 : decode cX1_reach 56 = .ok (.iload 7, 2) := by decide +kernel
theorem dX1_reach_58 : decode cX1_reach 58 = .ok (.iand, 1) := by decide +kernel
theorem dX1_reach_59 : decode cX1_reach 59 = .ok (.ifCond .eq 8, 3) := by decide +kernel
theorem dX1_reach_62 : decode cX1_reach 62 = .ok (.iload_n 3, 1) := by decide +kernel
theorem dX1_reach_63 : decode cX1_reach 63 = .ok (.iload 7, 2) := by decide +kernel
theorem dX1_reach_65 : decode cX1_reach 65 = .ok (.ior, 1) := by decide +kernel
theorem dX1_reach_66 : decode cX1_reach 66 = .ok (.istore_n 3, 1) := by decide +kernel
theorem dX1_reach_67 : decode cX1_reach 67 = .ok (.iinc 6 1, 3) := by decide +kernel
theorem dX1_reach_70 : decode cX1_reach 70 = .ok (.goto (-48), 3) := by decide +kernel
theorem dX1_reach_73 : decode cX1_reach 73 = .ok (.iload_n 3, 1) := by decide +kernel
theorem dX1_reach_74 : decode cX1_reach 74 = .ok (.iload 5, 2) := by decide +kernel
theorem dX1_reach_76 : decode cX1_reach 76 = .ok (.if_icmp .ne 6, 3) := by decide +kernel
theorem dX1_reach_79 : decode cX1_reach 79 = .ok (.goto 9, 3) := by decide +kernel
theorem dX1_reach_82 : decode cX1_reach 82 = .ok (.iinc 4 1, 3) := by decide +kernel
theorem dX1_reach_85 : decode cX1_reach 85 = .ok (.goto (-78), 3) := by decide +kernel
theorem dX1_reach_88 : decode cX1_reach 88 = .ok (.iload_n 3, 1) := by decide +kernel
theorem dX1_reach_89 : decode cX1_reach 89 = .ok (.ireturn, 1) := by decide +kernel
theorem dX1_countParts_0 : decode cX1_countParts 0 = .ok (.iconst 0, 1) := by decide +kernel
theorem dX1_countParts_1 : decode cX1_countParts 1 = .ok (.istore_n 1, 1) := by decide +kernel
theorem dX1_countParts_2 : decode cX1_countParts 2 = .ok (.iconst 0, 1) := by decide +kernel
theorem dX1_countParts_3 : decode cX1_countParts 3 = .ok (.istore_n 2, 1) := by decide +kernel
theorem dX1_countParts_4 : decode cX1_countParts 4 = .ok (.iconst 0, 1) := by decide +kernel
theorem dX1_countParts_5 : decode cX1_countParts 5 = .ok (.istore_n 3, 1) := by decide +kernel
theorem dX1_countParts_6 : decode cX1_countParts 6 = .ok (.iload_n 3, 1) := by decide +kernel
theorem dX1_countParts_7 : decode cX1_countParts 7 = .ok (.aload_n 0, 1) := by decide +kernel
theorem dX1_countParts_8 : decode cX1_countParts 8 = .ok (.getfield 9, 3) := by decide +kernel
theorem dX1_countParts_11 : decode cX1_countParts 11 = .ok (.if_icmp .ge 32, 3) := by decide +kernel
theorem dX1_countParts_14 : decode cX1_countParts 14 = .ok (.iload_n 2, 1) := by decide +kernel
theorem dX1_countParts_15 : decode cX1_countParts 15 = .ok (.iload_n 3, 1) := by decide +kernel
theorem dX1_countParts_16 : decode cX1_countParts 16 = .ok (.ishr, 1) := by decide +kernel
theorem dX1_countParts_17 : decode cX1_countParts 17 = .ok (.iconst 1, 1) := by decide +kernel
theorem dX1_countParts_18 : decode cX1_countParts 18 = .ok (.iand, 1) := by decide +kernel
theorem dX1_countParts_19 : decode cX1_countParts 19 = .ok (.ifCond .ne 18, 3) := by decide +kernel
theorem dX1_countParts_22 : decode cX1_countParts 22 = .ok (.iload_n 2, 1) := by decide +kernel
theorem dX1_countParts_23 : decode cX1_countParts 23 = .ok (.aload_n 0, 1) := by decide +kernel
theorem dX1_countParts_24 : decode cX1_countParts 24 = .ok (.iload_n 3, 1) := by decide +kernel
theorem dX1_countParts_25 : decode cX1_countParts 25 = .ok (.aload_n 0, 1) := by decide +kernel
theorem dX1_countParts_26 : decode cX1_countParts 26 = .ok (.getfield 15, 3) := by decide +kernel
theorem dX1_countParts_29 : decode cX1_countParts 29 = .ok (.invokevirtual 96, 3) := by decide +kernel
theorem dX1_countParts_32 : decode cX1_countParts 32 = .ok (.ior, 1) := by decide +kernel
theorem dX1_countParts_33 : decode cX1_countParts 33 = .ok (.istore_n 2, 1) := by decide +kernel
theorem dX1_countParts_34 : decode cX1_countParts 34 = .ok (.iinc 1 1, 3) := by decide +kernel
theorem dX1_countParts_37 : decode cX1_countParts 37 = .ok (.iinc 3 1, 3) := by decide +kernel
theorem dX1_countParts_40 : decode cX1_countParts 40 = .ok (.goto (-34), 3) := by decide +kernel
theorem dX1_countParts_43 : decode cX1_countParts 43 = .ok (.iload_n 1, 1) := by decide +kernel
theorem dX1_countParts_44 : decode cX1_countParts 44 = .ok (.ireturn, 1) := by decide +kernel
theorem dX1_looseLines_0 : decode cX1_looseLines 0 = .ok (.iconst 0, 1) := by decide +kernel
theorem dX1_looseLines_1 : decode cX1_looseLines 1 = .ok (.istore_n 1, 1) := by decide +kernel
theorem dX1_looseLines_2 : decode cX1_looseLines 2 = .ok (.iconst 0, 1) := by decide +kernel
theorem dX1_looseLines_3 : decode cX1_looseLines 3 = .ok (.istore_n 2, 1) := by decide +kernel
theorem dX1_looseLines_4 : decode cX1_looseLines 4 = .ok (.iload_n 2, 1) := by decide +kernel
theorem dX1_looseLines_5 : decode cX1_looseLines 5 = .ok (.aload_n 0, 1) := by decide +kernel
theorem dX1_looseLines_6 : decode cX1_looseLines 6 = .ok (.getfield 15, 3) := by decide +kernel
theorem dX1_looseLines_9 : decode cX1_looseLines 9 = .ok (.if_icmp .ge 44, 3) := by decide +kernel
theorem dX1_looseLines_12 : decode cX1_looseLines 12 = .ok (.aload_n 0, 1) := by decide +kernel
theorem dX1_looseLines_13 : decode cX1_looseLines 13 = .ok (.aload_n 0, 1) := by decide +kernel
theorem dX1_looseLines_14 : decode cX1_looseLines 14 = .ok (.getfield 21, 3) := by decide +kernel
theorem dX1_looseLines_17 : decode cX1_looseLines 17 = .ok (.iconst 2, 1) := by decide +kernel
theorem dX1_looseLines_18 : decode cX1_looseLines 18 = .ok (.iload_n 2, 1) := by decide +kernel
theorem dX1_looseLines_19 : decode cX1_looseLines 19 = .ok (.imul, 1) := by decide +kernel
theorem dX1_looseLines_20 : decode cX1_looseLines 20 = .ok (.iaload, 1) := by decide +kernel
theorem dX1_looseLines_21 : decode cX1_looseLines 21 = .ok (.iload_n 2, 1) := by decide +kernel
theorem dX1_looseLines_22 : decode cX1_looseLines 22 = .ok (.invokevirtual 96, 3) := by decide +kernel
theorem dX1_looseLines_25 : decode cX1_looseLines 25 = .ok (.aload_n 0, 1) := by decide +kernel
theorem dX1_looseLines_26 : decode cX1_looseLines 26 = .ok (.getfield 21, 3) := by decide +kernel
theorem dX1_looseLines_29 : decode cX1_looseLines 29 = .ok (.iconst 2, 1) := by decide +kernel
theorem dX1_looseLines_30 : decode cX1_looseLines 30 = .ok (.iload_n 2, 1) := by decide +kernel
theorem dX1_looseLines_31 : decode cX1_looseLines 31 = .ok (.imul, 1) := by decide +kernel
theorem dX1_looseLines_32 : decode cX1_looseLines 32 = .ok (.iconst 1, 1) := by decide +kernel
theorem dX1_looseLines_33 : decode cX1_looseLines 33 = .ok (.iadd, 1) := by decide +kernel
theorem dX1_looseLines_34 : decode cX1_looseLines 34 = .ok (.iaload, 1) := by decide +kernel
theorem dX1_looseLines_35 : decode cX1_looseLines 35 = .ok (.ishr, 1) := by decide +kernel
theorem dX1_looseLines_36 : decode cX1_looseLines 36 = .ok (.iconst 1, 1) := by decide +kernel
theorem dX1_looseLines_37 : decode cX1_looseLines 37 = .ok (.iand, 1) := by decide +kernel
theorem dX1_looseLines_38 : decode cX1_looseLines 38 = .ok (.ifCond .eq 9, 3) := by decide +kernel
theorem dX1_looseLines_41 : decode cX1_looseLines 41 = .ok (.iload_n 1, 1) := by decide +kernel
theorem dX1_looseLines_42 : decode cX1_looseLines 42 = .ok (.iconst 1, 1) := by decide +kernel
theorem dX1_looseLines_43 : decode cX1_looseLines 43 = .ok (.iload_n 2, 1) := by decide +kernel
theorem dX1_looseLines_44 : decode cX1_looseLines 44 = .ok (.ishl, 1) := by decide +kernel
theorem dX1_looseLines_45 : decode cX1_looseLines 45 = .ok (.ior, 1) := by decide +kernel
theorem dX1_looseLines_46 : decode cX1_looseLines 46 = .ok (.istore_n 1, 1) := by decide +kernel
theorem dX1_looseLines_47 : decode cX1_looseLines 47 = .ok (.iinc 2 1, 3) := by decide +kernel
theorem dX1_looseLines_50 : decode cX1_looseLines 50 = .ok (.goto (-46), 3) := by decide +kernel
theorem dX1_looseLines_53 : decode cX1_looseLines 53 = .ok (.iload_n 1, 1) := by decide +kernel
theorem dX1_looseLines_54 : decode cX1_looseLines 54 = .ok (.ireturn, 1) := by decide +kernel
theorem dX1_turnsRight_0 : decode cX1_turnsRight 0 = .ok (.iconst 0, 1) := by decide +kernel
theorem dX1_turnsRight_1 : decode cX1_turnsRight 1 = .ok (.istore_n 1, 1) := by decide +kernel
theorem dX1_turnsRight_2 : decode cX1_turnsRight 2 = .ok (.iconst 0, 1) := by decide +kernel
theorem dX1_turnsRight_3 : decode cX1_turnsRight 3 = .ok (.istore_n 2, 1) := by decide +kernel
theorem dX1_turnsRight_4 : decode cX1_turnsRight 4 = .ok (.iconst 0, 1) := by decide +kernel
theorem dX1_turnsRight_5 : decode cX1_turnsRight 5 = .ok (.istore_n 3, 1) := by decide +kernel
theorem dX1_turnsRight_6 : decode cX1_turnsRight 6 = .ok (.iload_n 3, 1) := by decide +kernel
theorem dX1_turnsRight_7 : decode cX1_turnsRight 7 = .ok (.aload_n 0, 1) := by decide +kernel
theorem dX1_turnsRight_8 : decode cX1_turnsRight 8 = .ok (.getfield 9, 3) := by decide +kernel
theorem dX1_turnsRight_11 : decode cX1_turnsRight 11 = .ok (.if_icmp .ge 113, 3) := by decide +kernel
theorem dX1_turnsRight_14 : decode cX1_turnsRight 14 = .ok (.iload_n 1, 1) := by decide +kernel
theorem dX1_turnsRight_15 : decode cX1_turnsRight 15 = .ok (.iload_n 3, 1) := by decide +kernel
theorem dX1_turnsRight_16 : decode cX1_turnsRight 16 = .ok (.ishr, 1) := by decide +kernel
theorem dX1_turnsRight_17 : decode cX1_turnsRight 17 = .ok (.iconst 1, 1) := by decide +kernel
theorem dX1_turnsRight_18 : decode cX1_turnsRight 18 = .ok (.iand, 1) := by decide +kernel
theorem dX1_turnsRight_19 : decode cX1_turnsRight 19 = .ok (.ifCond .eq 6, 3) := by decide +kernel
theorem dX1_turnsRight_22 : decode cX1_turnsRight 22 = .ok (.goto 96, 3) := by decide +kernel
theorem dX1_turnsRight_25 : decode cX1_turnsRight 25 = .ok (.iload_n 1, 1) := by decide +kernel
theorem dX1_turnsRight_26 : decode cX1_turnsRight 26 = .ok (.iconst 1, 1) := by decide +kernel
theorem dX1_turnsRight_27 : decode cX1_turnsRight 27 = .ok (.iload_n 3, 1) := by decide +kernel
theorem dX1_turnsRight_28 : decode cX1_turnsRight 28 = .ok (.ishl, 1) := by decide +kernel
theorem dX1_turnsRight_29 : decode cX1_turnsRight 29 = .ok (.ior, 1) := by decide +kernel
theorem dX1_turnsRight_30 : decode cX1_turnsRight 30 = .ok (.istore_n 1, 1) := by decide +kernel
theorem dX1_turnsRight_31 : decode cX1_turnsRight 31 = .ok (.iconst 0, 1) := by decide +kernel
theorem dX1_turnsRight_32 : decode cX1_turnsRight 32 = .ok (.istore 4, 2) := by decide +kernel
theorem dX1_turnsRight_34 : decode cX1_turnsRight 34 = .ok (.iload 4, 2) := by decide +kernel
theorem dX1_turnsRight_36 : decode cX1_turnsRight 36 = .ok (.aload_n 0, 1) := by decide +kernel
theorem dX1_turnsRight_37 : decode cX1_turnsRight 37 = .ok (.getfield 9, 3) := by decide +kernel
theorem dX1_turnsRight_40 : decode cX1_turnsRight 40 = .ok (.aload_n 0, 1) := by decide +kernel
theorem dX1_turnsRight_41 : decode cX1_turnsRight 41 = .ok (.getfield 15, 3) := by decide +kernel
theorem dX1_turnsRight_44 : decode cX1_turnsRight 44 = .ok (.imul, 1) := by decide +kernel
theorem dX1_turnsRight_45 : decode cX1_turnsRight 45 = .ok (.if_icmp .ge 73, 3) := by decide +kernel
theorem dX1_turnsRight_48 : decode cX1_turnsRight 48 = .ok (.aload_n 0, 1) := by decide +kernel
theorem dX1_turnsRight_49 : decode cX1_turnsRight 49 = .ok (.iload_n 1, 1) := by decide +kernel
theorem dX1_turnsRight_50 : decode cX1_turnsRight 50 = .ok (.invokevirtual 99, 3) := by decide +kernel
theorem dX1_turnsRight_53 : decode cX1_turnsRight 53 = .ok (.istore 5, 2) := by decide +kernel
theorem dX1_turnsRight_55 : decode cX1_turnsRight 55 = .ok (.iload 5, 2) := by decide +kernel
theorem dX1_turnsRight_57 : decode cX1_turnsRight 57 = .ok (.iconst (-1), 1) := by decide +kernel
theorem dX1_turnsRight_58 : decode cX1_turnsRight 58 = .ok (.if_icmp .ne 6, 3) := by decide +kernel
theorem dX1_turnsRight_61 : decode cX1_turnsRight 61 = .ok (.goto 57, 3) := by decide +kernel
theorem dX1_turnsRight_64 : decode cX1_turnsRight 64 = .ok (.iload_n 1, 1) := by decide +kernel
theorem dX1_turnsRight_65 : decode cX1_turnsRight 65 = .ok (.iconst 1, 1) := by decide +kernel
theorem dX1_turnsRight_66 : decode cX1_turnsRight 66 = .ok (.aload_n 0, 1) := by decide +kernel
theorem dX1_turnsRight_67 : decode cX1_turnsRight 67 = .ok (.getfield 21, 3) := by decide +kernel
theorem dX1_turnsRight_70 : decode cX1_turnsRight 70 = .ok (.iload 5, 2) := by decide +kernel
theorem dX1_turnsRight_72 : decode cX1_turnsRight 72 = .ok (.iconst 1, 1) := by decide +kernel
theorem dX1_turnsRight_73 : decode cX1_turnsRight 73 = .ok (.ixor, 1) := by decide +kernel
theorem dX1_turnsRight_74 : decode cX1_turnsRight 74 = .ok (.iaload, 1) := by decide +kernel
theorem dX1_turnsRight_75 : decode cX1_turnsRight 75 = .ok (.ishl, 1) := by decide +kernel
theorem dX1_turnsRight_76 : decode cX1_turnsRight 76 = .ok (.ior, 1) := by decide +kernel
theorem dX1_turnsRight_77 : decode cX1_turnsRight 77 = .ok (.istore_n 1, 1) := by decide +kernel
theorem dX1_turnsRight_78 : decode cX1_turnsRight 78 = .ok (.iload_n 2, 1) := by decide +kernel
theorem dX1_turnsRight_79 : decode cX1_turnsRight 79 = .ok (.iload_n 2, 1) := by decide +kernel
theorem dX1_turnsRight_80 : decode cX1_turnsRight 80 = .ok (.aload_n 0, 1) := by decide +kernel
theorem dX1_turnsRight_81 : decode cX1_turnsRight 81 = .ok (.getfield 21, 3) := by decide +kernel
theorem dX1_turnsRight_84 : decode cX1_turnsRight 84 = .ok (.iload 5, 2) := by decide +kernel
theorem dX1_turnsRight_86 : decode cX1_turnsRight 86 = .ok (.iaload, 1) := by decide +kernel
theorem dX1_turnsRight_87 : decode cX1_turnsRight 87 = .ok (.ishr, 1) := by decide +kernel
theorem dX1_turnsRight_88 : decode cX1_turnsRight 88 = .ok (.aload_n 0, 1) := by decide +kernel
theorem dX1_turnsRight_89 : decode cX1_turnsRight 89 = .ok (.getfield 18, 3) := by decide +kernel
theorem dX1_turnsRight_92 : decode cX1_turnsRight 92 = .ok (.iload 5, 2) := by decide +kernel
theorem dX1_turnsRight_94 : decode cX1_turnsRight 94 = .ok (.iconst 1, 1) := by decide +kernel
theorem dX1_turnsRight_95 : decode cX1_turnsRight 95 = .ok (.ishr, 1) := by decide +kernel
theorem dX1_turnsRight_96 : decode cX1_turnsRight 96 = .ok (.ishr, 1) := by decide +kernel
theorem dX1_turnsRight_97 : decode cX1_turnsRight 97 = .ok (.ixor, 1) := by decide +kernel
theorem dX1_turnsRight_98 : decode cX1_turnsRight 98 = .ok (.iconst 1, 1) := by decide +kernel
theorem dX1_turnsRight_99 : decode cX1_turnsRight 99 = .ok (.iand, 1) := by decide +kernel
theorem dX1_turnsRight_100 : decode cX1_turnsRight 100 = .ok (.aload_n 0, 1) := by decide +kernel
theorem dX1_turnsRight_101 : decode cX1_turnsRight 101 = .ok (.getfield 21, 3) := by decide +kernel
theorem dX1_turnsRight_104 : decode cX1_turnsRight 104 = .ok (.iload 5, 2) := by decide +kernel
theorem dX1_turnsRight_106 : decode cX1_turnsRight 106 = .ok (.iconst 1, 1) := by decide +kernel
theorem dX1_turnsRight_107 : decode cX1_turnsRight 107 = .ok (.ixor, 1) := by decide +kernel
theorem dX1_turnsRight_108 : decode cX1_turnsRight 108 = .ok (.iaload, 1) := by decide +kernel
theorem dX1_turnsRight_109 : decode cX1_turnsRight 109 = .ok (.ishl, 1) := by decide +kernel
theorem dX1_turnsRight_110 : decode cX1_turnsRight 110 = .ok (.ior, 1) := by decide +kernel
theorem dX1_turnsRight_111 : decode cX1_turnsRight 111 = .ok (.istore_n 2, 1) := by decide +kernel
theorem dX1_turnsRight_112 : decode cX1_turnsRight 112 = .ok (.iinc 4 1, 3) := by decide +kernel
theorem dX1_turnsRight_115 : decode cX1_turnsRight 115 = .ok (.goto (-81), 3) := by decide +kernel
theorem dX1_turnsRight_118 : decode cX1_turnsRight 118 = .ok (.iinc 3 1, 3) := by decide +kernel
theorem dX1_turnsRight_121 : decode cX1_turnsRight 121 = .ok (.goto (-115), 3) := by decide +kernel
theorem dX1_turnsRight_124 : decode cX1_turnsRight 124 = .ok (.iconst 0, 1) := by decide +kernel
theorem dX1_turnsRight_125 : decode cX1_turnsRight 125 = .ok (.istore_n 3, 1) := by decide +kernel
theorem dX1_turnsRight_126 : decode cX1_turnsRight 126 = .ok (.iload_n 3, 1) := by decide +kernel
theorem dX1_turnsRight_127 : decode cX1_turnsRight 127 = .ok (.aload_n 0, 1) := by decide +kernel
theorem dX1_turnsRight_128 : decode cX1_turnsRight 128 = .ok (.getfield 15, 3) := by decide +kernel
theorem dX1_turnsRight_131 : decode cX1_turnsRight 131 = .ok (.if_icmp .ge 46, 3) := by decide +kernel
theorem dX1_turnsRight_134 : decode cX1_turnsRight 134 = .ok (.iload_n 2, 1) := by decide +kernel
theorem dX1_turnsRight_135 : decode cX1_turnsRight 135 = .ok (.aload_n 0, 1) := by decide +kernel
theorem dX1_turnsRight_136 : decode cX1_turnsRight 136 = .ok (.getfield 21, 3) := by decide +kernel
theorem dX1_turnsRight_139 : decode cX1_turnsRight 139 = .ok (.iconst 2, 1) := by decide +kernel
theorem dX1_turnsRight_140 : decode cX1_turnsRight 140 = .ok (.iload_n 3, 1) := by decide +kernel
theorem dX1_turnsRight_141 : decode cX1_turnsRight 141 = .ok (.imul, 1) := by decide +kernel
theorem dX1_turnsRight_142 : decode cX1_turnsRight 142 = .ok (.iaload, 1) := by decide +kernel
theorem dX1_turnsRight_143 : decode cX1_turnsRight 143 = .ok (.ishr, 1) := by decide +kernel
theorem dX1_turnsRight_144 : decode cX1_turnsRight 144 = .ok (.iload_n 2, 1) := by decide +kernel
theorem dX1_turnsRight_145 : decode cX1_turnsRight 145 = .ok (.aload_n 0, 1) := by decide +kernel
theorem dX1_turnsRight_146 : decode cX1_turnsRight 146 = .ok (.getfield 21, 3) := by decide +kernel
theorem dX1_turnsRight_149 : decode cX1_turnsRight 149 = .ok (.iconst 2, 1) := by decide +kernel
theorem dX1_turnsRight_150 : decode cX1_turnsRight 150 = .ok (.iload_n 3, 1) := by decide +kernel
theorem dX1_turnsRight_151 : decode cX1_turnsRight 151 = .ok (.imul, 1) := by decide +kernel
theorem dX1_turnsRight_152 : decode cX1_turnsRight 152 = .ok (.iconst 1, 1) := by decide +kernel
theorem dX1_turnsRight_153 : decode cX1_turnsRight 153 = .ok (.iadd, 1) := by decide +kernel
theorem dX1_turnsRight_154 : decode cX1_turnsRight 154 = .ok (.iaload, 1) := by decide +kernel
theorem dX1_turnsRight_155 : decode cX1_turnsRight 155 = .ok (.ishr, 1) := by decide +kernel
theorem dX1_turnsRight_156 : decode cX1_turnsRight 156 = .ok (.ixor, 1) := by decide +kernel
theorem dX1_turnsRight_157 : decode cX1_turnsRight 157 = .ok (.aload_n 0, 1) := by decide +kernel
theorem dX1_turnsRight_158 : decode cX1_turnsRight 158 = .ok (.getfield 18, 3) := by decide +kernel
theorem dX1_turnsRight_161 : decode cX1_turnsRight 161 = .ok (.iload_n 3, 1) := by decide +kernel
theorem dX1_turnsRight_162 : decode cX1_turnsRight 162 = .ok (.ishr, 1) := by decide +kernel
theorem dX1_turnsRight_163 : decode cX1_turnsRight 163 = .ok (.ixor, 1) := by decide +kernel
theorem dX1_turnsRight_164 : decode cX1_turnsRight 164 = .ok (.iconst 1, 1) := by decide +kernel
theorem dX1_turnsRight_165 : decode cX1_turnsRight 165 = .ok (.iand, 1) := by decide +kernel
theorem dX1_turnsRight_166 : decode cX1_turnsRight 166 = .ok (.ifCond .eq 5, 3) := by decide +kernel
theorem dX1_turnsRight_169 : decode cX1_turnsRight 169 = .ok (.iconst 0, 1) := by decide +kernel
theorem dX1_turnsRight_170 : decode cX1_turnsRight 170 = .ok (.ireturn, 1) := by decide +kernel
theorem dX1_turnsRight_171 : decode cX1_turnsRight 171 = .ok (.iinc 3 1, 3) := by decide +kernel
theorem dX1_turnsRight_174 : decode cX1_turnsRight 174 = .ok (.goto (-48), 3) := by decide +kernel
theorem dX1_turnsRight_177 : decode cX1_turnsRight 177 = .ok (.iconst 1, 1) := by decide +kernel
theorem dX1_turnsRight_178 : decode cX1_turnsRight 178 = .ok (.ireturn, 1) := by decide +kernel
theorem dX1_armOutOf_0 : decode cX1_armOutOf 0 = .ok (.iconst 0, 1) := by decide +kernel
theorem dX1_armOutOf_1 : decode cX1_armOutOf 1 = .ok (.istore_n 2, 1) := by decide +kernel
theorem dX1_armOutOf_2 : decode cX1_armOutOf 2 = .ok (.iload_n 2, 1) := by decide +kernel
theorem dX1_armOutOf_3 : decode cX1_armOutOf 3 = .ok (.iconst 2, 1) := by decide +kernel
theorem dX1_armOutOf_4 : decode cX1_armOutOf 4 = .ok (.aload_n 0, 1) := by decide +kernel
theorem dX1_armOutOf_5 : decode cX1_armOutOf 5 = .ok (.getfield 15, 3) := by decide +kernel
theorem dX1_armOutOf_8 : decode cX1_armOutOf 8 = .ok (.imul, 1) := by decide +kernel
theorem dX1_armOutOf_9 : decode cX1_armOutOf 9 = .ok (.if_icmp .ge 39, 3) := by decide +kernel
theorem dX1_armOutOf_12 : decode cX1_armOutOf 12 = .ok (.iload_n 1, 1) := by decide +kernel
theorem dX1_armOutOf_13 : decode cX1_armOutOf 13 = .ok (.aload_n 0, 1) := by decide +kernel
theorem dX1_armOutOf_14 : decode cX1_armOutOf 14 = .ok (.getfield 21, 3) := by decide +kernel
theorem dX1_armOutOf_17 : decode cX1_armOutOf 17 = .ok (.iload_n 2, 1) := by decide +kernel
theorem dX1_armOutOf_18 : decode cX1_armOutOf 18 = .ok (.iaload, 1) := by decide +kernel
theorem dX1_armOutOf_19 : decode cX1_armOutOf 19 = .ok (.ishr, 1) := by decide +kernel
theorem dX1_armOutOf_20 : decode cX1_armOutOf 20 = .ok (.iconst 1, 1) := by decide +kernel
theorem dX1_armOutOf_21 : decode cX1_armOutOf 21 = .ok (.iand, 1) := by decide +kernel
theorem dX1_armOutOf_22 : decode cX1_armOutOf 22 = .ok (.ifCond .eq 20, 3) := by decide +kernel
theorem dX1_armOutOf_25 : decode cX1_armOutOf 25 = .ok (.iload_n 1, 1) := by decide +kernel
theorem dX1_armOutOf_26 : decode cX1_armOutOf 26 = .ok (.aload_n 0, 1) := by decide +kernel
theorem dX1_armOutOf_27 : decode cX1_armOutOf 27 = .ok (.getfield 21, 3) := by decide +kernel
theorem dX1_armOutOf_30 : decode cX1_armOutOf 30 = .ok (.iload_n 2, 1) := by decide +kernel
theorem dX1_armOutOf_31 : decode cX1_armOutOf 31 = .ok (.iconst 1, 1) := by decide +kernel
theorem dX1_armOutOf_32 : decode cX1_armOutOf 32 = .ok (.ixor, 1) := by decide +kernel
theorem dX1_armOutOf_33 : decode cX1_armOutOf 33 = .ok (.iaload, 1) := by decide +kernel
theorem dX1_armOutOf_34 : decode cX1_armOutOf 34 = .ok (.ishr, 1) := by decide +kernel
theorem dX1_armOutOf_35 : decode cX1_armOutOf 35 = .ok (.iconst 1, 1) := by decide +kernel
theorem dX1_armOutOf_36 : decode cX1_armOutOf 36 = .ok (.iand, 1) := by decide +kernel
theorem dX1_armOutOf_37 : decode cX1_armOutOf 37 = .ok (.ifCond .ne 5, 3) := by decide +kernel
theorem dX1_armOutOf_40 : decode cX1_armOutOf 40 = .ok (.iload_n 2, 1) := by decide +kernel
theorem dX1_armOutOf_41 : decode cX1_armOutOf 41 = .ok (.ireturn, 1) := by decide +kernel
theorem dX1_armOutOf_42 : decode cX1_armOutOf 42 = .ok (.iinc 2 1, 3) := by decide +kernel
theorem dX1_armOutOf_45 : decode cX1_armOutOf 45 = .ok (.goto (-43), 3) := by decide +kernel
theorem dX1_armOutOf_48 : decode cX1_armOutOf 48 = .ok (.iconst (-1), 1) := by decide +kernel
theorem dX1_armOutOf_49 : decode cX1_armOutOf 49 = .ok (.ireturn, 1) := by decide +kernel
theorem dX1_networkKey_0 : decode cX1_networkKey 0 = .ok (.aload_n 0, 1) := by decide +kernel
theorem dX1_networkKey_1 : decode cX1_networkKey 1 = .ok (.getfield 9, 3) := by decide +kernel
theorem dX1_networkKey_4 : decode cX1_networkKey 4 = .ok (.i2l, 1) := by decide +kernel
theorem dX1_networkKey_5 : decode cX1_networkKey 5 = .ok (.lstore_n 1, 1) := by decide +kernel
theorem dX1_networkKey_6 : decode cX1_networkKey 6 = .ok (.iconst 0, 1) := by decide +kernel
theorem dX1_networkKey_7 : decode cX1_networkKey 7 = .ok (.istore_n 3, 1) := by decide +kernel
theorem dX1_networkKey_8 : decode cX1_networkKey 8 = .ok (.iload_n 3, 1) := by decide +kernel
theorem dX1_networkKey_9 : decode cX1_networkKey 9 = .ok (.bipush 20, 2) := by decide +kernel
theorem dX1_networkKey_11 : decode cX1_networkKey 11 = .ok (.if_icmp .ge 36, 3) := by decide +kernel
theorem dX1_networkKey_14 : decode cX1_networkKey 14 = .ok (.lload_n 1, 1) := by decide +kernel
theorem dX1_networkKey_15 : decode cX1_networkKey 15 = .ok (.iconst 3, 1) := by decide +kernel
theorem dX1_networkKey_16 : decode cX1_networkKey 16 = .ok (.lshl, 1) := by decide +kernel
theorem dX1_networkKey_17 : decode cX1_networkKey 17 = .ok (.iload_n 3, 1) := by decide +kernel
theorem dX1_networkKey_18 : decode cX1_networkKey 18 = .ok (.iconst 2, 1) := by decide +kernel
theorem dX1_networkKey_19 : decode cX1_networkKey 19 = .ok (.aload_n 0, 1) := by decide +kernel
theorem dX1_networkKey_20 : decode cX1_networkKey 20 = .ok (.getfield 15, 3) := by decide +kernel
theorem dX1_networkKey_23 : decode cX1_networkKey 23 = .ok (.imul, 1) := by decide +kernel
theorem dX1_networkKey_24 : decode cX1_networkKey 24 = .ok (.if_icmp .ge 12, 3) := by decide +kernel
theorem dX1_networkKey_27 : decode cX1_networkKey 27 = .ok (.aload_n 0, 1) := by decide +kernel
theorem dX1_networkKey_28 : decode cX1_networkKey 28 = .ok (.getfield 21, 3) := by decide +kernel
theorem dX1_networkKey_31 : decode cX1_networkKey 31 = .ok (.iload_n 3, 1) := by decide +kernel
theorem dX1_networkKey_32 : decode cX1_networkKey 32 = .ok (.iaload, 1) := by decide +kernel
theorem dX1_networkKey_33 : decode cX1_networkKey 33 = .ok (.goto 5, 3) := by decide +kernel
theorem dX1_networkKey_36 : decode cX1_networkKey 36 = .ok (.bipush 7, 2) := by decide +kernel
theorem dX1_networkKey_38 : decode cX1_networkKey 38 = .ok (.i2l, 1) := by decide +kernel
theorem dX1_networkKey_39 : decode cX1_networkKey 39 = .ok (.lor, 1) := by decide +kernel
theorem dX1_networkKey_40 : decode cX1_networkKey 40 = .ok (.lstore_n 1, 1) := by decide +kernel
theorem dX1_networkKey_41 : decode cX1_networkKey 41 = .ok (.iinc 3 1, 3) := by decide +kernel
theorem dX1_networkKey_44 : decode cX1_networkKey 44 = .ok (.goto (-36), 3) := by decide +kernel
theorem dX1_networkKey_47 : decode cX1_networkKey 47 = .ok (.lload_n 1, 1) := by decide +kernel
theorem dX1_networkKey_48 : decode cX1_networkKey 48 = .ok (.lreturn, 1) := by decide +kernel
theorem dX2_init_0 : decode cX2_init 0 = .ok (.aload_n 0, 1) := by decide +kernel
theorem dX2_init_1 : decode cX2_init 1 = .ok (.invokespecial 3, 3) := by decide +kernel
theorem dX2_init_4 : decode cX2_init 4 = .ok (.aload_n 0, 1) := by decide +kernel
theorem dX2_init_5 : decode cX2_init 5 = .ok (.new 9, 3) := by decide +kernel
theorem dX2_init_8 : decode cX2_init 8 = .ok (.dup, 1) := by decide +kernel
theorem dX2_init_9 : decode cX2_init 9 = .ok (.invokespecial 11, 3) := by decide +kernel
theorem dX2_init_12 : decode cX2_init 12 = .ok (.putfield 12, 3) := by decide +kernel
theorem dX2_init_15 : decode cX2_init 15 = .ok (.aload_n 0, 1) := by decide +kernel
theorem dX2_init_16 : decode cX2_init 16 = .ok (.new 9, 3) := by decide +kernel
theorem dX2_init_19 : decode cX2_init 19 = .ok (.dup, 1) := by decide +kernel
theorem dX2_init_20 : decode cX2_init 20 = .ok (.invokespecial 11, 3) := by decide +kernel
theorem dX2_init_23 : decode cX2_init 23 = .ok (.putfield 18, 3) := by decide +kernel
theorem dX2_init_26 : decode cX2_init 26 = .ok (.aload_n 0, 1) := by decide +kernel
theorem dX2_init_27 : decode cX2_init 27 = .ok (.bipush 40, 2) := by decide +kernel
theorem dX2_init_29 : decode cX2_init 29 = .ok (.newarray .int, 2) := by decide +kernel
theorem dX2_init_31 : decode cX2_init 31 = .ok (.putfield 21, 3) := by decide +kernel
theorem dX2_init_34 : decode cX2_init 34 = .ok (.aload_n 0, 1) := by decide +kernel
theorem dX2_init_35 : decode cX2_init 35 = .ok (.bipush 40, 2) := by decide +kernel
theorem dX2_init_37 : decode cX2_init 37 = .ok (.newarray .int, 2) := by decide +kernel
theorem dX2_init_39 : decode cX2_init 39 = .ok (.putfield 25, 3) := by decide +kernel
theorem dX2_init_42 : decode cX2_init 42 = .ok (.aload_n 0, 1) := by decide +kernel
theorem dX2_init_43 : decode cX2_init 43 = .ok (.iconst 0, 1) := by decide +kernel
theorem dX2_init_44 : decode cX2_init 44 = .ok (.putfield 28, 3) := by decide +kernel
theorem dX2_init_47 : decode cX2_init 47 = .ok (.return_, 1) := by decide +kernel
theorem dX2_waysBetween_0 : decode cX2_waysBetween 0 = .ok (.aload_n 1, 1) := by decide +kernel
theorem dX2_waysBetween_1 : decode cX2_waysBetween 1 = .ok (.invokestatic 32, 3) := by decide +kernel
theorem dX2_waysBetween_4 : decode cX2_waysBetween 4 = .ok (.ifCond .eq 10, 3) := by decide +kernel
theorem dX2_waysBetween_7 : decode cX2_waysBetween 7 = .ok (.aload_n 2, 1) := by decide +kernel
theorem dX2_waysBetween_8 : decode cX2_waysBetween 8 = .ok (.invokestatic 32, 3) := by decide +kernel
theorem dX2_waysBetween_11 : decode cX2_waysBetween 11 = .ok (.ifCond .ne 6, 3) := by decide +kernel
theorem dX2_waysBetween_14 : decode cX2_waysBetween 14 = .ok (.bipush (-2), 2) := by decide +kernel
theorem dX2_waysBetween_16 : decode cX2_waysBetween 16 = .ok (.ireturn, 1) := by decide +kernel
theorem dX2_waysBetween_17 : decode cX2_waysBetween 17 = .ok (.aload_n 1, 1) := by decide +kernel
theorem dX2_waysBetween_18 : decode cX2_waysBetween 18 = .ok (.getfield 36, 3) := by decide +kernel
theorem dX2_waysBetween_21 : decode cX2_waysBetween 21 = .ok (.aload_n 2, 1) := by decide +kernel
theorem dX2_waysBetween_22 : decode cX2_waysBetween 22 = .ok (.getfield 36, 3) := by decide +kernel
theorem dX2_waysBetween_25 : decode cX2_waysBetween 25 = .ok (.if_icmp .eq 5, 3) := by decide +kernel
theorem dX2_waysBetween_28 : decode cX2_waysBetween 28 = .ok (.iconst 0, 1) := by decide +kernel
theorem dX2_waysBetween_29 : decode cX2_waysBetween 29 = .ok (.ireturn, 1) := by decide +kernel
theorem dX2_waysBetween_30 : decode cX2_waysBetween 30 = .ok (.aload_n 0, 1) := by decide +kernel
theorem dX2_waysBetween_31 : decode cX2_waysBetween 31 = .ok (.getfield 12, 3) := by decide +kernel
theorem dX2_waysBetween_34 : decode cX2_waysBetween 34 = .ok (.aload_n 1, 1) := by decide +kernel
theorem dX2_waysBetween_35 : decode cX2_waysBetween 35 = .ok (.invokevirtual 41, 3) := by decide +kernel
theorem dX2_waysBetween_38 : decode cX2_waysBetween 38 = .ok (.aload_n 0, 1) := by decide +kernel
theorem dX2_waysBetween_39 : decode cX2_waysBetween 39 = .ok (.getfield 18, 3) := by decide +kernel
theorem dX2_waysBetween_42 : decode cX2_waysBetween 42 = .ok (.aload_n 2, 1) := by decide +kernel
theorem dX2_waysBetween_43 : decode cX2_waysBetween 43 = .ok (.invokevirtual 41, 3) := by decide +kernel
theorem dX2_waysBetween_46 : decode cX2_waysBetween 46 = .ok (.iconst 0, 1) := by decide +kernel
theorem dX2_waysBetween_47 : decode cX2_waysBetween 47 = .ok (.istore_n 3, 1) := by decide +kernel
theorem dX2_waysBetween_48 : decode cX2_waysBetween 48 = .ok (.iconst 0, 1) := by decide +kernel
theorem dX2_waysBetween_49 : decode cX2_waysBetween 49 = .ok (.istore 4, 2) := by decide +kernel
theorem dX2_waysBetween_51 : decode cX2_waysBetween 51 = .ok (.iload 4, 2) := by decide +kernel
theorem dX2_waysBetween_53 : decode cX2_waysBetween 53 = .ok (.iconst 2, 1) := by decide +kernel
theorem dX2_waysBetween_54 : decode cX2_waysBetween 54 = .ok (.aload_n 0, 1) := by decide +kernel
theorem dX2_waysBetween_55 : decode cX2_waysBetween 55 = .ok (.getfield 18, 3) := by decide +kernel
theorem dX2_waysBetween_58 : decode cX2_waysBetween 58 = .ok (.getfield 45, 3) := by decide +kernel
theorem dX2_waysBetween_61 : decode cX2_waysBetween 61 = .ok (.imul, 1) := by decide +kernel
theorem dX2_waysBetween_62 : decode cX2_waysBetween 62 = .ok (.if_icmp .ge 21, 3) := by decide +kernel
theorem dX2_waysBetween_65 : decode cX2_waysBetween 65 = .ok (.aload_n 0, 1) := by decide +kernel
theorem dX2_waysBetween_66 : decode cX2_waysBetween 66 = .ok (.iload 4, 2) := by decide +kernel
theorem dX2_waysBetween_68 : decode cX2_waysBetween 68 = .ok (.invokevirtual 48, 3) := by decide +kernel
theorem dX2_waysBetween_71 : decode cX2_waysBetween 71 = .ok (.ifCond .eq 6, 3) := by decide +kernel
theorem dX2_waysBetween_74 : decode cX2_waysBetween 74 = .ok (.iinc 3 1, 3) := by decide +kernel
theorem dX2_waysBetween_77 : decode cX2_waysBetween 77 = .ok (.iinc 4 1, 3) := by decide +kernel
theorem dX2_waysBetween_80 : decode cX2_waysBetween 80 = .ok (.goto (-29), 3) := by decide +kernel
theorem dX2_waysBetween_83 : decode cX2_waysBetween 83 = .ok (.iload_n 3, 1) := by decide +kernel
theorem dX2_waysBetween_84 : decode cX2_waysBetween 84 = .ok (.ireturn, 1) := by decide +kernel
theorem dX2_isWhole_0 : decode cX2_isWhole 0 = .ok (.aload_n 0, 1) := by decide +kernel
theorem dX2_isWhole_1 : decode cX2_isWhole 1 = .ok (.getfield 36, 3) := by decide +kernel
theorem dX2_isWhole_4 : decode cX2_isWhole 4 = .ok (.ifCond .le 15, 3) := by decide +kernel
theorem dX2_isWhole_7 : decode cX2_isWhole 7 = .ok (.aload_n 0, 1) := by decide +kernel
theorem dX2_isWhole_8 : decode cX2_isWhole 8 = .ok (.invokevirtual 52, 3) := by decide +kernel
theorem dX2_isWhole_11 : decode cX2_isWhole 11 = .ok (.iconst 1, 1) := by decide +kernel
theorem dX2_isWhole_12 : decode cX2_isWhole 12 = .ok (.if_icmp .ne 7, 3) := by decide +kernel
theorem dX2_isWhole_15 : decode cX2_isWhole 15 = .ok (.iconst 1, 1) := by decide +kernel
theorem dX2_isWhole_16 : decode cX2_isWhole 16 = .ok (.goto 4, 3) := by decide +kernel
theorem dX2_isWhole_19 : decode cX2_isWhole 19 = .ok (.iconst 0, 1) := by decide +kernel
theorem dX2_isWhole_20 : decode cX2_isWhole 20 = .ok (.ireturn, 1) := by decide +kernel
theorem dX2_fits_0 : decode cX2_fits 0 = .ok (.aload_n 0, 1) := by decide +kernel
theorem dX2_fits_1 : decode cX2_fits 1 = .ok (.getfield 21, 3) := by decide +kernel
theorem dX2_fits_4 : decode cX2_fits 4 = .ok (.iconst (-1), 1) := by decide +kernel
theorem dX2_fits_5 : decode cX2_fits 5 = .ok (.invokestatic 56, 3) := by decide +kernel
theorem dX2_fits_8 : decode cX2_fits 8 = .ok (.aload_n 0, 1) := by decide +kernel
theorem dX2_fits_9 : decode cX2_fits 9 = .ok (.iconst 0, 1) := by decide +kernel
theorem dX2_fits_10 : decode cX2_fits 10 = .ok (.putfield 28, 3) := by decide +kernel
theorem dX2_fits_13 : decode cX2_fits 13 = .ok (.aload_n 0, 1) := by decide +kernel
theorem dX2_fits_14 : decode cX2_fits 14 = .ok (.iconst 0, 1) := by decide +kernel
theorem dX2_fits_15 : decode cX2_fits 15 = .ok (.iload_n 1, 1) := by decide +kernel
theorem dX2_fits_16 : decode cX2_fits 16 = .ok (.invokevirtual 62, 3) := by decide +kernel
theorem dX2_fits_19 : decode cX2_fits 19 = .ok (.istore_n 2, 1) := by decide +kernel
theorem dX2_fits_20 : decode cX2_fits 20 = .ok (.iconst 0, 1) := by decide +kernel
theorem dX2_fits_21 : decode cX2_fits 21 = .ok (.istore_n 3, 1) := by decide +kernel
theorem dX2_fits_22 : decode cX2_fits 22 = .ok (.iload_n 3, 1) := by decide +kernel
theorem dX2_fits_23 : decode cX2_fits 23 = .ok (.bipush 40, 2) := by decide +kernel
theorem dX2_fits_25 : decode cX2_fits 25 = .ok (.if_icmp .ge 119, 3) := by decide +kernel
theorem dX2_fits_28 : decode cX2_fits 28 = .ok (.iload_n 3, 1) := by decide +kernel
theorem dX2_fits_29 : decode cX2_fits 29 = .ok (.aload_n 0, 1) := by decide +kernel
theorem dX2_fits_30 : decode cX2_fits 30 = .ok (.getfield 28, 3) := by decide +kernel
theorem dX2_fits_33 : decode cX2_fits 33 = .ok (.if_icmp .ge 111, 3) := by decide +kernel
theorem dX2_fits_36 : decode cX2_fits 36 = .ok (.iload_n 2, 1) := by decide +kernel
theorem dX2_fits_37 : decode cX2_fits 37 = .ok (.ifCond .eq 107, 3) := by decide +kernel
theorem dX2_fits_40 : decode cX2_fits 40 = .ok (.aload_n 0, 1) := by decide +kernel
theorem dX2_fits_41 : decode cX2_fits 41 = .ok (.getfield 25, 3) := by decide +kernel
theorem dX2_fits_44 : decode cX2_fits 44 = .ok (.iload_n 3, 1) := by decide +kernel
theorem dX2_fits_45 : decode cX2_fits 45 = .ok (.iaload, 1) := by decide +kernel
theorem dX2_fits_46 : decode cX2_fits 46 = .ok (.istore 4, 2) := by decide +kernel
theorem dX2_fits_48 : decode cX2_fits 48 = .ok (.aload_n 0, 1) := by decide +kernel
theorem dX2_fits_49 : decode cX2_fits 49 = .ok (.getfield 21, 3) := by decide +kernel
theorem dX2_fits_52 : decode cX2_fits 52 = .ok (.iload 4, 2) := by decide +kernel
theorem dX2_fits_54 : decode cX2_fits 54 = .ok (.iaload, 1) := by decide +kernel
theorem dX2_fits_55 : decode cX2_fits 55 = .ok (.istore 5, 2) := by decide +kernel
theorem dX2_fits_57 : decode cX2_fits 57 = .ok (.aload_n 0, 1) := by decide +kernel
theorem dX2_fits_58 : decode cX2_fits 58 = .ok (.aload_n 0, 1) := by decide +kernel
theorem dX2_fits_59 : decode cX2_fits 59 = .ok (.getfield 12, 3) := by decide +kernel
theorem dX2_fits_62 : decode cX2_fits 62 = .ok (.iload 4, 2) := by decide +kernel
theorem dX2_fits_64 : decode cX2_fits 64 = .ok (.invokevirtual 66, 3) := by decide +kernel
theorem dX2_fits_67 : decode cX2_fits 67 = .ok (.aload_n 0, 1) := by decide +kernel
theorem dX2_fits_68 : decode cX2_fits 68 = .ok (.getfield 18, 3) := by decide +kernel
theorem dX2_fits_71 : decode cX2_fits 71 = .ok (.iload 5, 2) := by decide +kernel
theorem dX2_fits_73 : decode cX2_fits 73 = .ok (.invokevirtual 66, 3) := by decide +kernel
theorem dX2_fits_76 : decode cX2_fits 76 = .ok (.invokevirtual 62, 3) := by decide +kernel
theorem dX2_fits_79 : decode cX2_fits 79 = .ok (.ifCond .eq 57, 3) := by decide +kernel
theorem dX2_fits_82 : decode cX2_fits 82 = .ok (.aload_n 0, 1) := by decide +kernel
theorem dX2_fits_83 : decode cX2_fits 83 = .ok (.aload_n 0, 1) := by decide +kernel
theorem dX2_fits_84 : decode cX2_fits 84 = .ok (.getfield 12, 3) := by decide +kernel
theorem dX2_fits_87 : decode cX2_fits 87 = .ok (.iload 4, 2) := by decide +kernel
theorem dX2_fits_89 : decode cX2_fits 89 = .ok (.invokevirtual 70, 3) := by decide +kernel
theorem dX2_fits_92 : decode cX2_fits 92 = .ok (.aload_n 0, 1) := by decide +kernel
theorem dX2_fits_93 : decode cX2_fits 93 = .ok (.getfield 18, 3) := by decide +kernel
theorem dX2_fits_96 : decode cX2_fits 96 = .ok (.iload 5, 2) := by decide +kernel
theorem dX2_fits_98 : decode cX2_fits 98 = .ok (.invokevirtual 70, 3) := by decide +kernel
theorem dX2_fits_101 : decode cX2_fits 101 = .ok (.invokevirtual 62, 3) := by decide +kernel
theorem dX2_fits_104 : decode cX2_fits 104 = .ok (.ifCond .eq 32, 3) := by decide +kernel
theorem dX2_fits_107 : decode cX2_fits 107 = .ok (.aload_n 0, 1) := by decide +kernel
theorem dX2_fits_108 : decode cX2_fits 108 = .ok (.aload_n 0, 1) := by decide +kernel
theorem dX2_fits_109 : decode cX2_fits 109 = .ok (.getfield 12, 3) := by decide +kernel
theorem dX2_fits_112 : decode cX2_fits 112 = .ok (.iload 4, 2) := by decide +kernel
theorem dX2_fits_114 : decode cX2_fits 114 = .ok (.invokevirtual 73, 3) := by decide +kernel
theorem dX2_fits_117 : decode cX2_fits 117 = .ok (.aload_n 0, 1) := by decide +kernel
theorem dX2_fits_118 : decode cX2_fits 118 = .ok (.getfield 18, 3) := by decide +kernel
theorem dX2_fits_121 : decode cX2_fits 121 = .ok (.iload 5, 2) := by decide +kernel
theorem dX2_fits_123 : decode cX2_fits 123 = .ok (.invokevirtual 73, 3) := by decide +kernel
theorem dX2_fits_126 : decode cX2_fits 126 = .ok (.invokevirtual 62, 3) := by decide +kernel
theorem dX2_fits_129 : decode cX2_fits 129 = .ok (.ifCond .eq 7, 3) := by decide +kernel
theorem dX2_fits_132 : decode cX2_fits 132 = .ok (.iconst 1, 1) := by decide +kernel
theorem dX2_fits_133 : decode cX2_fits 133 = .ok (.goto 4, 3) := by decide +kernel
theorem dX2_fits_136 : decode cX2_fits 136 = .ok (.iconst 0, 1) := by decide +kernel
theorem dX2_fits_137 : decode cX2_fits 137 = .ok (.istore_n 2, 1) := by decide +kernel
theorem dX2_fits_138 : decode cX2_fits 138 = .ok (.iinc 3 1, 3) := by decide +kernel
theorem dX2_fits_141 : decode cX2_fits 141 = .ok (.goto (-119), 3) := by decide +kernel
theorem dX2_fits_144 : decode cX2_fits 144 = .ok (.iload_n 2, 1) := by decide +kernel
theorem dX2_fits_145 : decode cX2_fits 145 = .ok (.ireturn, 1) := by decide +kernel
theorem dX2_send_0 : decode cX2_send 0 = .ok (.aload_n 0, 1) := by decide +kernel
theorem dX2_send_1 : decode cX2_send 1 = .ok (.getfield 21, 3) := by decide +kernel
theorem dX2_send_4 : decode cX2_send 4 = .ok (.iload_n 1, 1) := by decide +kernel
theorem dX2_send_5 : decode cX2_send 5 = .ok (.iaload, 1) := by decide +kernel
theorem dX2_send_6 : decode cX2_send 6 = .ok (.iconst (-1), 1) := by decide +kernel
theorem dX2_send_7 : decode cX2_send 7 = .ok (.if_icmp .ne 12, 3) := by decide +kernel
theorem dX2_send_10 : decode cX2_send 10 = .ok (.aload_n 0, 1) := by decide +kernel
theorem dX2_send_11 : decode cX2_send 11 = .ok (.getfield 28, 3) := by decide +kernel
theorem dX2_send_14 : decode cX2_send 14 = .ok (.bipush 40, 2) := by decide +kernel
theorem dX2_send_16 : decode cX2_send 16 = .ok (.if_icmp .lt 19, 3) := by decide +kernel
theorem dX2_send_19 : decode cX2_send 19 = .ok (.aload_n 0, 1) := by decide +kernel
theorem dX2_send_20 : decode cX2_send 20 = .ok (.getfield 21, 3) := by decide +kernel
theorem dX2_send_23 : decode cX2_send 23 = .ok (.iload_n 1, 1) := by decide +kernel
theorem dX2_send_24 : decode cX2_send 24 = .ok (.iaload, 1) := by decide +kernel
theorem dX2_send_25 : decode cX2_send 25 = .ok (.iload_n 2, 1) := by decide +kernel
theorem dX2_send_26 : decode cX2_send 26 = .ok (.if_icmp .ne 7, 3) := by decide +kernel
theorem dX2_send_29 : decode cX2_send 29 = .ok (.iconst 1, 1) := by decide +kernel
theorem dX2_send_30 : decode cX2_send 30 = .ok (.goto 4, 3) := by decide +kernel
theorem dX2_send_33 : decode cX2_send 33 = .ok (.iconst 0, 1) := by decide +kernel
theorem dX2_send_34 : decode cX2_send 34 = .ok (.ireturn, 1) := by decide +kernel
theorem dX2_send_35 : decode cX2_send 35 = .ok (.aload_n 0, 1) := by decide +kernel
theorem dX2_send_36 : decode cX2_send 36 = .ok (.getfield 21, 3) := by decide +kernel
theorem dX2_send_39 : decode cX2_send 39 = .ok (.iload_n 1, 1) := by decide +kernel
theorem dX2_send_40 : decode cX2_send 40 = .ok (.iload_n 2, 1) := by decide +kernel
theorem dX2_send_41 : decode cX2_send 41 = .ok (.iastore, 1) := by decide +kernel
theorem dX2_send_42 : decode cX2_send 42 = .ok (.aload_n 0, 1) := by decide +kernel
theorem dX2_send_43 : decode cX2_send 43 = .ok (.getfield 25, 3) := by decide +kernel
theorem dX2_send_46 : decode cX2_send 46 = .ok (.aload_n 0, 1) := by decide +kernel
theorem dX2_send_47 : decode cX2_send 47 = .ok (.getfield 28, 3) := by decide +kernel
theorem dX2_send_50 : decode cX2_send 50 = .ok (.iload_n 1, 1) := by decide +kernel
theorem dX2_send_51 : decode cX2_send 51 = .ok (.iastore, 1) := by decide +kernel
theorem dX2_send_52 : decode cX2_send 52 = .ok (.aload_n 0, 1) := by decide +kernel
theorem dX2_send_53 : decode cX2_send 53 = .ok (.dup, 1) := by decide +kernel
theorem dX2_send_54 : decode cX2_send 54 = .ok (.getfield 28, 3) := by decide +kernel
theorem dX2_send_57 : decode cX2_send 57 = .ok (.iconst 1, 1) := by decide +kernel
theorem dX2_send_58 : decode cX2_send 58 = .ok (.iadd, 1) := by decide +kernel
theorem dX2_send_59 : decode cX2_send 59 = .ok (.putfield 28, 3) := by decide +kernel
theorem dX2_send_62 : decode cX2_send 62 = .ok (.iconst 1, 1) := by decide +kernel
theorem dX2_send_63 : decode cX2_send 63 = .ok (.ireturn, 1) := by decide +kernel
theorem dX3_init_0 : decode cX3_init 0 = .ok (.aload_n 0, 1) := by decide +kernel
theorem dX3_init_1 : decode cX3_init 1 = .ok (.invokespecial 3, 3) := by decide +kernel
theorem dX3_init_4 : decode cX3_init 4 = .ok (.aload_n 0, 1) := by decide +kernel
theorem dX3_init_5 : decode cX3_init 5 = .ok (.iconst 0, 1) := by decide +kernel
theorem dX3_init_6 : decode cX3_init 6 = .ok (.putfield 9, 3) := by decide +kernel
theorem dX3_init_9 : decode cX3_init 9 = .ok (.aload_n 0, 1) := by decide +kernel
theorem dX3_init_10 : decode cX3_init 10 = .ok (.iconst 0, 1) := by decide +kernel
theorem dX3_init_11 : decode cX3_init 11 = .ok (.putfield 15, 3) := by decide +kernel
theorem dX3_init_14 : decode cX3_init 14 = .ok (.aload_n 0, 1) := by decide +kernel
theorem dX3_init_15 : decode cX3_init 15 = .ok (.iconst 0, 1) := by decide +kernel
theorem dX3_init_16 : decode cX3_init 16 = .ok (.putfield 18, 3) := by decide +kernel
theorem dX3_init_19 : decode cX3_init 19 = .ok (.aload_n 0, 1) := by decide +kernel
theorem dX3_init_20 : decode cX3_init 20 = .ok (.bipush 6, 2) := by decide +kernel
theorem dX3_init_22 : decode cX3_init 22 = .ok (.newarray .int, 2) := by decide +kernel
theorem dX3_init_24 : decode cX3_init 24 = .ok (.putfield 21, 3) := by decide +kernel
theorem dX3_init_27 : decode cX3_init 27 = .ok (.aload_n 0, 1) := by decide +kernel
theorem dX3_init_28 : decode cX3_init 28 = .ok (.new 25, 3) := by decide +kernel
theorem dX3_init_31 : decode cX3_init 31 = .ok (.dup, 1) := by decide +kernel
theorem dX3_init_32 : decode cX3_init 32 = .ok (.invokespecial 27, 3) := by decide +kernel
theorem dX3_init_35 : decode cX3_init 35 = .ok (.putfield 28, 3) := by decide +kernel
theorem dX3_init_38 : decode cX3_init 38 = .ok (.aload_n 0, 1) := by decide +kernel
theorem dX3_init_39 : decode cX3_init 39 = .ok (.new 32, 3) := by decide +kernel
theorem dX3_init_42 : decode cX3_init 42 = .ok (.dup, 1) := by decide +kernel
theorem dX3_init_43 : decode cX3_init 43 = .ok (.invokespecial 34, 3) := by decide +kernel
theorem dX3_init_46 : decode cX3_init 46 = .ok (.putfield 35, 3) := by decide +kernel
theorem dX3_init_49 : decode cX3_init 49 = .ok (.aload_n 0, 1) := by decide +kernel
theorem dX3_init_50 : decode cX3_init 50 = .ok (.ldc2_w 39, 3) := by decide +kernel
theorem dX3_init_53 : decode cX3_init 53 = .ok (.putfield 41, 3) := by decide +kernel
theorem dX3_init_56 : decode cX3_init 56 = .ok (.aload_n 0, 1) := by decide +kernel
theorem dX3_init_57 : decode cX3_init 57 = .ok (.ldc2_w 39, 3) := by decide +kernel
theorem dX3_init_60 : decode cX3_init 60 = .ok (.putfield 45, 3) := by decide +kernel
theorem dX3_init_63 : decode cX3_init 63 = .ok (.aload_n 0, 1) := by decide +kernel
theorem dX3_init_64 : decode cX3_init 64 = .ok (.iconst 0, 1) := by decide +kernel
theorem dX3_init_65 : decode cX3_init 65 = .ok (.putfield 48, 3) := by decide +kernel
theorem dX3_init_68 : decode cX3_init 68 = .ok (.return_, 1) := by decide +kernel
theorem dX3_howMany_0 : decode cX3_howMany 0 = .ok (.lconst 1, 1) := by decide +kernel
theorem dX3_howMany_1 : decode cX3_howMany 1 = .ok (.lstore_n 1, 1) := by decide +kernel
theorem dX3_howMany_2 : decode cX3_howMany 2 = .ok (.iconst 0, 1) := by decide +kernel
theorem dX3_howMany_3 : decode cX3_howMany 3 = .ok (.istore_n 3, 1) := by decide +kernel
theorem dX3_howMany_4 : decode cX3_howMany 4 = .ok (.iload_n 3, 1) := by decide +kernel
theorem dX3_howMany_5 : decode cX3_howMany 5 = .ok (.aload_n 0, 1) := by decide +kernel
theorem dX3_howMany_6 : decode cX3_howMany 6 = .ok (.getfield 51, 3) := by decide +kernel
theorem dX3_howMany_9 : decode cX3_howMany 9 = .ok (.if_icmp .ge 18, 3) := by decide +kernel
theorem dX3_howMany_12 : decode cX3_howMany 12 = .ok (.lload_n 1, 1) := by decide +kernel
theorem dX3_howMany_13 : decode cX3_howMany 13 = .ok (.aload_n 0, 1) := by decide +kernel
theorem dX3_howMany_14 : decode cX3_howMany 14 = .ok (.iload_n 3, 1) := by decide +kernel
theorem dX3_howMany_15 : decode cX3_howMany 15 = .ok (.invokestatic 54, 3) := by decide +kernel
theorem dX3_howMany_18 : decode cX3_howMany 18 = .ok (.i2l, 1) := by decide +kernel
theorem dX3_howMany_19 : decode cX3_howMany 19 = .ok (.lmul, 1) := by decide +kernel
theorem dX3_howMany_20 : decode cX3_howMany 20 = .ok (.lstore_n 1, 1) := by decide +kernel
theorem dX3_howMany_21 : decode cX3_howMany 21 = .ok (.iinc 3 1, 3) := by decide +kernel
theorem dX3_howMany_24 : decode cX3_howMany 24 = .ok (.goto (-20), 3) := by decide +kernel
theorem dX3_howMany_27 : decode cX3_howMany 27 = .ok (.lload_n 1, 1) := by decide +kernel
theorem dX3_howMany_28 : decode cX3_howMany 28 = .ok (.lreturn, 1) := by decide +kernel
theorem dX3_ordersOf_0 : decode cX3_ordersOf 0 = .ok (.aload_n 0, 1) := by decide +kernel
theorem dX3_ordersOf_1 : decode cX3_ordersOf 1 = .ok (.getfield 58, 3) := by decide +kernel
theorem dX3_ordersOf_4 : decode cX3_ordersOf 4 = .ok (.iload_n 1, 1) := by decide +kernel
theorem dX3_ordersOf_5 : decode cX3_ordersOf 5 = .ok (.iaload, 1) := by decide +kernel
theorem dX3_ordersOf_6 : decode cX3_ordersOf 6 = .ok (.iconst 1, 1) := by decide +kernel
theorem dX3_ordersOf_7 : decode cX3_ordersOf 7 = .ok (.isub, 1) := by decide +kernel
theorem dX3_ordersOf_8 : decode cX3_ordersOf 8 = .ok (.invokestatic 61, 3) := by decide +kernel
theorem dX3_ordersOf_11 : decode cX3_ordersOf 11 = .ok (.ireturn, 1) := by decide +kernel
theorem dX3_factorial_0 : decode cX3_factorial 0 = .ok (.iload_n 0, 1) := by decide +kernel
theorem dX3_factorial_1 : decode cX3_factorial 1 = .ok (.ifCond .lt 11, 3) := by decide +kernel
theorem dX3_factorial_4 : decode cX3_factorial 4 = .ok (.iload_n 0, 1) := by decide +kernel
theorem dX3_factorial_5 : decode cX3_factorial 5 = .ok (.getstatic 65, 3) := by decide +kernel
theorem dX3_factorial_8 : decode cX3_factorial 8 = .ok (.arraylength, 1) := by decide +kernel
theorem dX3_factorial_9 : decode cX3_factorial 9 = .ok (.if_icmp .lt 7, 3) := by decide +kernel
theorem dX3_factorial_12 : decode cX3_factorial 12 = .ok (.iconst 1, 1) := by decide +kernel
theorem dX3_factorial_13 : decode cX3_factorial 13 = .ok (.goto 8, 3) := by decide +kernel
theorem dX3_factorial_16 : decode cX3_factorial 16 = .ok (.getstatic 65, 3) := by decide +kernel
theorem dX3_factorial_19 : decode cX3_factorial 19 = .ok (.iload_n 0, 1) := by decide +kernel
theorem dX3_factorial_20 : decode cX3_factorial 20 = .ok (.iaload, 1) := by decide +kernel
theorem dX3_factorial_21 : decode cX3_factorial 21 = .ok (.ireturn, 1) := by decide +kernel
theorem dX3_survey_0 : decode cX3_survey 0 = .ok (.aload_n 1, 1) := by decide +kernel
theorem dX3_survey_1 : decode cX3_survey 1 = .ok (.invokevirtual 68, 3) := by decide +kernel
theorem dX3_survey_4 : decode cX3_survey 4 = .ok (.lstore_n 2, 1) := by decide +kernel
theorem dX3_survey_5 : decode cX3_survey 5 = .ok (.lload_n 2, 1) := by decide +kernel
theorem dX3_survey_6 : decode cX3_survey 6 = .ok (.aload_n 0, 1) := by decide +kernel
theorem dX3_survey_7 : decode cX3_survey 7 = .ok (.getfield 41, 3) := by decide +kernel
theorem dX3_survey_10 : decode cX3_survey 10 = .ok (.lcmp, 1) := by decide +kernel
theorem dX3_survey_11 : decode cX3_survey 11 = .ok (.ifCond .ne 4, 3) := by decide +kernel
theorem dX3_survey_14 : decode cX3_survey 14 = .ok (.return_, 1) := by decide +kernel
theorem dX3_survey_15 : decode cX3_survey 15 = .ok (.aload_n 0, 1) := by decide +kernel
theorem dX3_survey_16 : decode cX3_survey 16 = .ok (.lload_n 2, 1) := by decide +kernel
theorem dX3_survey_17 : decode cX3_survey 17 = .ok (.putfield 41, 3) := by decide +kernel
theorem dX3_survey_20 : decode cX3_survey 20 = .ok (.aload_n 0, 1) := by decide +kernel
theorem dX3_survey_21 : decode cX3_survey 21 = .ok (.aload_n 1, 1) := by decide +kernel
theorem dX3_survey_22 : decode cX3_survey 22 = .ok (.invokevirtual 72, 3) := by decide +kernel
theorem dX3_survey_25 : decode cX3_survey 25 = .ok (.aload_n 0, 1) := by decide +kernel
theorem dX3_survey_26 : decode cX3_survey 26 = .ok (.getfield 21, 3) := by decide +kernel
theorem dX3_survey_29 : decode cX3_survey 29 = .ok (.iconst 0, 1) := by decide +kernel
theorem dX3_survey_30 : decode cX3_survey 30 = .ok (.invokestatic 76, 3) := by decide +kernel
theorem dX3_survey_33 : decode cX3_survey 33 = .ok (.aload_n 0, 1) := by decide +kernel
theorem dX3_survey_34 : decode cX3_survey 34 = .ok (.bipush 6, 2) := by decide +kernel
theorem dX3_survey_36 : decode cX3_survey 36 = .ok (.putfield 9, 3) := by decide +kernel
theorem dX3_survey_39 : decode cX3_survey 39 = .ok (.aload_n 0, 1) := by decide +kernel
theorem dX3_survey_40 : decode cX3_survey 40 = .ok (.iconst (-1), 1) := by decide +kernel
theorem dX3_survey_41 : decode cX3_survey 41 = .ok (.putfield 15, 3) := by decide +kernel
theorem dX3_survey_44 : decode cX3_survey 44 = .ok (.aload_n 1, 1) := by decide +kernel
theorem dX3_survey_45 : decode cX3_survey 45 = .ok (.invokestatic 82, 3) := by decide +kernel
theorem dX3_survey_48 : decode cX3_survey 48 = .ok (.istore 4, 2) := by decide +kernel
theorem dX3_survey_50 : decode cX3_survey 50 = .ok (.aload_n 1, 1) := by decide +kernel
theorem dX3_survey_51 : decode cX3_survey 51 = .ok (.invokevirtual 86, 3) := by decide +kernel
theorem dX3_survey_54 : decode cX3_survey 54 = .ok (.istore 5, 2) := by decide +kernel
theorem dX3_survey_56 : decode cX3_survey 56 = .ok (.aload_n 1, 1) := by decide +kernel
theorem dX3_survey_57 : decode cX3_survey 57 = .ok (.invokestatic 90, 3) := by decide +kernel
theorem dX3_survey_60 : decode cX3_survey 60 = .ok (.ldc2_w 94, 3) := by decide +kernel
theorem dX3_survey_63 : decode cX3_survey 63 = .ok (.invokestatic 96, 3) := by decide +kernel
theorem dX3_survey_66 : decode cX3_survey 66 = .ok (.lstore 6, 2) := by decide +kernel
theorem dX3_survey_68 : decode cX3_survey 68 = .ok (.iconst 0, 1) := by decide +kernel
theorem dX3_survey_69 : decode cX3_survey 69 = .ok (.istore 8, 2) := by decide +kernel
theorem dX3_survey_71 : decode cX3_survey 71 = .ok (.iload 8, 2) := by decide +kernel
theorem dX3_survey_73 : decode cX3_survey 73 = .ok (.i2l, 1) := by decide +kernel
theorem dX3_survey_74 : decode cX3_survey 74 = .ok (.lload 6, 2) := by decide +kernel
theorem dX3_survey_76 : decode cX3_survey 76 = .ok (.lcmp, 1) := by decide +kernel
theorem dX3_survey_77 : decode cX3_survey 77 = .ok (.ifCond .ge 34, 3) := by decide +kernel
theorem dX3_survey_80 : decode cX3_survey 80 = .ok (.aload_n 0, 1) := by decide +kernel
theorem dX3_survey_81 : decode cX3_survey 81 = .ok (.iload 8, 2) := by decide +kernel
theorem dX3_survey_83 : decode cX3_survey 83 = .ok (.iload 5, 2) := by decide +kernel
theorem dX3_survey_85 : decode cX3_survey 85 = .ok (.iload 4, 2) := by decide +kernel
theorem dX3_survey_87 : decode cX3_survey 87 = .ok (.aload_n 0, 1) := by decide +kernel
theorem dX3_survey_88 : decode cX3_survey 88 = .ok (.getfield 35, 3) := by decide +kernel
theorem dX3_survey_91 : decode cX3_survey 91 = .ok (.invokevirtual 102, 3) := by decide +kernel
theorem dX3_survey_94 : decode cX3_survey 94 = .ok (.iadd, 1) := by decide +kernel
theorem dX3_survey_95 : decode cX3_survey 95 = .ok (.iconst 2, 1) := by decide +kernel
theorem dX3_survey_96 : decode cX3_survey 96 = .ok (.idiv, 1) := by decide +kernel
theorem dX3_survey_97 : decode cX3_survey 97 = .ok (.isub, 1) := by decide +kernel
theorem dX3_survey_98 : decode cX3_survey 98 = .ok (.invokevirtual 105, 3) := by decide +kernel
theorem dX3_survey_101 : decode cX3_survey 101 = .ok (.aload_n 0, 1) := by decide +kernel
theorem dX3_survey_102 : decode cX3_survey 102 = .ok (.invokevirtual 109, 3) := by decide +kernel
theorem dX3_survey_105 : decode cX3_survey 105 = .ok (.iinc 8 1, 3) := by decide +kernel
theorem dX3_survey_108 : decode cX3_survey 108 = .ok (.goto (-37), 3) := by decide +kernel
theorem dX3_survey_111 : decode cX3_survey 111 = .ok (.return_, 1) := by decide +kernel
theorem dX3_countNeed_0 : decode cX3_countNeed 0 = .ok (.iload_n 2, 1) := by decide +kernel
theorem dX3_countNeed_1 : decode cX3_countNeed 1 = .ok (.ifCond .lt 8, 3) := by decide +kernel
theorem dX3_countNeed_4 : decode cX3_countNeed 4 = .ok (.iload_n 2, 1) := by decide +kernel
theorem dX3_countNeed_5 : decode cX3_countNeed 5 = .ok (.iconst 5, 1) := by decide +kernel
theorem dX3_countNeed_6 : decode cX3_countNeed 6 = .ok (.if_icmp .le 4, 3) := by decide +kernel
theorem dX3_countNeed_9 : decode cX3_countNeed 9 = .ok (.return_, 1) := by decide +kernel
theorem dX3_countNeed_10 : decode cX3_countNeed 10 = .ok (.aload_n 0, 1) := by decide +kernel
theorem dX3_countNeed_11 : decode cX3_countNeed 11 = .ok (.getfield 21, 3) := by decide +kernel
theorem dX3_countNeed_14 : decode cX3_countNeed 14 = .ok (.iload_n 2, 1) := by decide +kernel
theorem dX3_countNeed_15 : decode cX3_countNeed 15 = .ok (.dup2, 1) := by decide +kernel
theorem dX3_countNeed_16 : decode cX3_countNeed 16 = .ok (.iaload, 1) := by decide +kernel
theorem dX3_countNeed_17 : decode cX3_countNeed 17 = .ok (.iconst 1, 1) := by decide +kernel
theorem dX3_countNeed_18 : decode cX3_countNeed 18 = .ok (.iadd, 1) := by decide +kernel
theorem dX3_countNeed_19 : decode cX3_countNeed 19 = .ok (.iastore, 1) := by decide +kernel
theorem dX3_countNeed_20 : decode cX3_countNeed 20 = .ok (.aload_n 0, 1) := by decide +kernel
theorem dX3_countNeed_21 : decode cX3_countNeed 21 = .ok (.aload_n 0, 1) := by decide +kernel
theorem dX3_countNeed_22 : decode cX3_countNeed 22 = .ok (.getfield 15, 3) := by decide +kernel
theorem dX3_countNeed_25 : decode cX3_countNeed 25 = .ok (.iload_n 2, 1) := by decide +kernel
theorem dX3_countNeed_26 : decode cX3_countNeed 26 = .ok (.invokestatic 112, 3) := by decide +kernel
theorem dX3_countNeed_29 : decode cX3_countNeed 29 = .ok (.putfield 15, 3) := by decide +kernel
theorem dX3_countNeed_32 : decode cX3_countNeed 32 = .ok (.iload_n 2, 1) := by decide +kernel
theorem dX3_countNeed_33 : decode cX3_countNeed 33 = .ok (.aload_n 0, 1) := by decide +kernel
theorem dX3_countNeed_34 : decode cX3_countNeed 34 = .ok (.getfield 9, 3) := by decide +kernel
theorem dX3_countNeed_37 : decode cX3_countNeed 37 = .ok (.if_icmp .ge 13, 3) := by decide +kernel
theorem dX3_countNeed_40 : decode cX3_countNeed 40 = .ok (.aload_n 0, 1) := by decide +kernel
theorem dX3_countNeed_41 : decode cX3_countNeed 41 = .ok (.iload_n 2, 1) := by decide +kernel
theorem dX3_countNeed_42 : decode cX3_countNeed 42 = .ok (.putfield 9, 3) := by decide +kernel
theorem dX3_countNeed_45 : decode cX3_countNeed 45 = .ok (.aload_n 0, 1) := by decide +kernel
theorem dX3_countNeed_46 : decode cX3_countNeed 46 = .ok (.iload_n 1, 1) := by decide +kernel
theorem dX3_countNeed_47 : decode cX3_countNeed 47 = .ok (.putfield 18, 3) := by decide +kernel
theorem dX3_countNeed_50 : decode cX3_countNeed 50 = .ok (.return_, 1) := by decide +kernel
theorem dX3_fewestCaps_0 : decode cX3_fewestCaps 0 = .ok (.aload_n 1, 1) := by decide +kernel
theorem dX3_fewestCaps_1 : decode cX3_fewestCaps 1 = .ok (.invokevirtual 116, 3) := by decide +kernel
theorem dX3_fewestCaps_4 : decode cX3_fewestCaps 4 = .ok (.istore_n 2, 1) := by decide +kernel
theorem dX3_fewestCaps_5 : decode cX3_fewestCaps 5 = .ok (.aload_n 1, 1) := by decide +kernel
theorem dX3_fewestCaps_6 : decode cX3_fewestCaps 6 = .ok (.invokestatic 90, 3) := by decide +kernel
theorem dX3_fewestCaps_9 : decode cX3_fewestCaps 9 = .ok (.lstore_n 3, 1) := by decide +kernel
theorem dX3_fewestCaps_10 : decode cX3_fewestCaps 10 = .ok (.iconst 1, 1) := by decide +kernel
theorem dX3_fewestCaps_11 : decode cX3_fewestCaps 11 = .ok (.iload_n 2, 1) := by decide +kernel
theorem dX3_fewestCaps_12 : decode cX3_fewestCaps 12 = .ok (.invokestatic 119, 3) := by decide +kernel
theorem dX3_fewestCaps_15 : decode cX3_fewestCaps 15 = .ok (.ishl, 1) := by decide +kernel
theorem dX3_fewestCaps_16 : decode cX3_fewestCaps 16 = .ok (.istore 5, 2) := by decide +kernel
theorem dX3_fewestCaps_18 : decode cX3_fewestCaps 18 = .ok (.lload_n 3, 1) := by decide +kernel
theorem dX3_fewestCaps_19 : decode cX3_fewestCaps 19 = .ok (.iload 5, 2) := by decide +kernel
theorem dX3_fewestCaps_21 : decode cX3_fewestCaps 21 = .ok (.i2l, 1) := by decide +kernel
theorem dX3_fewestCaps_22 : decode cX3_fewestCaps 22 = .ok (.lmul, 1) := by decide +kernel
theorem dX3_fewestCaps_23 : decode cX3_fewestCaps 23 = .ok (.ldc2_w 94, 3) := by decide +kernel
theorem dX3_fewestCaps_26 : decode cX3_fewestCaps 26 = .ok (.lcmp, 1) := by decide +kernel
theorem dX3_fewestCaps_27 : decode cX3_fewestCaps 27 = .ok (.ifCond .le 6, 3) := by decide +kernel
theorem dX3_fewestCaps_30 : decode cX3_fewestCaps 30 = .ok (.bipush (-2), 2) := by decide +kernel
theorem dX3_fewestCaps_32 : decode cX3_fewestCaps 32 = .ok (.ireturn, 1) := by decide +kernel
theorem dX3_fewestCaps_33 : decode cX3_fewestCaps 33 = .ok (.aload_n 1, 1) := by decide +kernel
theorem dX3_fewestCaps_34 : decode cX3_fewestCaps 34 = .ok (.invokevirtual 68, 3) := by decide +kernel
theorem dX3_fewestCaps_37 : decode cX3_fewestCaps 37 = .ok (.lstore 6, 2) := by decide +kernel
theorem dX3_fewestCaps_39 : decode cX3_fewestCaps 39 = .ok (.lload 6, 2) := by decide +kernel
theorem dX3_fewestCaps_41 : decode cX3_fewestCaps 41 = .ok (.aload_n 0, 1) := by decide +kernel
theorem dX3_fewestCaps_42 : decode cX3_fewestCaps 42 = .ok (.getfield 45, 3) := by decide +kernel
theorem dX3_fewestCaps_45 : decode cX3_fewestCaps 45 = .ok (.lcmp, 1) := by decide +kernel
theorem dX3_fewestCaps_46 : decode cX3_fewestCaps 46 = .ok (.ifCond .ne 8, 3) := by decide +kernel
theorem dX3_fewestCaps_49 : decode cX3_fewestCaps 49 = .ok (.aload_n 0, 1) := by decide +kernel
theorem dX3_fewestCaps_50 : decode cX3_fewestCaps 50 = .ok (.getfield 48, 3) := by decide +kernel
theorem dX3_fewestCaps_53 : decode cX3_fewestCaps 53 = .ok (.ireturn, 1) := by decide +kernel
theorem dX3_fewestCaps_54 : decode cX3_fewestCaps 54 = .ok (.aload_n 0, 1) := by decide +kernel
theorem dX3_fewestCaps_55 : decode cX3_fewestCaps 55 = .ok (.lload 6, 2) := by decide +kernel
theorem dX3_fewestCaps_57 : decode cX3_fewestCaps 57 = .ok (.putfield 45, 3) := by decide +kernel
theorem dX3_fewestCaps_60 : decode cX3_fewestCaps 60 = .ok (.aload_n 0, 1) := by decide +kernel
theorem dX3_fewestCaps_61 : decode cX3_fewestCaps 61 = .ok (.aload_n 1, 1) := by decide +kernel
theorem dX3_fewestCaps_62 : decode cX3_fewestCaps 62 = .ok (.invokevirtual 124, 3) := by decide +kernel
theorem dX3_fewestCaps_65 : decode cX3_fewestCaps 65 = .ok (.aload_n 0, 1) := by decide +kernel
theorem dX3_fewestCaps_66 : decode cX3_fewestCaps 66 = .ok (.iconst 2, 1) := by decide +kernel
theorem dX3_fewestCaps_67 : decode cX3_fewestCaps 67 = .ok (.aload_n 0, 1) := by decide +kernel
theorem dX3_fewestCaps_68 : decode cX3_fewestCaps 68 = .ok (.getfield 9, 3) := by decide +kernel
theorem dX3_fewestCaps_71 : decode cX3_fewestCaps 71 = .ok (.imul, 1) := by decide +kernel
theorem dX3_fewestCaps_72 : decode cX3_fewestCaps 72 = .ok (.putfield 48, 3) := by decide +kernel
theorem dX3_fewestCaps_75 : decode cX3_fewestCaps 75 = .ok (.aload_n 0, 1) := by decide +kernel
theorem dX3_fewestCaps_76 : decode cX3_fewestCaps 76 = .ok (.aload_n 1, 1) := by decide +kernel
theorem dX3_fewestCaps_77 : decode cX3_fewestCaps 77 = .ok (.invokevirtual 72, 3) := by decide +kernel
theorem dX3_fewestCaps_80 : decode cX3_fewestCaps 80 = .ok (.iconst 2, 1) := by decide +kernel
theorem dX3_fewestCaps_81 : decode cX3_fewestCaps 81 = .ok (.aload_n 1, 1) := by decide +kernel
theorem dX3_fewestCaps_82 : decode cX3_fewestCaps 82 = .ok (.invokevirtual 86, 3) := by decide +kernel
theorem dX3_fewestCaps_85 : decode cX3_fewestCaps 85 = .ok (.imul, 1) := by decide +kernel
theorem dX3_fewestCaps_86 : decode cX3_fewestCaps 86 = .ok (.aload_n 1, 1) := by decide +kernel
theorem dX3_fewestCaps_87 : decode cX3_fewestCaps 87 = .ok (.invokestatic 82, 3) := by decide +kernel
theorem dX3_fewestCaps_90 : decode cX3_fewestCaps 90 = .ok (.isub, 1) := by decide +kernel
theorem dX3_fewestCaps_91 : decode cX3_fewestCaps 91 = .ok (.istore 8, 2) := by decide +kernel
theorem dX3_fewestCaps_93 : decode cX3_fewestCaps 93 = .ok (.iconst 0, 1) := by decide +kernel
theorem dX3_fewestCaps_94 : decode cX3_fewestCaps 94 = .ok (.istore 9, 2) := by decide +kernel
theorem dX3_fewestCaps_96 : decode cX3_fewestCaps 96 = .ok (.iload 9, 2) := by decide +kernel
theorem dX3_fewestCaps_98 : decode cX3_fewestCaps 98 = .ok (.i2l, 1) := by decide +kernel
theorem dX3_fewestCaps_99 : decode cX3_fewestCaps 99 = .ok (.lload_n 3, 1) := by decide +kernel
theorem dX3_fewestCaps_100 : decode cX3_fewestCaps 100 = .ok (.lcmp, 1) := by decide +kernel
theorem dX3_fewestCaps_101 : decode cX3_fewestCaps 101 = .ok (.ifCond .ge 42, 3) := by decide +kernel
theorem dX3_fewestCaps_104 : decode cX3_fewestCaps 104 = .ok (.aload_n 0, 1) := by decide +kernel
theorem dX3_fewestCaps_105 : decode cX3_fewestCaps 105 = .ok (.getfield 48, 3) := by decide +kernel
theorem dX3_fewestCaps_108 : decode cX3_fewestCaps 108 = .ok (.iconst 1, 1) := by decide +kernel
theorem dX3_fewestCaps_109 : decode cX3_fewestCaps 109 = .ok (.if_icmp .le 34, 3) := by decide +kernel
theorem dX3_fewestCaps_112 : decode cX3_fewestCaps 112 = .ok (.aload_n 0, 1) := by decide +kernel
theorem dX3_fewestCaps_113 : decode cX3_fewestCaps 113 = .ok (.aload_n 0, 1) := by decide +kernel
theorem dX3_fewestCaps_114 : decode cX3_fewestCaps 114 = .ok (.getfield 48, 3) := by decide +kernel
theorem dX3_fewestCaps_117 : decode cX3_fewestCaps 117 = .ok (.iload 8, 2) := by decide +kernel
theorem dX3_fewestCaps_119 : decode cX3_fewestCaps 119 = .ok (.aload_n 0, 1) := by decide +kernel
theorem dX3_fewestCaps_120 : decode cX3_fewestCaps 120 = .ok (.iload_n 2, 1) := by decide +kernel
theorem dX3_fewestCaps_121 : decode cX3_fewestCaps 121 = .ok (.iload 5, 2) := by decide +kernel
theorem dX3_fewestCaps_123 : decode cX3_fewestCaps 123 = .ok (.invokevirtual 127, 3) := by decide +kernel
theorem dX3_fewestCaps_126 : decode cX3_fewestCaps 126 = .ok (.isub, 1) := by decide +kernel
theorem dX3_fewestCaps_127 : decode cX3_fewestCaps 127 = .ok (.invokestatic 130, 3) := by decide +kernel
theorem dX3_fewestCaps_130 : decode cX3_fewestCaps 130 = .ok (.putfield 48, 3) := by decide +kernel
theorem dX3_fewestCaps_133 : decode cX3_fewestCaps 133 = .ok (.aload_n 0, 1) := by decide +kernel
theorem dX3_fewestCaps_134 : decode cX3_fewestCaps 134 = .ok (.invokevirtual 109, 3) := by decide +kernel
theorem dX3_fewestCaps_137 : decode cX3_fewestCaps 137 = .ok (.iinc 9 1, 3) := by decide +kernel
theorem dX3_fewestCaps_140 : decode cX3_fewestCaps 140 = .ok (.goto (-44), 3) := by decide +kernel
theorem dX3_fewestCaps_143 : decode cX3_fewestCaps 143 = .ok (.aload_n 0, 1) := by decide +kernel
theorem dX3_fewestCaps_144 : decode cX3_fewestCaps 144 = .ok (.getfield 48, 3) := by decide +kernel
theorem dX3_fewestCaps_147 : decode cX3_fewestCaps 147 = .ok (.ireturn, 1) := by decide +kernel
theorem dX3_eulerWithoutWalks_0 : decode cX3_eulerWithoutWalks 0 = .ok (.aload_n 0, 1) := by decide +kernel
theorem dX3_eulerWithoutWalks_1 : decode cX3_eulerWithoutWalks 1 = .ok (.getfield 51, 3) := by decide +kernel
theorem dX3_eulerWithoutWalks_4 : decode cX3_eulerWithoutWalks 4 = .ok (.aload_n 0, 1) := by decide +kernel
theorem dX3_eulerWithoutWalks_5 : decode cX3_eulerWithoutWalks 5 = .ok (.getfield 132, 3) := by decide +kernel
theorem dX3_eulerWithoutWalks_8 : decode cX3_eulerWithoutWalks 8 = .ok (.isub, 1) := by decide +kernel
theorem dX3_eulerWithoutWalks_9 : decode cX3_eulerWithoutWalks 9 = .ok (.aload_n 0, 1) := by decide +kernel
theorem dX3_eulerWithoutWalks_10 : decode cX3_eulerWithoutWalks 10 = .ok (.invokevirtual 135, 3) := by decide +kernel
theorem dX3_eulerWithoutWalks_13 : decode cX3_eulerWithoutWalks 13 = .ok (.iadd, 1) := by decide +kernel
theorem dX3_eulerWithoutWalks_14 : decode cX3_eulerWithoutWalks 14 = .ok (.ireturn, 1) := by decide +kernel
theorem dX3_mostFacesTwisted_0 : decode cX3_mostFacesTwisted 0 = .ok (.iconst 0, 1) := by decide +kernel
theorem dX3_mostFacesTwisted_1 : decode cX3_mostFacesTwisted 1 = .ok (.istore_n 3, 1) := by decide +kernel
theorem dX3_mostFacesTwisted_2 : decode cX3_mostFacesTwisted 2 = .ok (.iconst 0, 1) := by decide +kernel
theorem dX3_mostFacesTwisted_3 : decode cX3_mostFacesTwisted 3 = .ok (.istore 4, 2) := by decide +kernel
theorem dX3_mostFacesTwisted_5 : decode cX3_mostFacesTwisted 5 = .ok (.iconst 0, 1) := by decide +kernel
theorem dX3_mostFacesTwisted_6 : decode cX3_mostFacesTwisted 6 = .ok (.istore 5, 2) := by decide +kernel
theorem dX3_mostFacesTwisted_8 : decode cX3_mostFacesTwisted 8 = .ok (.iload 5, 2) := by decide +kernel
theorem dX3_mostFacesTwisted_10 : decode cX3_mostFacesTwisted 10 = .ok (.iload_n 2, 1) := by decide +kernel
theorem dX3_mostFacesTwisted_11 : decode cX3_mostFacesTwisted 11 = .ok (.if_icmp .ge 38, 3) := by decide +kernel
theorem dX3_mostFacesTwisted_14 : decode cX3_mostFacesTwisted 14 = .ok (.aload_n 0, 1) := by decide +kernel
theorem dX3_mostFacesTwisted_15 : decode cX3_mostFacesTwisted 15 = .ok (.getfield 35, 3) := by decide +kernel
theorem dX3_mostFacesTwisted_18 : decode cX3_mostFacesTwisted 18 = .ok (.iload 4, 2) := by decide +kernel
theorem dX3_mostFacesTwisted_20 : decode cX3_mostFacesTwisted 20 = .ok (.putfield 138, 3) := by decide +kernel
theorem dX3_mostFacesTwisted_23 : decode cX3_mostFacesTwisted 23 = .ok (.iload_n 3, 1) := by decide +kernel
theorem dX3_mostFacesTwisted_24 : decode cX3_mostFacesTwisted 24 = .ok (.aload_n 0, 1) := by decide +kernel
theorem dX3_mostFacesTwisted_25 : decode cX3_mostFacesTwisted 25 = .ok (.getfield 35, 3) := by decide +kernel
theorem dX3_mostFacesTwisted_28 : decode cX3_mostFacesTwisted 28 = .ok (.invokevirtual 141, 3) := by decide +kernel
theorem dX3_mostFacesTwisted_31 : decode cX3_mostFacesTwisted 31 = .ok (.invokestatic 112, 3) := by decide +kernel
theorem dX3_mostFacesTwisted_34 : decode cX3_mostFacesTwisted 34 = .ok (.istore_n 3, 1) := by decide +kernel
theorem dX3_mostFacesTwisted_35 : decode cX3_mostFacesTwisted 35 = .ok (.iload 4, 2) := by decide +kernel
theorem dX3_mostFacesTwisted_37 : decode cX3_mostFacesTwisted 37 = .ok (.iload_n 1, 1) := by decide +kernel
theorem dX3_mostFacesTwisted_38 : decode cX3_mostFacesTwisted 38 = .ok (.isub, 1) := by decide +kernel
theorem dX3_mostFacesTwisted_39 : decode cX3_mostFacesTwisted 39 = .ok (.iload_n 1, 1) := by decide +kernel
theorem dX3_mostFacesTwisted_40 : decode cX3_mostFacesTwisted 40 = .ok (.iand, 1) := by decide +kernel
theorem dX3_mostFacesTwisted_41 : decode cX3_mostFacesTwisted 41 = .ok (.istore 4, 2) := by decide +kernel
theorem dX3_mostFacesTwisted_43 : decode cX3_mostFacesTwisted 43 = .ok (.iinc 5 1, 3) := by decide +kernel
theorem dX3_mostFacesTwisted_46 : decode cX3_mostFacesTwisted 46 = .ok (.goto (-38), 3) := by decide +kernel
theorem dX3_mostFacesTwisted_49 : decode cX3_mostFacesTwisted 49 = .ok (.iload_n 3, 1) := by decide +kernel
theorem dX3_mostFacesTwisted_50 : decode cX3_mostFacesTwisted 50 = .ok (.ireturn, 1) := by decide +kernel
theorem dX3_beginOrders_0 : decode cX3_beginOrders 0 = .ok (.aload_n 0, 1) := by decide +kernel
theorem dX3_beginOrders_1 : decode cX3_beginOrders 1 = .ok (.getfield 28, 3) := by decide +kernel
theorem dX3_beginOrders_4 : decode cX3_beginOrders 4 = .ok (.aload_n 1, 1) := by decide +kernel
theorem dX3_beginOrders_5 : decode cX3_beginOrders 5 = .ok (.invokevirtual 144, 3) := by decide +kernel
theorem dX3_beginOrders_8 : decode cX3_beginOrders 8 = .ok (.aload_n 0, 1) := by decide +kernel
theorem dX3_beginOrders_9 : decode cX3_beginOrders 9 = .ok (.getfield 28, 3) := by decide +kernel
theorem dX3_beginOrders_12 : decode cX3_beginOrders 12 = .ok (.iconst 0, 1) := by decide +kernel
theorem dX3_beginOrders_13 : decode cX3_beginOrders 13 = .ok (.putfield 147, 3) := by decide +kernel
theorem dX3_beginOrders_16 : decode cX3_beginOrders 16 = .ok (.aload_n 0, 1) := by decide +kernel
theorem dX3_beginOrders_17 : decode cX3_beginOrders 17 = .ok (.getfield 28, 3) := by decide +kernel
theorem dX3_beginOrders_20 : decode cX3_beginOrders 20 = .ok (.invokevirtual 148, 3) := by decide +kernel
theorem dX3_beginOrders_23 : decode cX3_beginOrders 23 = .ok (.aload_n 0, 1) := by decide +kernel
theorem dX3_beginOrders_24 : decode cX3_beginOrders 24 = .ok (.getfield 35, 3) := by decide +kernel
theorem dX3_beginOrders_27 : decode cX3_beginOrders 27 = .ok (.aload_n 0, 1) := by decide +kernel
theorem dX3_beginOrders_28 : decode cX3_beginOrders 28 = .ok (.getfield 28, 3) := by decide +kernel
theorem dX3_beginOrders_31 : decode cX3_beginOrders 31 = .ok (.invokevirtual 151, 3) := by decide +kernel
theorem dX3_beginOrders_34 : decode cX3_beginOrders 34 = .ok (.return_, 1) := by decide +kernel
theorem dX3_advance_0 : decode cX3_advance 0 = .ok (.aload_n 0, 1) := by decide +kernel
theorem dX3_advance_1 : decode cX3_advance 1 = .ok (.getfield 28, 3) := by decide +kernel
theorem dX3_advance_4 : decode cX3_advance 4 = .ok (.getfield 51, 3) := by decide +kernel
theorem dX3_advance_7 : decode cX3_advance 7 = .ok (.iconst 1, 1) := by decide +kernel
theorem dX3_advance_8 : decode cX3_advance 8 = .ok (.isub, 1) := by decide +kernel
theorem dX3_advance_9 : decode cX3_advance 9 = .ok (.istore_n 1, 1) := by decide +kernel
theorem dX3_advance_10 : decode cX3_advance 10 = .ok (.iload_n 1, 1) := by decide +kernel
theorem dX3_advance_11 : decode cX3_advance 11 = .ok (.ifCond .lt 46, 3) := by decide +kernel
theorem dX3_advance_14 : decode cX3_advance 14 = .ok (.aload_n 0, 1) := by decide +kernel
theorem dX3_advance_15 : decode cX3_advance 15 = .ok (.getfield 28, 3) := by decide +kernel
theorem dX3_advance_18 : decode cX3_advance 18 = .ok (.getfield 58, 3) := by decide +kernel
theorem dX3_advance_21 : decode cX3_advance 21 = .ok (.iload_n 1, 1) := by decide +kernel
theorem dX3_advance_22 : decode cX3_advance 22 = .ok (.iaload, 1) := by decide +kernel
theorem dX3_advance_23 : decode cX3_advance 23 = .ok (.iconst 2, 1) := by decide +kernel
theorem dX3_advance_24 : decode cX3_advance 24 = .ok (.if_icmp .le 27, 3) := by decide +kernel
theorem dX3_advance_27 : decode cX3_advance 27 = .ok (.aload_n 0, 1) := by decide +kernel
theorem dX3_advance_28 : decode cX3_advance 28 = .ok (.iload_n 1, 1) := by decide +kernel
theorem dX3_advance_29 : decode cX3_advance 29 = .ok (.invokevirtual 154, 3) := by decide +kernel
theorem dX3_advance_32 : decode cX3_advance 32 = .ok (.istore_n 2, 1) := by decide +kernel
theorem dX3_advance_33 : decode cX3_advance 33 = .ok (.aload_n 0, 1) := by decide +kernel
theorem dX3_advance_34 : decode cX3_advance 34 = .ok (.getfield 35, 3) := by decide +kernel
theorem dX3_advance_37 : decode cX3_advance 37 = .ok (.aload_n 0, 1) := by decide +kernel
theorem dX3_advance_38 : decode cX3_advance 38 = .ok (.getfield 28, 3) := by decide +kernel
theorem dX3_advance_41 : decode cX3_advance 41 = .ok (.iload_n 1, 1) := by decide +kernel
theorem dX3_advance_42 : decode cX3_advance 42 = .ok (.iconst 1, 1) := by decide +kernel
theorem dX3_advance_43 : decode cX3_advance 43 = .ok (.invokevirtual 158, 3) := by decide +kernel
theorem dX3_advance_46 : decode cX3_advance 46 = .ok (.iload_n 2, 1) := by decide +kernel
theorem dX3_advance_47 : decode cX3_advance 47 = .ok (.ifCond .eq 4, 3) := by decide +kernel
theorem dX3_advance_50 : decode cX3_advance 50 = .ok (.return_, 1) := by decide +kernel
theorem dX3_advance_51 : decode cX3_advance 51 = .ok (.iinc 1 (-1), 3) := by decide +kernel
theorem dX3_advance_54 : decode cX3_advance 54 = .ok (.goto (-44), 3) := by decide +kernel
theorem dX3_advance_57 : decode cX3_advance 57 = .ok (.return_, 1) := by decide +kernel
theorem dX3_nextRow_0 : decode cX3_nextRow 0 = .ok (.iload_n 1, 1) := by decide +kernel
theorem dX3_nextRow_1 : decode cX3_nextRow 1 = .ok (.bipush 10, 2) := by decide +kernel
theorem dX3_nextRow_3 : decode cX3_nextRow 3 = .ok (.imul, 1) := by decide +kernel
theorem dX3_nextRow_4 : decode cX3_nextRow 4 = .ok (.istore_n 2, 1) := by decide +kernel
theorem dX3_nextRow_5 : decode cX3_nextRow 5 = .ok (.iload_n 2, 1) := by decide +kernel
theorem dX3_nextRow_6 : decode cX3_nextRow 6 = .ok (.aload_n 0, 1) := by decide +kernel
theorem dX3_nextRow_7 : decode cX3_nextRow 7 = .ok (.getfield 28, 3) := by decide +kernel
theorem dX3_nextRow_10 : decode cX3_nextRow 10 = .ok (.getfield 58, 3) := by decide +kernel
theorem dX3_nextRow_13 : decode cX3_nextRow 13 = .ok (.iload_n 1, 1) := by decide +kernel
theorem dX3_nextRow_14 : decode cX3_nextRow 14 = .ok (.iaload, 1) := by decide +kernel
theorem dX3_nextRow_15 : decode cX3_nextRow 15 = .ok (.iadd, 1) := by decide +kernel
theorem dX3_nextRow_16 : decode cX3_nextRow 16 = .ok (.iconst 1, 1) := by decide +kernel
theorem dX3_nextRow_17 : decode cX3_nextRow 17 = .ok (.isub, 1) := by decide +kernel
theorem dX3_nextRow_18 : decode cX3_nextRow 18 = .ok (.istore_n 3, 1) := by decide +kernel
theorem dX3_nextRow_19 : decode cX3_nextRow 19 = .ok (.aload_n 0, 1) := by decide +kernel
theorem dX3_nextRow_20 : decode cX3_nextRow 20 = .ok (.getfield 28, 3) := by decide +kernel
theorem dX3_nextRow_23 : decode cX3_nextRow 23 = .ok (.getfield 162, 3) := by decide +kernel
theorem dX3_nextRow_26 : decode cX3_nextRow 26 = .ok (.astore 4, 2) := by decide +kernel
theorem dX3_nextRow_28 : decode cX3_nextRow 28 = .ok (.iload_n 3, 1) := by decide +kernel
theorem dX3_nextRow_29 : decode cX3_nextRow 29 = .ok (.iconst 1, 1) := by decide +kernel
theorem dX3_nextRow_30 : decode cX3_nextRow 30 = .ok (.isub, 1) := by decide +kernel
theorem dX3_nextRow_31 : decode cX3_nextRow 31 = .ok (.istore 5, 2) := by decide +kernel
theorem dX3_nextRow_33 : decode cX3_nextRow 33 = .ok (.iload 5, 2) := by decide +kernel
theorem dX3_nextRow_35 : decode cX3_nextRow 35 = .ok (.iload_n 2, 1) := by decide +kernel
theorem dX3_nextRow_36 : decode cX3_nextRow 36 = .ok (.if_icmp .le 24, 3) := by decide +kernel
theorem dX3_nextRow_39 : decode cX3_nextRow 39 = .ok (.aload 4, 2) := by decide +kernel
theorem dX3_nextRow_41 : decode cX3_nextRow 41 = .ok (.iload 5, 2) := by decide +kernel
theorem dX3_nextRow_43 : decode cX3_nextRow 43 = .ok (.iaload, 1) := by decide +kernel
theorem dX3_nextRow_44 : decode cX3_nextRow 44 = .ok (.aload 4, 2) := by decide +kernel
theorem dX3_nextRow_46 : decode cX3_nextRow 46 = .ok (.iload 5, 2) := by decide +kernel
theorem dX3_nextRow_48 : decode cX3_nextRow 48 = .ok (.iconst 1, 1) := by decide +kernel
theorem dX3_nextRow_49 : decode cX3_nextRow 49 = .ok (.iadd, 1) := by decide +kernel
theorem dX3_nextRow_50 : decode cX3_nextRow 50 = .ok (.iaload, 1) := by decide +kernel
theorem dX3_nextRow_51 : decode cX3_nextRow 51 = .ok (.if_icmp .le 9, 3) := by decide +kernel
theorem dX3_nextRow_54 : decode cX3_nextRow 54 = .ok (.iinc 5 (-1), 3) := by decide +kernel
theorem dX3_nextRow_57 : decode cX3_nextRow 57 = .ok (.goto (-24), 3) := by decide +kernel
theorem dX3_nextRow_60 : decode cX3_nextRow 60 = .ok (.iload 5, 2) := by decide +kernel
theorem dX3_nextRow_62 : decode cX3_nextRow 62 = .ok (.iload_n 2, 1) := by decide +kernel
theorem dX3_nextRow_63 : decode cX3_nextRow 63 = .ok (.if_icmp .le 43, 3) := by decide +kernel
theorem dX3_nextRow_66 : decode cX3_nextRow 66 = .ok (.iload_n 3, 1) := by decide +kernel
theorem dX3_nextRow_67 : decode cX3_nextRow 67 = .ok (.istore 6, 2) := by decide +kernel
theorem dX3_nextRow_69 : decode cX3_nextRow 69 = .ok (.iload 6, 2) := by decide +kernel
theorem dX3_nextRow_71 : decode cX3_nextRow 71 = .ok (.iload 5, 2) := by decide +kernel
theorem dX3_nextRow_73 : decode cX3_nextRow 73 = .ok (.if_icmp .le 22, 3) := by decide +kernel
theorem dX3_nextRow_76 : decode cX3_nextRow 76 = .ok (.aload 4, 2) := by decide +kernel
theorem dX3_nextRow_78 : decode cX3_nextRow 78 = .ok (.iload 6, 2) := by decide +kernel
theorem dX3_nextRow_80 : decode cX3_nextRow 80 = .ok (.iaload, 1) := by decide +kernel
theorem dX3_nextRow_81 : decode cX3_nextRow 81 = .ok (.aload 4, 2) := by decide +kernel
theorem dX3_nextRow_83 : decode cX3_nextRow 83 = .ok (.iload 5, 2) := by decide +kernel
theorem dX3_nextRow_85 : decode cX3_nextRow 85 = .ok (.iaload, 1) := by decide +kernel
theorem dX3_nextRow_86 : decode cX3_nextRow 86 = .ok (.if_icmp .ge 9, 3) := by decide +kernel
theorem dX3_nextRow_89 : decode cX3_nextRow 89 = .ok (.iinc 6 (-1), 3) := by decide +kernel
theorem dX3_nextRow_92 : decode cX3_nextRow 92 = .ok (.goto (-23), 3) := by decide +kernel
theorem dX3_nextRow_95 : decode cX3_nextRow 95 = .ok (.aload_n 0, 1) := by decide +kernel
theorem dX3_nextRow_96 : decode cX3_nextRow 96 = .ok (.getfield 28, 3) := by decide +kernel
theorem dX3_nextRow_99 : decode cX3_nextRow 99 = .ok (.iload 5, 2) := by decide +kernel
theorem dX3_nextRow_101 : decode cX3_nextRow 101 = .ok (.iload 6, 2) := by decide +kernel
theorem dX3_nextRow_103 : decode cX3_nextRow 103 = .ok (.invokevirtual 165, 3) := by decide +kernel
theorem dX3_nextRow_106 : decode cX3_nextRow 106 = .ok (.aload_n 0, 1) := by decide +kernel
theorem dX3_nextRow_107 : decode cX3_nextRow 107 = .ok (.getfield 28, 3) := by decide +kernel
theorem dX3_nextRow_110 : decode cX3_nextRow 110 = .ok (.iload 5, 2) := by decide +kernel
theorem dX3_nextRow_112 : decode cX3_nextRow 112 = .ok (.iconst 1, 1) := by decide +kernel
theorem dX3_nextRow_113 : decode cX3_nextRow 113 = .ok (.iadd, 1) := by decide +kernel
theorem dX3_nextRow_114 : decode cX3_nextRow 114 = .ok (.iload_n 3, 1) := by decide +kernel
theorem dX3_nextRow_115 : decode cX3_nextRow 115 = .ok (.invokevirtual 168, 3) := by decide +kernel
theorem dX3_nextRow_118 : decode cX3_nextRow 118 = .ok (.iload 5, 2) := by decide +kernel
theorem dX3_nextRow_120 : decode cX3_nextRow 120 = .ok (.iload_n 2, 1) := by decide +kernel
theorem dX3_nextRow_121 : decode cX3_nextRow 121 = .ok (.if_icmp .le 7, 3) := by decide +kernel
theorem dX3_nextRow_124 : decode cX3_nextRow 124 = .ok (.iconst 1, 1) := by decide +kernel
theorem dX3_nextRow_125 : decode cX3_nextRow 125 = .ok (.goto 4, 3) := by decide +kernel
theorem dX3_nextRow_128 : decode cX3_nextRow 128 = .ok (.iconst 0, 1) := by decide +kernel
theorem dX3_nextRow_129 : decode cX3_nextRow 129 = .ok (.ireturn, 1) := by decide +kernel
theorem dX3_setOrder_0 : decode cX3_setOrder 0 = .ok (.aload_n 1, 1) := by decide +kernel
theorem dX3_setOrder_1 : decode cX3_setOrder 1 = .ok (.iconst 0, 1) := by decide +kernel
theorem dX3_setOrder_2 : decode cX3_setOrder 2 = .ok (.putfield 147, 3) := by decide +kernel
theorem dX3_setOrder_5 : decode cX3_setOrder 5 = .ok (.aload_n 0, 1) := by decide +kernel
theorem dX3_setOrder_6 : decode cX3_setOrder 6 = .ok (.getfield 28, 3) := by decide +kernel
theorem dX3_setOrder_9 : decode cX3_setOrder 9 = .ok (.aload_n 1, 1) := by decide +kernel
theorem dX3_setOrder_10 : decode cX3_setOrder 10 = .ok (.invokevirtual 144, 3) := by decide +kernel
theorem dX3_setOrder_13 : decode cX3_setOrder 13 = .ok (.iconst 0, 1) := by decide +kernel
theorem dX3_setOrder_14 : decode cX3_setOrder 14 = .ok (.istore_n 3, 1) := by decide +kernel
theorem dX3_setOrder_15 : decode cX3_setOrder 15 = .ok (.iload_n 3, 1) := by decide +kernel
theorem dX3_setOrder_16 : decode cX3_setOrder 16 = .ok (.aload_n 1, 1) := by decide +kernel
theorem dX3_setOrder_17 : decode cX3_setOrder 17 = .ok (.getfield 51, 3) := by decide +kernel
theorem dX3_setOrder_20 : decode cX3_setOrder 20 = .ok (.if_icmp .ge 52, 3) := by decide +kernel
theorem dX3_setOrder_23 : decode cX3_setOrder 23 = .ok (.iconst 0, 1) := by decide +kernel
theorem dX3_setOrder_24 : decode cX3_setOrder 24 = .ok (.istore 4, 2) := by decide +kernel
theorem dX3_setOrder_26 : decode cX3_setOrder 26 = .ok (.iload 4, 2) := by decide +kernel
theorem dX3_setOrder_28 : decode cX3_setOrder 28 = .ok (.aload_n 1, 1) := by decide +kernel
theorem dX3_setOrder_29 : decode cX3_setOrder 29 = .ok (.getfield 58, 3) := by decide +kernel
theorem dX3_setOrder_32 : decode cX3_setOrder 32 = .ok (.iload_n 3, 1) := by decide +kernel
theorem dX3_setOrder_33 : decode cX3_setOrder 33 = .ok (.iaload, 1) := by decide +kernel
theorem dX3_setOrder_34 : decode cX3_setOrder 34 = .ok (.if_icmp .ge 32, 3) := by decide +kernel
theorem dX3_setOrder_37 : decode cX3_setOrder 37 = .ok (.aload_n 1, 1) := by decide +kernel
theorem dX3_setOrder_38 : decode cX3_setOrder 38 = .ok (.getfield 162, 3) := by decide +kernel
theorem dX3_setOrder_41 : decode cX3_setOrder 41 = .ok (.iload_n 3, 1) := by decide +kernel
theorem dX3_setOrder_42 : decode cX3_setOrder 42 = .ok (.bipush 10, 2) := by decide +kernel
theorem dX3_setOrder_44 : decode cX3_setOrder 44 = .ok (.imul, 1) := by decide +kernel
theorem dX3_setOrder_45 : decode cX3_setOrder 45 = .ok (.iload 4, 2) := by decide +kernel
theorem dX3_setOrder_47 : decode cX3_setOrder 47 = .ok (.iadd, 1) := by decide +kernel
theorem dX3_setOrder_48 : decode cX3_setOrder 48 = .ok (.aload_n 0, 1) := by decide +kernel
theorem dX3_setOrder_49 : decode cX3_setOrder 49 = .ok (.getfield 28, 3) := by decide +kernel
theorem dX3_setOrder_52 : decode cX3_setOrder 52 = .ok (.iload_n 2, 1) := by decide +kernel
theorem dX3_setOrder_53 : decode cX3_setOrder 53 = .ok (.iload_n 3, 1) := by decide +kernel
theorem dX3_setOrder_54 : decode cX3_setOrder 54 = .ok (.iload 4, 2) := by decide +kernel
theorem dX3_setOrder_56 : decode cX3_setOrder 56 = .ok (.invokestatic 171, 3) := by decide +kernel
theorem dX3_setOrder_59 : decode cX3_setOrder 59 = .ok (.iastore, 1) := by decide +kernel
theorem dX3_setOrder_60 : decode cX3_setOrder 60 = .ok (.iinc 4 1, 3) := by decide +kernel
theorem dX3_setOrder_63 : decode cX3_setOrder 63 = .ok (.goto (-37), 3) := by decide +kernel
theorem dX3_setOrder_66 : decode cX3_setOrder 66 = .ok (.iinc 3 1, 3) := by decide +kernel
theorem dX3_setOrder_69 : decode cX3_setOrder 69 = .ok (.goto (-54), 3) := by decide +kernel
theorem dX3_setOrder_72 : decode cX3_setOrder 72 = .ok (.return_, 1) := by decide +kernel
theorem dX3_lineInOrder_0 : decode cX3_lineInOrder 0 = .ok (.lconst 1, 1) := by decide +kernel
theorem dX3_lineInOrder_1 : decode cX3_lineInOrder 1 = .ok (.lstore 4, 2) := by decide +kernel
theorem dX3_lineInOrder_3 : decode cX3_lineInOrder 3 = .ok (.iload_n 2, 1) := by decide +kernel
theorem dX3_lineInOrder_4 : decode cX3_lineInOrder 4 = .ok (.iconst 1, 1) := by decide +kernel
theorem dX3_lineInOrder_5 : decode cX3_lineInOrder 5 = .ok (.iadd, 1) := by decide +kernel
theorem dX3_lineInOrder_6 : decode cX3_lineInOrder 6 = .ok (.istore 6, 2) := by decide +kernel
theorem dX3_lineInOrder_8 : decode cX3_lineInOrder 8 = .ok (.iload 6, 2) := by decide +kernel
theorem dX3_lineInOrder_10 : decode cX3_lineInOrder 10 = .ok (.aload_n 0, 1) := by decide +kernel
theorem dX3_lineInOrder_11 : decode cX3_lineInOrder 11 = .ok (.getfield 51, 3) := by decide +kernel
theorem dX3_lineInOrder_14 : decode cX3_lineInOrder 14 = .ok (.if_icmp .ge 21, 3) := by decide +kernel
theorem dX3_lineInOrder_17 : decode cX3_lineInOrder 17 = .ok (.lload 4, 2) := by decide +kernel
theorem dX3_lineInOrder_19 : decode cX3_lineInOrder 19 = .ok (.aload_n 0, 1) := by decide +kernel
theorem dX3_lineInOrder_20 : decode cX3_lineInOrder 20 = .ok (.iload 6, 2) := by decide +kernel
theorem dX3_lineInOrder_22 : decode cX3_lineInOrder 22 = .ok (.invokestatic 54, 3) := by decide +kernel
theorem dX3_lineInOrder_25 : decode cX3_lineInOrder 25 = .ok (.i2l, 1) := by decide +kernel
theorem dX3_lineInOrder_26 : decode cX3_lineInOrder 26 = .ok (.lmul, 1) := by decide +kernel
theorem dX3_lineInOrder_27 : decode cX3_lineInOrder 27 = .ok (.lstore 4, 2) := by decide +kernel
theorem dX3_lineInOrder_29 : decode cX3_lineInOrder 29 = .ok (.iinc 6 1, 3) := by decide +kernel
theorem dX3_lineInOrder_32 : decode cX3_lineInOrder 32 = .ok (.goto (-24), 3) := by decide +kernel
theorem dX3_lineInOrder_35 : decode cX3_lineInOrder 35 = .ok (.aload_n 0, 1) := by decide +kernel
theorem dX3_lineInOrder_36 : decode cX3_lineInOrder 36 = .ok (.iload_n 2, 1) := by decide +kernel
theorem dX3_lineInOrder_37 : decode cX3_lineInOrder 37 = .ok (.invokestatic 54, 3) := by decide +kernel
theorem dX3_lineInOrder_40 : decode cX3_lineInOrder 40 = .ok (.istore 6, 2) := by decide +kernel
theorem dX3_lineInOrder_42 : decode cX3_lineInOrder 42 = .ok (.lload 4, 2) := by decide +kernel
theorem dX3_lineInOrder_44 : decode cX3_lineInOrder 44 = .ok (.lconst 0, 1) := by decide +kernel
theorem dX3_lineInOrder_45 : decode cX3_lineInOrder 45 = .ok (.lcmp, 1) := by decide +kernel
theorem dX3_lineInOrder_46 : decode cX3_lineInOrder 46 = .ok (.ifCond .le 8, 3) := by decide +kernel
theorem dX3_lineInOrder_49 : decode cX3_lineInOrder 49 = .ok (.iload 6, 2) := by decide +kernel
theorem dX3_lineInOrder_51 : decode cX3_lineInOrder 51 = .ok (.ifCond .gt 5, 3) := by decide +kernel
theorem dX3_lineInOrder_54 : decode cX3_lineInOrder 54 = .ok (.iconst (-1), 1) := by decide +kernel
theorem dX3_lineInOrder_55 : decode cX3_lineInOrder 55 = .ok (.ireturn, 1) := by decide +kernel
theorem dX3_lineInOrder_56 : decode cX3_lineInOrder 56 = .ok (.iload_n 1, 1) := by decide +kernel
theorem dX3_lineInOrder_57 : decode cX3_lineInOrder 57 = .ok (.i2l, 1) := by decide +kernel
theorem dX3_lineInOrder_58 : decode cX3_lineInOrder 58 = .ok (.lload 4, 2) := by decide +kernel
theorem dX3_lineInOrder_60 : decode cX3_lineInOrder 60 = .ok (.ldiv, 1) := by decide +kernel
theorem dX3_lineInOrder_61 : decode cX3_lineInOrder 61 = .ok (.iload 6, 2) := by decide +kernel
theorem dX3_lineInOrder_63 : decode cX3_lineInOrder 63 = .ok (.i2l, 1) := by decide +kernel
theorem dX3_lineInOrder_64 : decode cX3_lineInOrder 64 = .ok (.lrem, 1) := by decide +kernel
theorem dX3_lineInOrder_65 : decode cX3_lineInOrder 65 = .ok (.l2i, 1) := by decide +kernel
theorem dX3_lineInOrder_66 : decode cX3_lineInOrder 66 = .ok (.istore 7, 2) := by decide +kernel
theorem dX3_lineInOrder_68 : decode cX3_lineInOrder 68 = .ok (.iconst 0, 1) := by decide +kernel
theorem dX3_lineInOrder_69 : decode cX3_lineInOrder 69 = .ok (.istore 8, 2) := by decide +kernel
theorem dX3_lineInOrder_71 : decode cX3_lineInOrder 71 = .ok (.iconst 0, 1) := by decide +kernel
theorem dX3_lineInOrder_72 : decode cX3_lineInOrder 72 = .ok (.istore 9, 2) := by decide +kernel
theorem dX3_lineInOrder_74 : decode cX3_lineInOrder 74 = .ok (.iload 9, 2) := by decide +kernel
theorem dX3_lineInOrder_76 : decode cX3_lineInOrder 76 = .ok (.aload_n 0, 1) := by decide +kernel
theorem dX3_lineInOrder_77 : decode cX3_lineInOrder 77 = .ok (.getfield 58, 3) := by decide +kernel
theorem dX3_lineInOrder_80 : decode cX3_lineInOrder 80 = .ok (.iload_n 2, 1) := by decide +kernel
theorem dX3_lineInOrder_81 : decode cX3_lineInOrder 81 = .ok (.iaload, 1) := by decide +kernel
theorem dX3_lineInOrder_82 : decode cX3_lineInOrder 82 = .ok (.if_icmp .ge 23, 3) := by decide +kernel
theorem dX3_lineInOrder_85 : decode cX3_lineInOrder 85 = .ok (.iload 8, 2) := by decide +kernel
theorem dX3_lineInOrder_87 : decode cX3_lineInOrder 87 = .ok (.iconst 1, 1) := by decide +kernel
theorem dX3_lineInOrder_88 : decode cX3_lineInOrder 88 = .ok (.aload_n 0, 1) := by decide +kernel
theorem dX3_lineInOrder_89 : decode cX3_lineInOrder 89 = .ok (.iload_n 2, 1) := by decide +kernel
theorem dX3_lineInOrder_90 : decode cX3_lineInOrder 90 = .ok (.iload 9, 2) := by decide +kernel
theorem dX3_lineInOrder_92 : decode cX3_lineInOrder 92 = .ok (.invokevirtual 175, 3) := by decide +kernel
theorem dX3_lineInOrder_95 : decode cX3_lineInOrder 95 = .ok (.ishl, 1) := by decide +kernel
theorem dX3_lineInOrder_96 : decode cX3_lineInOrder 96 = .ok (.ior, 1) := by decide +kernel
theorem dX3_lineInOrder_97 : decode cX3_lineInOrder 97 = .ok (.istore 8, 2) := by decide +kernel
theorem dX3_lineInOrder_99 : decode cX3_lineInOrder 99 = .ok (.iinc 9 1, 3) := by decide +kernel
theorem dX3_lineInOrder_102 : decode cX3_lineInOrder 102 = .ok (.goto (-28), 3) := by decide +kernel
theorem dX3_lineInOrder_105 : decode cX3_lineInOrder 105 = .ok (.iload 8, 2) := by decide +kernel
theorem dX3_lineInOrder_107 : decode cX3_lineInOrder 107 = .ok (.iconst 0, 1) := by decide +kernel
theorem dX3_lineInOrder_108 : decode cX3_lineInOrder 108 = .ok (.invokestatic 178, 3) := by decide +kernel
theorem dX3_lineInOrder_111 : decode cX3_lineInOrder 111 = .ok (.istore 9, 2) := by decide +kernel
theorem dX3_lineInOrder_113 : decode cX3_lineInOrder 113 = .ok (.iconst 1, 1) := by decide +kernel
theorem dX3_lineInOrder_114 : decode cX3_lineInOrder 114 = .ok (.istore 10, 2) := by decide +kernel
theorem dX3_lineInOrder_116 : decode cX3_lineInOrder 116 = .ok (.iload 10, 2) := by decide +kernel
theorem dX3_lineInOrder_118 : decode cX3_lineInOrder 118 = .ok (.iload_n 3, 1) := by decide +kernel
theorem dX3_lineInOrder_119 : decode cX3_lineInOrder 119 = .ok (.if_icmp .gt 59, 3) := by decide +kernel
theorem dX3_lineInOrder_122 : decode cX3_lineInOrder 122 = .ok (.iload 8, 2) := by decide +kernel
theorem dX3_lineInOrder_124 : decode cX3_lineInOrder 124 = .ok (.iconst 1, 1) := by decide +kernel
theorem dX3_lineInOrder_125 : decode cX3_lineInOrder 125 = .ok (.iload 9, 2) := by decide +kernel
theorem dX3_lineInOrder_127 : decode cX3_lineInOrder 127 = .ok (.ishl, 1) := by decide +kernel
theorem dX3_lineInOrder_128 : decode cX3_lineInOrder 128 = .ok (.iconst (-1), 1) := by decide +kernel
theorem dX3_lineInOrder_129 : decode cX3_lineInOrder 129 = .ok (.ixor, 1) := by decide +kernel
theorem dX3_lineInOrder_130 : decode cX3_lineInOrder 130 = .ok (.iand, 1) := by decide +kernel
theorem dX3_lineInOrder_131 : decode cX3_lineInOrder 131 = .ok (.istore 8, 2) := by decide +kernel
theorem dX3_lineInOrder_133 : decode cX3_lineInOrder 133 = .ok (.iconst 1, 1) := by decide +kernel
theorem dX3_lineInOrder_134 : decode cX3_lineInOrder 134 = .ok (.aload_n 0, 1) := by decide +kernel
theorem dX3_lineInOrder_135 : decode cX3_lineInOrder 135 = .ok (.getfield 58, 3) := by decide +kernel
theorem dX3_lineInOrder_138 : decode cX3_lineInOrder 138 = .ok (.iload_n 2, 1) := by decide +kernel
theorem dX3_lineInOrder_139 : decode cX3_lineInOrder 139 = .ok (.iaload, 1) := by decide +kernel
theorem dX3_lineInOrder_140 : decode cX3_lineInOrder 140 = .ok (.iconst 1, 1) := by decide +kernel
theorem dX3_lineInOrder_141 : decode cX3_lineInOrder 141 = .ok (.isub, 1) := by decide +kernel
theorem dX3_lineInOrder_142 : decode cX3_lineInOrder 142 = .ok (.iload 10, 2) := by decide +kernel
theorem dX3_lineInOrder_144 : decode cX3_lineInOrder 144 = .ok (.isub, 1) := by decide +kernel
theorem dX3_lineInOrder_145 : decode cX3_lineInOrder 145 = .ok (.invokestatic 61, 3) := by decide +kernel
theorem dX3_lineInOrder_148 : decode cX3_lineInOrder 148 = .ok (.invokestatic 112, 3) := by decide +kernel
theorem dX3_lineInOrder_151 : decode cX3_lineInOrder 151 = .ok (.istore 11, 2) := by decide +kernel
theorem dX3_lineInOrder_153 : decode cX3_lineInOrder 153 = .ok (.iload 8, 2) := by decide +kernel
theorem dX3_lineInOrder_155 : decode cX3_lineInOrder 155 = .ok (.iload 7, 2) := by decide +kernel
theorem dX3_lineInOrder_157 : decode cX3_lineInOrder 157 = .ok (.iload 11, 2) := by decide +kernel
theorem dX3_lineInOrder_159 : decode cX3_lineInOrder 159 = .ok (.idiv, 1) := by decide +kernel
theorem dX3_lineInOrder_160 : decode cX3_lineInOrder 160 = .ok (.invokestatic 178, 3) := by decide +kernel
theorem dX3_lineInOrder_163 : decode cX3_lineInOrder 163 = .ok (.istore 9, 2) := by decide +kernel
theorem dX3_lineInOrder_165 : decode cX3_lineInOrder 165 = .ok (.iload 7, 2) := by decide +kernel
theorem dX3_lineInOrder_167 : decode cX3_lineInOrder 167 = .ok (.iload 11, 2) := by decide +kernel
theorem dX3_lineInOrder_169 : decode cX3_lineInOrder 169 = .ok (.irem, 1) := by decide +kernel
theorem dX3_lineInOrder_170 : decode cX3_lineInOrder 170 = .ok (.istore 7, 2) := by decide +kernel
theorem dX3_lineInOrder_172 : decode cX3_lineInOrder 172 = .ok (.iinc 10 1, 3) := by decide +kernel
theorem dX3_lineInOrder_175 : decode cX3_lineInOrder 175 = .ok (.goto (-59), 3) := by decide +kernel
theorem dX3_lineInOrder_178 : decode cX3_lineInOrder 178 = .ok (.iload 9, 2) := by decide +kernel
theorem dX3_lineInOrder_180 : decode cX3_lineInOrder 180 = .ok (.ireturn, 1) := by decide +kernel
theorem dX3_lowestBut_0 : decode cX3_lowestBut 0 = .ok (.iload_n 1, 1) := by decide +kernel
theorem dX3_lowestBut_1 : decode cX3_lowestBut 1 = .ok (.istore_n 2, 1) := by decide +kernel
theorem dX3_lowestBut_2 : decode cX3_lowestBut 2 = .ok (.iconst 0, 1) := by decide +kernel
theorem dX3_lowestBut_3 : decode cX3_lowestBut 3 = .ok (.istore_n 3, 1) := by decide +kernel
theorem dX3_lowestBut_4 : decode cX3_lowestBut 4 = .ok (.iload_n 3, 1) := by decide +kernel
theorem dX3_lowestBut_5 : decode cX3_lowestBut 5 = .ok (.bipush 10, 2) := by decide +kernel
theorem dX3_lowestBut_7 : decode cX3_lowestBut 7 = .ok (.if_icmp .ge 26, 3) := by decide +kernel
theorem dX3_lowestBut_10 : decode cX3_lowestBut 10 = .ok (.iload_n 0, 1) := by decide +kernel
theorem dX3_lowestBut_11 : decode cX3_lowestBut 11 = .ok (.iload_n 3, 1) := by decide +kernel
theorem dX3_lowestBut_12 : decode cX3_lowestBut 12 = .ok (.ishr, 1) := by decide +kernel
theorem dX3_lowestBut_13 : decode cX3_lowestBut 13 = .ok (.iconst 1, 1) := by decide +kernel
theorem dX3_lowestBut_14 : decode cX3_lowestBut 14 = .ok (.iand, 1) := by decide +kernel
theorem dX3_lowestBut_15 : decode cX3_lowestBut 15 = .ok (.ifCond .eq 12, 3) := by decide +kernel
theorem dX3_lowestBut_18 : decode cX3_lowestBut 18 = .ok (.iload_n 2, 1) := by decide +kernel
theorem dX3_lowestBut_19 : decode cX3_lowestBut 19 = .ok (.ifCond .ne 5, 3) := by decide +kernel
theorem dX3_lowestBut_22 : decode cX3_lowestBut 22 = .ok (.iload_n 3, 1) := by decide +kernel
theorem dX3_lowestBut_23 : decode cX3_lowestBut 23 = .ok (.ireturn, 1) := by decide +kernel
theorem dX3_lowestBut_24 : decode cX3_lowestBut 24 = .ok (.iinc 2 (-1), 3) := by decide +kernel
theorem dX3_lowestBut_27 : decode cX3_lowestBut 27 = .ok (.iinc 3 1, 3) := by decide +kernel
theorem dX3_lowestBut_30 : decode cX3_lowestBut 30 = .ok (.goto (-26), 3) := by decide +kernel
theorem dX3_lowestBut_33 : decode cX3_lowestBut 33 = .ok (.iconst 0, 1) := by decide +kernel
theorem dX3_lowestBut_34 : decode cX3_lowestBut 34 = .ok (.ireturn, 1) := by decide +kernel
theorem dX4_init_0 : decode cX4_init 0 = .ok (.aload_n 0, 1) := by decide +kernel
theorem dX4_init_1 : decode cX4_init 1 = .ok (.invokespecial 3, 3) := by decide +kernel
theorem dX4_init_4 : decode cX4_init 4 = .ok (.aload_n 0, 1) := by decide +kernel
theorem dX4_init_5 : decode cX4_init 5 = .ok (.iconst 0, 1) := by decide +kernel
theorem dX4_init_6 : decode cX4_init 6 = .ok (.putfield 9, 3) := by decide +kernel
theorem dX4_init_9 : decode cX4_init 9 = .ok (.aload_n 0, 1) := by decide +kernel
theorem dX4_init_10 : decode cX4_init 10 = .ok (.iconst (-1), 1) := by decide +kernel
theorem dX4_init_11 : decode cX4_init 11 = .ok (.putfield 15, 3) := by decide +kernel
theorem dX4_init_14 : decode cX4_init 14 = .ok (.aload_n 0, 1) := by decide +kernel
theorem dX4_init_15 : decode cX4_init 15 = .ok (.iconst 0, 1) := by decide +kernel
theorem dX4_init_16 : decode cX4_init 16 = .ok (.putfield 18, 3) := by decide +kernel
theorem dX4_init_19 : decode cX4_init 19 = .ok (.aload_n 0, 1) := by decide +kernel
theorem dX4_init_20 : decode cX4_init 20 = .ok (.iconst 0, 1) := by decide +kernel
theorem dX4_init_21 : decode cX4_init 21 = .ok (.putfield 21, 3) := by decide +kernel
theorem dX4_init_24 : decode cX4_init 24 = .ok (.aload_n 0, 1) := by decide +kernel
theorem dX4_init_25 : decode cX4_init 25 = .ok (.iconst 0, 1) := by decide +kernel
theorem dX4_init_26 : decode cX4_init 26 = .ok (.putfield 24, 3) := by decide +kernel
theorem dX4_init_29 : decode cX4_init 29 = .ok (.aload_n 0, 1) := by decide +kernel
theorem dX4_init_30 : decode cX4_init 30 = .ok (.bipush 6, 2) := by decide +kernel
theorem dX4_init_32 : decode cX4_init 32 = .ok (.newarray .long, 2) := by decide +kernel
theorem dX4_init_34 : decode cX4_init 34 = .ok (.putfield 27, 3) := by decide +kernel
theorem dX4_init_37 : decode cX4_init 37 = .ok (.aload_n 0, 1) := by decide +kernel
theorem dX4_init_38 : decode cX4_init 38 = .ok (.bipush 20, 2) := by decide +kernel
theorem dX4_init_40 : decode cX4_init 40 = .ok (.newarray .int, 2) := by decide +kernel
theorem dX4_init_42 : decode cX4_init 42 = .ok (.putfield 31, 3) := by decide +kernel
theorem dX4_init_45 : decode cX4_init 45 = .ok (.return_, 1) := by decide +kernel
theorem dX4_check_0 : decode cX4_check 0 = .ok (.aload_n 0, 1) := by decide +kernel
theorem dX4_check_1 : decode cX4_check 1 = .ok (.iconst 0, 1) := by decide +kernel
theorem dX4_check_2 : decode cX4_check 2 = .ok (.putfield 9, 3) := by decide +kernel
theorem dX4_check_5 : decode cX4_check 5 = .ok (.aload_n 0, 1) := by decide +kernel
theorem dX4_check_6 : decode cX4_check 6 = .ok (.iconst (-1), 1) := by decide +kernel
theorem dX4_check_7 : decode cX4_check 7 = .ok (.putfield 15, 3) := by decide +kernel
theorem dX4_check_10 : decode cX4_check 10 = .ok (.aload_n 0, 1) := by decide +kernel
theorem dX4_check_11 : decode cX4_check 11 = .ok (.aload_n 1, 1) := by decide +kernel
theorem dX4_check_12 : decode cX4_check 12 = .ok (.invokevirtual 35, 3) := by decide +kernel
theorem dX4_check_15 : decode cX4_check 15 = .ok (.aload_n 0, 1) := by decide +kernel
theorem dX4_check_16 : decode cX4_check 16 = .ok (.aload_n 1, 1) := by decide +kernel
theorem dX4_check_17 : decode cX4_check 17 = .ok (.invokevirtual 39, 3) := by decide +kernel
theorem dX4_check_20 : decode cX4_check 20 = .ok (.iconst 0, 1) := by decide +kernel
theorem dX4_check_21 : decode cX4_check 21 = .ok (.istore_n 2, 1) := by decide +kernel
theorem dX4_check_22 : decode cX4_check 22 = .ok (.iconst 0, 1) := by decide +kernel
theorem dX4_check_23 : decode cX4_check 23 = .ok (.istore_n 3, 1) := by decide +kernel
theorem dX4_check_24 : decode cX4_check 24 = .ok (.iload_n 3, 1) := by decide +kernel
theorem dX4_check_25 : decode cX4_check 25 = .ok (.iconst 2, 1) := by decide +kernel
theorem dX4_check_26 : decode cX4_check 26 = .ok (.iadd, 1) := by decide +kernel
theorem dX4_check_27 : decode cX4_check 27 = .ok (.aload_n 1, 1) := by decide +kernel
theorem dX4_check_28 : decode cX4_check 28 = .ok (.getfield 42, 3) := by decide +kernel
theorem dX4_check_31 : decode cX4_check 31 = .ok (.if_icmp .ge 80, 3) := by decide +kernel
theorem dX4_check_34 : decode cX4_check 34 = .ok (.aload_n 0, 1) := by decide +kernel
theorem dX4_check_35 : decode cX4_check 35 = .ok (.getfield 9, 3) := by decide +kernel
theorem dX4_check_38 : decode cX4_check 38 = .ok (.ifCond .ne 73, 3) := by decide +kernel
theorem dX4_check_41 : decode cX4_check 41 = .ok (.aload_n 1, 1) := by decide +kernel
theorem dX4_check_42 : decode cX4_check 42 = .ok (.getfield 47, 3) := by decide +kernel
theorem dX4_check_45 : decode cX4_check 45 = .ok (.iload_n 3, 1) := by decide +kernel
theorem dX4_check_46 : decode cX4_check 46 = .ok (.iaload, 1) := by decide +kernel
theorem dX4_check_47 : decode cX4_check 47 = .ok (.iconst 1, 1) := by decide +kernel
theorem dX4_check_48 : decode cX4_check 48 = .ok (.if_icmp .ne 18, 3) := by decide +kernel
theorem dX4_check_51 : decode cX4_check 51 = .ok (.aload_n 0, 1) := by decide +kernel
theorem dX4_check_52 : decode cX4_check 52 = .ok (.aload_n 1, 1) := by decide +kernel
theorem dX4_check_53 : decode cX4_check 53 = .ok (.iload_n 3, 1) := by decide +kernel
theorem dX4_check_54 : decode cX4_check 54 = .ok (.iconst 1, 1) := by decide +kernel
theorem dX4_check_55 : decode cX4_check 55 = .ok (.iadd, 1) := by decide +kernel
theorem dX4_check_56 : decode cX4_check 56 = .ok (.iload_n 2, 1) := by decide +kernel
theorem dX4_check_57 : decode cX4_check 57 = .ok (.invokevirtual 50, 3) := by decide +kernel
theorem dX4_check_60 : decode cX4_check 60 = .ok (.iinc 2 1, 3) := by decide +kernel
theorem dX4_check_63 : decode cX4_check 63 = .ok (.goto 42, 3) := by decide +kernel
theorem dX4_check_66 : decode cX4_check 66 = .ok (.aload_n 1, 1) := by decide +kernel
theorem dX4_check_67 : decode cX4_check 67 = .ok (.getfield 47, 3) := by decide +kernel
theorem dX4_check_70 : decode cX4_check 70 = .ok (.iload_n 3, 1) := by decide +kernel
theorem dX4_check_71 : decode cX4_check 71 = .ok (.iaload, 1) := by decide +kernel
theorem dX4_check_72 : decode cX4_check 72 = .ok (.iconst 2, 1) := by decide +kernel
theorem dX4_check_73 : decode cX4_check 73 = .ok (.if_icmp .ne 14, 3) := by decide +kernel
theorem dX4_check_76 : decode cX4_check 76 = .ok (.aload_n 0, 1) := by decide +kernel
theorem dX4_check_77 : decode cX4_check 77 = .ok (.aload_n 1, 1) := by decide +kernel
theorem dX4_check_78 : decode cX4_check 78 = .ok (.iload_n 3, 1) := by decide +kernel
theorem dX4_check_79 : decode cX4_check 79 = .ok (.iconst 1, 1) := by decide +kernel
theorem dX4_check_80 : decode cX4_check 80 = .ok (.iadd, 1) := by decide +kernel
theorem dX4_check_81 : decode cX4_check 81 = .ok (.invokevirtual 54, 3) := by decide +kernel
theorem dX4_check_84 : decode cX4_check 84 = .ok (.goto 21, 3) := by decide +kernel
theorem dX4_check_87 : decode cX4_check 87 = .ok (.aload_n 1, 1) := by decide +kernel
theorem dX4_check_88 : decode cX4_check 88 = .ok (.getfield 47, 3) := by decide +kernel
theorem dX4_check_91 : decode cX4_check 91 = .ok (.iload_n 3, 1) := by decide +kernel
theorem dX4_check_92 : decode cX4_check 92 = .ok (.iaload, 1) := by decide +kernel
theorem dX4_check_93 : decode cX4_check 93 = .ok (.iconst 3, 1) := by decide +kernel
theorem dX4_check_94 : decode cX4_check 94 = .ok (.if_icmp .ne 11, 3) := by decide +kernel
theorem dX4_check_97 : decode cX4_check 97 = .ok (.aload_n 0, 1) := by decide +kernel
theorem dX4_check_98 : decode cX4_check 98 = .ok (.aload_n 1, 1) := by decide +kernel
theorem dX4_check_99 : decode cX4_check 99 = .ok (.iload_n 3, 1) := by decide +kernel
theorem dX4_check_100 : decode cX4_check 100 = .ok (.iconst 1, 1) := by decide +kernel
theorem dX4_check_101 : decode cX4_check 101 = .ok (.iadd, 1) := by decide +kernel
theorem dX4_check_102 : decode cX4_check 102 = .ok (.invokevirtual 58, 3) := by decide +kernel
theorem dX4_check_105 : decode cX4_check 105 = .ok (.iinc 3 1, 3) := by decide +kernel
theorem dX4_check_108 : decode cX4_check 108 = .ok (.goto (-84), 3) := by decide +kernel
theorem dX4_check_111 : decode cX4_check 111 = .ok (.aload_n 0, 1) := by decide +kernel
theorem dX4_check_112 : decode cX4_check 112 = .ok (.getfield 9, 3) := by decide +kernel
theorem dX4_check_115 : decode cX4_check 115 = .ok (.ireturn, 1) := by decide +kernel
theorem dX4_build_0 : decode cX4_build 0 = .ok (.aload_n 2, 1) := by decide +kernel
theorem dX4_build_1 : decode cX4_build 1 = .ok (.aload_n 0, 1) := by decide +kernel
theorem dX4_build_2 : decode cX4_build 2 = .ok (.getfield 18, 3) := by decide +kernel
theorem dX4_build_5 : decode cX4_build 5 = .ok (.putfield 61, 3) := by decide +kernel
theorem dX4_build_8 : decode cX4_build 8 = .ok (.aload_n 2, 1) := by decide +kernel
theorem dX4_build_9 : decode cX4_build 9 = .ok (.aload_n 0, 1) := by decide +kernel
theorem dX4_build_10 : decode cX4_build 10 = .ok (.getfield 21, 3) := by decide +kernel
theorem dX4_build_13 : decode cX4_build 13 = .ok (.putfield 64, 3) := by decide +kernel
theorem dX4_build_16 : decode cX4_build 16 = .ok (.aload_n 2, 1) := by decide +kernel
theorem dX4_build_17 : decode cX4_build 17 = .ok (.aload_n 0, 1) := by decide +kernel
theorem dX4_build_18 : decode cX4_build 18 = .ok (.getfield 24, 3) := by decide +kernel
theorem dX4_build_21 : decode cX4_build 21 = .ok (.putfield 65, 3) := by decide +kernel
theorem dX4_build_24 : decode cX4_build 24 = .ok (.aload_n 0, 1) := by decide +kernel
theorem dX4_build_25 : decode cX4_build 25 = .ok (.getfield 31, 3) := by decide +kernel
theorem dX4_build_28 : decode cX4_build 28 = .ok (.iconst 0, 1) := by decide +kernel
theorem dX4_build_29 : decode cX4_build 29 = .ok (.aload_n 2, 1) := by decide +kernel
theorem dX4_build_30 : decode cX4_build 30 = .ok (.getfield 66, 3) := by decide +kernel
theorem dX4_build_33 : decode cX4_build 33 = .ok (.iconst 0, 1) := by decide +kernel
theorem dX4_build_34 : decode cX4_build 34 = .ok (.bipush 20, 2) := by decide +kernel
theorem dX4_build_36 : decode cX4_build 36 = .ok (.invokestatic 67, 3) := by decide +kernel
theorem dX4_build_39 : decode cX4_build 39 = .ok (.aload_n 2, 1) := by decide +kernel
theorem dX4_build_40 : decode cX4_build 40 = .ok (.invokevirtual 73, 3) := by decide +kernel
theorem dX4_build_43 : decode cX4_build 43 = .ok (.iconst 0, 1) := by decide +kernel
theorem dX4_build_44 : decode cX4_build 44 = .ok (.istore_n 3, 1) := by decide +kernel
theorem dX4_build_45 : decode cX4_build 45 = .ok (.iload_n 3, 1) := by decide +kernel
theorem dX4_build_46 : decode cX4_build 46 = .ok (.iconst 2, 1) := by decide +kernel
theorem dX4_build_47 : decode cX4_build 47 = .ok (.iadd, 1) := by decide +kernel
theorem dX4_build_48 : decode cX4_build 48 = .ok (.aload_n 1, 1) := by decide +kernel
theorem dX4_build_49 : decode cX4_build 49 = .ok (.getfield 42, 3) := by decide +kernel
theorem dX4_build_52 : decode cX4_build 52 = .ok (.if_icmp .ge 28, 3) := by decide +kernel
theorem dX4_build_55 : decode cX4_build 55 = .ok (.aload_n 1, 1) := by decide +kernel
theorem dX4_build_56 : decode cX4_build 56 = .ok (.getfield 47, 3) := by decide +kernel
theorem dX4_build_59 : decode cX4_build 59 = .ok (.iload_n 3, 1) := by decide +kernel
theorem dX4_build_60 : decode cX4_build 60 = .ok (.iaload, 1) := by decide +kernel
theorem dX4_build_61 : decode cX4_build 61 = .ok (.iconst 3, 1) := by decide +kernel
theorem dX4_build_62 : decode cX4_build 62 = .ok (.if_icmp .ne 12, 3) := by decide +kernel
theorem dX4_build_65 : decode cX4_build 65 = .ok (.aload_n 0, 1) := by decide +kernel
theorem dX4_build_66 : decode cX4_build 66 = .ok (.aload_n 1, 1) := by decide +kernel
theorem dX4_build_67 : decode cX4_build 67 = .ok (.iload_n 3, 1) := by decide +kernel
theorem dX4_build_68 : decode cX4_build 68 = .ok (.iconst 1, 1) := by decide +kernel
theorem dX4_build_69 : decode cX4_build 69 = .ok (.iadd, 1) := by decide +kernel
theorem dX4_build_70 : decode cX4_build 70 = .ok (.aload_n 2, 1) := by decide +kernel
theorem dX4_build_71 : decode cX4_build 71 = .ok (.invokevirtual 76, 3) := by decide +kernel
theorem dX4_build_74 : decode cX4_build 74 = .ok (.iinc 3 1, 3) := by decide +kernel
theorem dX4_build_77 : decode cX4_build 77 = .ok (.goto (-32), 3) := by decide +kernel
theorem dX4_build_80 : decode cX4_build 80 = .ok (.return_, 1) := by decide +kernel
theorem dX4_fail_0 : decode cX4_fail 0 = .ok (.aload_n 0, 1) := by decide +kernel
theorem dX4_fail_1 : decode cX4_fail 1 = .ok (.iload_n 1, 1) := by decide +kernel
theorem dX4_fail_2 : decode cX4_fail 2 = .ok (.putfield 9, 3) := by decide +kernel
theorem dX4_fail_5 : decode cX4_fail 5 = .ok (.aload_n 0, 1) := by decide +kernel
theorem dX4_fail_6 : decode cX4_fail 6 = .ok (.iload_n 2, 1) := by decide +kernel
theorem dX4_fail_7 : decode cX4_fail 7 = .ok (.putfield 15, 3) := by decide +kernel
theorem dX4_fail_10 : decode cX4_fail 10 = .ok (.return_, 1) := by decide +kernel
theorem dX4_gatherPosts_0 : decode cX4_gatherPosts 0 = .ok (.aload_n 0, 1) := by decide +kernel
theorem dX4_gatherPosts_1 : decode cX4_gatherPosts 1 = .ok (.iconst 0, 1) := by decide +kernel
theorem dX4_gatherPosts_2 : decode cX4_gatherPosts 2 = .ok (.putfield 18, 3) := by decide +kernel
theorem dX4_gatherPosts_5 : decode cX4_gatherPosts 5 = .ok (.iconst 0, 1) := by decide +kernel
theorem dX4_gatherPosts_6 : decode cX4_gatherPosts 6 = .ok (.istore_n 2, 1) := by decide +kernel
theorem dX4_gatherPosts_7 : decode cX4_gatherPosts 7 = .ok (.iload_n 2, 1) := by decide +kernel
theorem dX4_gatherPosts_8 : decode cX4_gatherPosts 8 = .ok (.iconst 1, 1) := by decide +kernel
theorem dX4_gatherPosts_9 : decode cX4_gatherPosts 9 = .ok (.iadd, 1) := by decide +kernel
theorem dX4_gatherPosts_10 : decode cX4_gatherPosts 10 = .ok (.aload_n 1, 1) := by decide +kernel
theorem dX4_gatherPosts_11 : decode cX4_gatherPosts 11 = .ok (.getfield 42, 3) := by decide +kernel
theorem dX4_gatherPosts_14 : decode cX4_gatherPosts 14 = .ok (.if_icmp .ge 55, 3) := by decide +kernel
theorem dX4_gatherPosts_17 : decode cX4_gatherPosts 17 = .ok (.aload_n 1, 1) := by decide +kernel
theorem dX4_gatherPosts_18 : decode cX4_gatherPosts 18 = .ok (.getfield 47, 3) := by decide +kernel
theorem dX4_gatherPosts_21 : decode cX4_gatherPosts 21 = .ok (.iload_n 2, 1) := by decide +kernel
theorem dX4_gatherPosts_22 : decode cX4_gatherPosts 22 = .ok (.iaload, 1) := by decide +kernel
theorem dX4_gatherPosts_23 : decode cX4_gatherPosts 23 = .ok (.iconst 1, 1) := by decide +kernel
theorem dX4_gatherPosts_24 : decode cX4_gatherPosts 24 = .ok (.if_icmp .ne 39, 3) := by decide +kernel
theorem dX4_gatherPosts_27 : decode cX4_gatherPosts 27 = .ok (.aload_n 0, 1) := by decide +kernel
theorem dX4_gatherPosts_28 : decode cX4_gatherPosts 28 = .ok (.getfield 18, 3) := by decide +kernel
theorem dX4_gatherPosts_31 : decode cX4_gatherPosts 31 = .ok (.bipush 6, 2) := by decide +kernel
theorem dX4_gatherPosts_33 : decode cX4_gatherPosts 33 = .ok (.if_icmp .ge 30, 3) := by decide +kernel
theorem dX4_gatherPosts_36 : decode cX4_gatherPosts 36 = .ok (.aload_n 0, 1) := by decide +kernel
theorem dX4_gatherPosts_37 : decode cX4_gatherPosts 37 = .ok (.getfield 27, 3) := by decide +kernel
theorem dX4_gatherPosts_40 : decode cX4_gatherPosts 40 = .ok (.aload_n 0, 1) := by decide +kernel
theorem dX4_gatherPosts_41 : decode cX4_gatherPosts 41 = .ok (.getfield 18, 3) := by decide +kernel
theorem dX4_gatherPosts_44 : decode cX4_gatherPosts 44 = .ok (.aload_n 1, 1) := by decide +kernel
theorem dX4_gatherPosts_45 : decode cX4_gatherPosts 45 = .ok (.getfield 80, 3) := by decide +kernel
theorem dX4_gatherPosts_48 : decode cX4_gatherPosts 48 = .ok (.iload_n 2, 1) := by decide +kernel
theorem dX4_gatherPosts_49 : decode cX4_gatherPosts 49 = .ok (.iconst 1, 1) := by decide +kernel
theorem dX4_gatherPosts_50 : decode cX4_gatherPosts 50 = .ok (.iadd, 1) := by decide +kernel
theorem dX4_gatherPosts_51 : decode cX4_gatherPosts 51 = .ok (.laload, 1) := by decide +kernel
theorem dX4_gatherPosts_52 : decode cX4_gatherPosts 52 = .ok (.lastore, 1) := by decide +kernel
theorem dX4_gatherPosts_53 : decode cX4_gatherPosts 53 = .ok (.aload_n 0, 1) := by decide +kernel
theorem dX4_gatherPosts_54 : decode cX4_gatherPosts 54 = .ok (.dup, 1) := by decide +kernel
theorem dX4_gatherPosts_55 : decode cX4_gatherPosts 55 = .ok (.getfield 18, 3) := by decide +kernel
theorem dX4_gatherPosts_58 : decode cX4_gatherPosts 58 = .ok (.iconst 1, 1) := by decide +kernel
theorem dX4_gatherPosts_59 : decode cX4_gatherPosts 59 = .ok (.iadd, 1) := by decide +kernel
theorem dX4_gatherPosts_60 : decode cX4_gatherPosts 60 = .ok (.putfield 18, 3) := by decide +kernel
theorem dX4_gatherPosts_63 : decode cX4_gatherPosts 63 = .ok (.iinc 2 1, 3) := by decide +kernel
theorem dX4_gatherPosts_66 : decode cX4_gatherPosts 66 = .ok (.goto (-59), 3) := by decide +kernel
theorem dX4_gatherPosts_69 : decode cX4_gatherPosts 69 = .ok (.return_, 1) := by decide +kernel
theorem dX4_gatherLines_0 : decode cX4_gatherLines 0 = .ok (.aload_n 0, 1) := by decide +kernel
theorem dX4_gatherLines_1 : decode cX4_gatherLines 1 = .ok (.iconst 0, 1) := by decide +kernel
theorem dX4_gatherLines_2 : decode cX4_gatherLines 2 = .ok (.putfield 21, 3) := by decide +kernel
theorem dX4_gatherLines_5 : decode cX4_gatherLines 5 = .ok (.aload_n 0, 1) := by decide +kernel
theorem dX4_gatherLines_6 : decode cX4_gatherLines 6 = .ok (.iconst 0, 1) := by decide +kernel
theorem dX4_gatherLines_7 : decode cX4_gatherLines 7 = .ok (.putfield 24, 3) := by decide +kernel
theorem dX4_gatherLines_10 : decode cX4_gatherLines 10 = .ok (.iconst 0, 1) := by decide +kernel
theorem dX4_gatherLines_11 : decode cX4_gatherLines 11 = .ok (.istore_n 2, 1) := by decide +kernel
theorem dX4_gatherLines_12 : decode cX4_gatherLines 12 = .ok (.iload_n 2, 1) := by decide +kernel
theorem dX4_gatherLines_13 : decode cX4_gatherLines 13 = .ok (.aload_n 1, 1) := by decide +kernel
theorem dX4_gatherLines_14 : decode cX4_gatherLines 14 = .ok (.getfield 42, 3) := by decide +kernel
theorem dX4_gatherLines_17 : decode cX4_gatherLines 17 = .ok (.if_icmp .ge 133, 3) := by decide +kernel
theorem dX4_gatherLines_20 : decode cX4_gatherLines 20 = .ok (.aload_n 1, 1) := by decide +kernel
theorem dX4_gatherLines_21 : decode cX4_gatherLines 21 = .ok (.getfield 47, 3) := by decide +kernel
theorem dX4_gatherLines_24 : decode cX4_gatherLines 24 = .ok (.iload_n 2, 1) := by decide +kernel
theorem dX4_gatherLines_25 : decode cX4_gatherLines 25 = .ok (.iaload, 1) := by decide +kernel
theorem dX4_gatherLines_26 : decode cX4_gatherLines 26 = .ok (.iconst 2, 1) := by decide +kernel
theorem dX4_gatherLines_27 : decode cX4_gatherLines 27 = .ok (.if_icmp .ne 83, 3) := by decide +kernel
theorem dX4_gatherLines_30 : decode cX4_gatherLines 30 = .ok (.iload_n 2, 1) := by decide +kernel
theorem dX4_gatherLines_31 : decode cX4_gatherLines 31 = .ok (.iconst 2, 1) := by decide +kernel
theorem dX4_gatherLines_32 : decode cX4_gatherLines 32 = .ok (.iadd, 1) := by decide +kernel
theorem dX4_gatherLines_33 : decode cX4_gatherLines 33 = .ok (.aload_n 1, 1) := by decide +kernel
theorem dX4_gatherLines_34 : decode cX4_gatherLines 34 = .ok (.getfield 42, 3) := by decide +kernel
theorem dX4_gatherLines_37 : decode cX4_gatherLines 37 = .ok (.if_icmp .ge 73, 3) := by decide +kernel
theorem dX4_gatherLines_40 : decode cX4_gatherLines 40 = .ok (.aload_n 0, 1) := by decide +kernel
theorem dX4_gatherLines_41 : decode cX4_gatherLines 41 = .ok (.getfield 21, 3) := by decide +kernel
theorem dX4_gatherLines_44 : decode cX4_gatherLines 44 = .ok (.bipush 10, 2) := by decide +kernel
theorem dX4_gatherLines_46 : decode cX4_gatherLines 46 = .ok (.if_icmp .ge 64, 3) := by decide +kernel
theorem dX4_gatherLines_49 : decode cX4_gatherLines 49 = .ok (.aload_n 0, 1) := by decide +kernel
theorem dX4_gatherLines_50 : decode cX4_gatherLines 50 = .ok (.getfield 31, 3) := by decide +kernel
theorem dX4_gatherLines_53 : decode cX4_gatherLines 53 = .ok (.iconst 2, 1) := by decide +kernel
theorem dX4_gatherLines_54 : decode cX4_gatherLines 54 = .ok (.aload_n 0, 1) := by decide +kernel
theorem dX4_gatherLines_55 : decode cX4_gatherLines 55 = .ok (.getfield 21, 3) := by decide +kernel
theorem dX4_gatherLines_58 : decode cX4_gatherLines 58 = .ok (.imul, 1) := by decide +kernel
theorem dX4_gatherLines_59 : decode cX4_gatherLines 59 = .ok (.aload_n 0, 1) := by decide +kernel
theorem dX4_gatherLines_60 : decode cX4_gatherLines 60 = .ok (.aload_n 1, 1) := by decide +kernel
theorem dX4_gatherLines_61 : decode cX4_gatherLines 61 = .ok (.getfield 80, 3) := by decide +kernel
theorem dX4_gatherLines_64 : decode cX4_gatherLines 64 = .ok (.iload_n 2, 1) := by decide +kernel
theorem dX4_gatherLines_65 : decode cX4_gatherLines 65 = .ok (.iconst 1, 1) := by decide +kernel
theorem dX4_gatherLines_66 : decode cX4_gatherLines 66 = .ok (.iadd, 1) := by decide +kernel
theorem dX4_gatherLines_67 : decode cX4_gatherLines 67 = .ok (.laload, 1) := by decide +kernel
theorem dX4_gatherLines_68 : decode cX4_gatherLines 68 = .ok (.invokevirtual 83, 3) := by decide +kernel
theorem dX4_gatherLines_71 : decode cX4_gatherLines 71 = .ok (.iastore, 1) := by decide +kernel
theorem dX4_gatherLines_72 : decode cX4_gatherLines 72 = .ok (.aload_n 0, 1) := by decide +kernel
theorem dX4_gatherLines_73 : decode cX4_gatherLines 73 = .ok (.getfield 31, 3) := by decide +kernel
theorem dX4_gatherLines_76 : decode cX4_gatherLines 76 = .ok (.iconst 2, 1) := by decide +kernel
theorem dX4_gatherLines_77 : decode cX4_gatherLines 77 = .ok (.aload_n 0, 1) := by decide +kernel
theorem dX4_gatherLines_78 : decode cX4_gatherLines 78 = .ok (.getfield 21, 3) := by decide +kernel
theorem dX4_gatherLines_81 : decode cX4_gatherLines 81 = .ok (.imul, 1) := by decide +kernel
theorem dX4_gatherLines_82 : decode cX4_gatherLines 82 = .ok (.iconst 1, 1) := by decide +kernel
theorem dX4_gatherLines_83 : decode cX4_gatherLines 83 = .ok (.iadd, 1) := by decide +kernel
theorem dX4_gatherLines_84 : decode cX4_gatherLines 84 = .ok (.aload_n 0, 1) := by decide +kernel
theorem dX4_gatherLines_85 : decode cX4_gatherLines 85 = .ok (.aload_n 1, 1) := by decide +kernel
theorem dX4_gatherLines_86 : decode cX4_gatherLines 86 = .ok (.getfield 80, 3) := by decide +kernel
theorem dX4_gatherLines_89 : decode cX4_gatherLines 89 = .ok (.iload_n 2, 1) := by decide +kernel
theorem dX4_gatherLines_90 : decode cX4_gatherLines 90 = .ok (.iconst 2, 1) := by decide +kernel
theorem dX4_gatherLines_91 : decode cX4_gatherLines 91 = .ok (.iadd, 1) := by decide +kernel
theorem dX4_gatherLines_92 : decode cX4_gatherLines 92 = .ok (.laload, 1) := by decide +kernel
theorem dX4_gatherLines_93 : decode cX4_gatherLines 93 = .ok (.invokevirtual 83, 3) := by decide +kernel
theorem dX4_gatherLines_96 : decode cX4_gatherLines 96 = .ok (.iastore, 1) := by decide +kernel
theorem dX4_gatherLines_97 : decode cX4_gatherLines 97 = .ok (.aload_n 0, 1) := by decide +kernel
theorem dX4_gatherLines_98 : decode cX4_gatherLines 98 = .ok (.dup, 1) := by decide +kernel
theorem dX4_gatherLines_99 : decode cX4_gatherLines 99 = .ok (.getfield 21, 3) := by decide +kernel
theorem dX4_gatherLines_102 : decode cX4_gatherLines 102 = .ok (.iconst 1, 1) := by decide +kernel
theorem dX4_gatherLines_103 : decode cX4_gatherLines 103 = .ok (.iadd, 1) := by decide +kernel
theorem dX4_gatherLines_104 : decode cX4_gatherLines 104 = .ok (.putfield 21, 3) := by decide +kernel
theorem dX4_gatherLines_107 : decode cX4_gatherLines 107 = .ok (.goto 37, 3) := by decide +kernel
theorem dX4_gatherLines_110 : decode cX4_gatherLines 110 = .ok (.aload_n 1, 1) := by decide +kernel
theorem dX4_gatherLines_111 : decode cX4_gatherLines 111 = .ok (.getfield 47, 3) := by decide +kernel
theorem dX4_gatherLines_114 : decode cX4_gatherLines 114 = .ok (.iload_n 2, 1) := by decide +kernel
theorem dX4_gatherLines_115 : decode cX4_gatherLines 115 = .ok (.iaload, 1) := by decide +kernel
theorem dX4_gatherLines_116 : decode cX4_gatherLines 116 = .ok (.iconst 4, 1) := by decide +kernel
theorem dX4_gatherLines_117 : decode cX4_gatherLines 117 = .ok (.if_icmp .ne 27, 3) := by decide +kernel
theorem dX4_gatherLines_120 : decode cX4_gatherLines 120 = .ok (.aload_n 0, 1) := by decide +kernel
theorem dX4_gatherLines_121 : decode cX4_gatherLines 121 = .ok (.getfield 21, 3) := by decide +kernel
theorem dX4_gatherLines_124 : decode cX4_gatherLines 124 = .ok (.ifCond .le 20, 3) := by decide +kernel
theorem dX4_gatherLines_127 : decode cX4_gatherLines 127 = .ok (.aload_n 0, 1) := by decide +kernel
theorem dX4_gatherLines_128 : decode cX4_gatherLines 128 = .ok (.dup, 1) := by decide +kernel
theorem dX4_gatherLines_129 : decode cX4_gatherLines 129 = .ok (.getfield 24, 3) := by decide +kernel
theorem dX4_gatherLines_132 : decode cX4_gatherLines 132 = .ok (.iconst 1, 1) := by decide +kernel
theorem dX4_gatherLines_133 : decode cX4_gatherLines 133 = .ok (.aload_n 0, 1) := by decide +kernel
theorem dX4_gatherLines_134 : decode cX4_gatherLines 134 = .ok (.getfield 21, 3) := by decide +kernel
theorem dX4_gatherLines_137 : decode cX4_gatherLines 137 = .ok (.iconst 1, 1) := by decide +kernel
theorem dX4_gatherLines_138 : decode cX4_gatherLines 138 = .ok (.isub, 1) := by decide +kernel
theorem dX4_gatherLines_139 : decode cX4_gatherLines 139 = .ok (.ishl, 1) := by decide +kernel
theorem dX4_gatherLines_140 : decode cX4_gatherLines 140 = .ok (.ior, 1) := by decide +kernel
theorem dX4_gatherLines_141 : decode cX4_gatherLines 141 = .ok (.putfield 24, 3) := by decide +kernel
theorem dX4_gatherLines_144 : decode cX4_gatherLines 144 = .ok (.iinc 2 1, 3) := by decide +kernel
theorem dX4_gatherLines_147 : decode cX4_gatherLines 147 = .ok (.goto (-135), 3) := by decide +kernel
theorem dX4_gatherLines_150 : decode cX4_gatherLines 150 = .ok (.return_, 1) := by decide +kernel
theorem dX4_postNamed_0 : decode cX4_postNamed 0 = .ok (.iconst 0, 1) := by decide +kernel
theorem dX4_postNamed_1 : decode cX4_postNamed 1 = .ok (.istore_n 3, 1) := by decide +kernel
theorem dX4_postNamed_2 : decode cX4_postNamed 2 = .ok (.iload_n 3, 1) := by decide +kernel
theorem dX4_postNamed_3 : decode cX4_postNamed 3 = .ok (.aload_n 0, 1) := by decide +kernel
theorem dX4_postNamed_4 : decode cX4_postNamed 4 = .ok (.getfield 18, 3) := by decide +kernel
theorem dX4_postNamed_7 : decode cX4_postNamed 7 = .ok (.if_icmp .ge 22, 3) := by decide +kernel
theorem dX4_postNamed_10 : decode cX4_postNamed 10 = .ok (.aload_n 0, 1) := by decide +kernel
theorem dX4_postNamed_11 : decode cX4_postNamed 11 = .ok (.getfield 27, 3) := by decide +kernel
theorem dX4_postNamed_14 : decode cX4_postNamed 14 = .ok (.iload_n 3, 1) := by decide +kernel
theorem dX4_postNamed_15 : decode cX4_postNamed 15 = .ok (.laload, 1) := by decide +kernel
theorem dX4_postNamed_16 : decode cX4_postNamed 16 = .ok (.lload_n 1, 1) := by decide +kernel
theorem dX4_postNamed_17 : decode cX4_postNamed 17 = .ok (.lcmp, 1) := by decide +kernel
theorem dX4_postNamed_18 : decode cX4_postNamed 18 = .ok (.ifCond .ne 5, 3) := by decide +kernel
theorem dX4_postNamed_21 : decode cX4_postNamed 21 = .ok (.iload_n 3, 1) := by decide +kernel
theorem dX4_postNamed_22 : decode cX4_postNamed 22 = .ok (.ireturn, 1) := by decide +kernel
theorem dX4_postNamed_23 : decode cX4_postNamed 23 = .ok (.iinc 3 1, 3) := by decide +kernel
theorem dX4_postNamed_26 : decode cX4_postNamed 26 = .ok (.goto (-24), 3) := by decide +kernel
theorem dX4_postNamed_29 : decode cX4_postNamed 29 = .ok (.iconst (-1), 1) := by decide +kernel
theorem dX4_postNamed_30 : decode cX4_postNamed 30 = .ok (.ireturn, 1) := by decide +kernel
theorem dX4_checkPost_0 : decode cX4_checkPost 0 = .ok (.aload_n 0, 1) := by decide +kernel
theorem dX4_checkPost_1 : decode cX4_checkPost 1 = .ok (.aload_n 1, 1) := by decide +kernel
theorem dX4_checkPost_2 : decode cX4_checkPost 2 = .ok (.getfield 80, 3) := by decide +kernel
theorem dX4_checkPost_5 : decode cX4_checkPost 5 = .ok (.iload_n 2, 1) := by decide +kernel
theorem dX4_checkPost_6 : decode cX4_checkPost 6 = .ok (.laload, 1) := by decide +kernel
theorem dX4_checkPost_7 : decode cX4_checkPost 7 = .ok (.invokevirtual 83, 3) := by decide +kernel
theorem dX4_checkPost_10 : decode cX4_checkPost 10 = .ok (.iload_n 3, 1) := by decide +kernel
theorem dX4_checkPost_11 : decode cX4_checkPost 11 = .ok (.if_icmp .ge 14, 3) := by decide +kernel
theorem dX4_checkPost_14 : decode cX4_checkPost 14 = .ok (.aload_n 0, 1) := by decide +kernel
theorem dX4_checkPost_15 : decode cX4_checkPost 15 = .ok (.iconst 3, 1) := by decide +kernel
theorem dX4_checkPost_16 : decode cX4_checkPost 16 = .ok (.aload_n 1, 1) := by decide +kernel
theorem dX4_checkPost_17 : decode cX4_checkPost 17 = .ok (.getfield 87, 3) := by decide +kernel
theorem dX4_checkPost_20 : decode cX4_checkPost 20 = .ok (.iload_n 2, 1) := by decide +kernel
theorem dX4_checkPost_21 : decode cX4_checkPost 21 = .ok (.iaload, 1) := by decide +kernel
theorem dX4_checkPost_22 : decode cX4_checkPost 22 = .ok (.invokevirtual 90, 3) := by decide +kernel
theorem dX4_checkPost_25 : decode cX4_checkPost 25 = .ok (.return_, 1) := by decide +kernel
theorem dX4_checkLine_0 : decode cX4_checkLine 0 = .ok (.aload_n 0, 1) := by decide +kernel
theorem dX4_checkLine_1 : decode cX4_checkLine 1 = .ok (.aload_n 1, 1) := by decide +kernel
theorem dX4_checkLine_2 : decode cX4_checkLine 2 = .ok (.getfield 80, 3) := by decide +kernel
theorem dX4_checkLine_5 : decode cX4_checkLine 5 = .ok (.iload_n 2, 1) := by decide +kernel
theorem dX4_checkLine_6 : decode cX4_checkLine 6 = .ok (.laload, 1) := by decide +kernel
theorem dX4_checkLine_7 : decode cX4_checkLine 7 = .ok (.invokevirtual 83, 3) := by decide +kernel
theorem dX4_checkLine_10 : decode cX4_checkLine 10 = .ok (.iconst (-1), 1) := by decide +kernel
theorem dX4_checkLine_11 : decode cX4_checkLine 11 = .ok (.if_icmp .ne 17, 3) := by decide +kernel
theorem dX4_checkLine_14 : decode cX4_checkLine 14 = .ok (.aload_n 0, 1) := by decide +kernel
theorem dX4_checkLine_15 : decode cX4_checkLine 15 = .ok (.iconst 4, 1) := by decide +kernel
theorem dX4_checkLine_16 : decode cX4_checkLine 16 = .ok (.aload_n 1, 1) := by decide +kernel
theorem dX4_checkLine_17 : decode cX4_checkLine 17 = .ok (.getfield 87, 3) := by decide +kernel
theorem dX4_checkLine_20 : decode cX4_checkLine 20 = .ok (.iload_n 2, 1) := by decide +kernel
theorem dX4_checkLine_21 : decode cX4_checkLine 21 = .ok (.iaload, 1) := by decide +kernel
theorem dX4_checkLine_22 : decode cX4_checkLine 22 = .ok (.invokevirtual 90, 3) := by decide +kernel
theorem dX4_checkLine_25 : decode cX4_checkLine 25 = .ok (.goto 66, 3) := by decide +kernel
theorem dX4_checkLine_28 : decode cX4_checkLine 28 = .ok (.aload_n 1, 1) := by decide +kernel
theorem dX4_checkLine_29 : decode cX4_checkLine 29 = .ok (.getfield 80, 3) := by decide +kernel
theorem dX4_checkLine_32 : decode cX4_checkLine 32 = .ok (.iload_n 2, 1) := by decide +kernel
theorem dX4_checkLine_33 : decode cX4_checkLine 33 = .ok (.laload, 1) := by decide +kernel
theorem dX4_checkLine_34 : decode cX4_checkLine 34 = .ok (.aload_n 1, 1) := by decide +kernel
theorem dX4_checkLine_35 : decode cX4_checkLine 35 = .ok (.getfield 80, 3) := by decide +kernel
theorem dX4_checkLine_38 : decode cX4_checkLine 38 = .ok (.iload_n 2, 1) := by decide +kernel
theorem dX4_checkLine_39 : decode cX4_checkLine 39 = .ok (.iconst 1, 1) := by decide +kernel
theorem dX4_checkLine_40 : decode cX4_checkLine 40 = .ok (.iadd, 1) := by decide +kernel
theorem dX4_checkLine_41 : decode cX4_checkLine 41 = .ok (.laload, 1) := by decide +kernel
theorem dX4_checkLine_42 : decode cX4_checkLine 42 = .ok (.lcmp, 1) := by decide +kernel
theorem dX4_checkLine_43 : decode cX4_checkLine 43 = .ok (.ifCond .ne 19, 3) := by decide +kernel
theorem dX4_checkLine_46 : decode cX4_checkLine 46 = .ok (.aload_n 0, 1) := by decide +kernel
theorem dX4_checkLine_47 : decode cX4_checkLine 47 = .ok (.iconst 3, 1) := by decide +kernel
theorem dX4_checkLine_48 : decode cX4_checkLine 48 = .ok (.aload_n 1, 1) := by decide +kernel
theorem dX4_checkLine_49 : decode cX4_checkLine 49 = .ok (.getfield 87, 3) := by decide +kernel
theorem dX4_checkLine_52 : decode cX4_checkLine 52 = .ok (.iload_n 2, 1) := by decide +kernel
theorem dX4_checkLine_53 : decode cX4_checkLine 53 = .ok (.iconst 1, 1) := by decide +kernel
theorem dX4_checkLine_54 : decode cX4_checkLine 54 = .ok (.iadd, 1) := by decide +kernel
theorem dX4_checkLine_55 : decode cX4_checkLine 55 = .ok (.iaload, 1) := by decide +kernel
theorem dX4_checkLine_56 : decode cX4_checkLine 56 = .ok (.invokevirtual 90, 3) := by decide +kernel
theorem dX4_checkLine_59 : decode cX4_checkLine 59 = .ok (.goto 32, 3) := by decide +kernel
theorem dX4_checkLine_62 : decode cX4_checkLine 62 = .ok (.aload_n 0, 1) := by decide +kernel
theorem dX4_checkLine_63 : decode cX4_checkLine 63 = .ok (.aload_n 1, 1) := by decide +kernel
theorem dX4_checkLine_64 : decode cX4_checkLine 64 = .ok (.getfield 80, 3) := by decide +kernel
theorem dX4_checkLine_67 : decode cX4_checkLine 67 = .ok (.iload_n 2, 1) := by decide +kernel
theorem dX4_checkLine_68 : decode cX4_checkLine 68 = .ok (.iconst 1, 1) := by decide +kernel
theorem dX4_checkLine_69 : decode cX4_checkLine 69 = .ok (.iadd, 1) := by decide +kernel
theorem dX4_checkLine_70 : decode cX4_checkLine 70 = .ok (.laload, 1) := by decide +kernel
theorem dX4_checkLine_71 : decode cX4_checkLine 71 = .ok (.invokevirtual 83, 3) := by decide +kernel
theorem dX4_checkLine_74 : decode cX4_checkLine 74 = .ok (.iconst (-1), 1) := by decide +kernel
theorem dX4_checkLine_75 : decode cX4_checkLine 75 = .ok (.if_icmp .ne 16, 3) := by decide +kernel
theorem dX4_checkLine_78 : decode cX4_checkLine 78 = .ok (.aload_n 0, 1) := by decide +kernel
theorem dX4_checkLine_79 : decode cX4_checkLine 79 = .ok (.iconst 4, 1) := by decide +kernel
theorem dX4_checkLine_80 : decode cX4_checkLine 80 = .ok (.aload_n 1, 1) := by decide +kernel
theorem dX4_checkLine_81 : decode cX4_checkLine 81 = .ok (.getfield 87, 3) := by decide +kernel
theorem dX4_checkLine_84 : decode cX4_checkLine 84 = .ok (.iload_n 2, 1) := by decide +kernel
theorem dX4_checkLine_85 : decode cX4_checkLine 85 = .ok (.iconst 1, 1) := by decide +kernel
theorem dX4_checkLine_86 : decode cX4_checkLine 86 = .ok (.iadd, 1) := by decide +kernel
theorem dX4_checkLine_87 : decode cX4_checkLine 87 = .ok (.iaload, 1) := by decide +kernel
theorem dX4_checkLine_88 : decode cX4_checkLine 88 = .ok (.invokevirtual 90, 3) := by decide +kernel
theorem dX4_checkLine_91 : decode cX4_checkLine 91 = .ok (.return_, 1) := by decide +kernel
theorem dX4_checkRound_0 : decode cX4_checkRound 0 = .ok (.aload_n 0, 1) := by decide +kernel
theorem dX4_checkRound_1 : decode cX4_checkRound 1 = .ok (.aload_n 1, 1) := by decide +kernel
theorem dX4_checkRound_2 : decode cX4_checkRound 2 = .ok (.getfield 80, 3) := by decide +kernel
theorem dX4_checkRound_5 : decode cX4_checkRound 5 = .ok (.iload_n 2, 1) := by decide +kernel
theorem dX4_checkRound_6 : decode cX4_checkRound 6 = .ok (.laload, 1) := by decide +kernel
theorem dX4_checkRound_7 : decode cX4_checkRound 7 = .ok (.invokevirtual 83, 3) := by decide +kernel
theorem dX4_checkRound_10 : decode cX4_checkRound 10 = .ok (.istore_n 3, 1) := by decide +kernel
theorem dX4_checkRound_11 : decode cX4_checkRound 11 = .ok (.iload_n 3, 1) := by decide +kernel
theorem dX4_checkRound_12 : decode cX4_checkRound 12 = .ok (.iconst (-1), 1) := by decide +kernel
theorem dX4_checkRound_13 : decode cX4_checkRound 13 = .ok (.if_icmp .ne 15, 3) := by decide +kernel
theorem dX4_checkRound_16 : decode cX4_checkRound 16 = .ok (.aload_n 0, 1) := by decide +kernel
theorem dX4_checkRound_17 : decode cX4_checkRound 17 = .ok (.iconst 4, 1) := by decide +kernel
theorem dX4_checkRound_18 : decode cX4_checkRound 18 = .ok (.aload_n 1, 1) := by decide +kernel
theorem dX4_checkRound_19 : decode cX4_checkRound 19 = .ok (.getfield 87, 3) := by decide +kernel
theorem dX4_checkRound_22 : decode cX4_checkRound 22 = .ok (.iload_n 2, 1) := by decide +kernel
theorem dX4_checkRound_23 : decode cX4_checkRound 23 = .ok (.iaload, 1) := by decide +kernel
theorem dX4_checkRound_24 : decode cX4_checkRound 24 = .ok (.invokevirtual 90, 3) := by decide +kernel
theorem dX4_checkRound_27 : decode cX4_checkRound 27 = .ok (.return_, 1) := by decide +kernel
theorem dX4_checkRound_28 : decode cX4_checkRound 28 = .ok (.aload_n 0, 1) := by decide +kernel
theorem dX4_checkRound_29 : decode cX4_checkRound 29 = .ok (.iload_n 3, 1) := by decide +kernel
theorem dX4_checkRound_30 : decode cX4_checkRound 30 = .ok (.invokevirtual 94, 3) := by decide +kernel
theorem dX4_checkRound_33 : decode cX4_checkRound 33 = .ok (.istore 4, 2) := by decide +kernel
theorem dX4_checkRound_35 : decode cX4_checkRound 35 = .ok (.iload_n 2, 1) := by decide +kernel
theorem dX4_checkRound_36 : decode cX4_checkRound 36 = .ok (.iconst 1, 1) := by decide +kernel
theorem dX4_checkRound_37 : decode cX4_checkRound 37 = .ok (.iadd, 1) := by decide +kernel
theorem dX4_checkRound_38 : decode cX4_checkRound 38 = .ok (.istore 5, 2) := by decide +kernel
theorem dX4_checkRound_40 : decode cX4_checkRound 40 = .ok (.iload 5, 2) := by decide +kernel
theorem dX4_checkRound_42 : decode cX4_checkRound 42 = .ok (.aload_n 1, 1) := by decide +kernel
theorem dX4_checkRound_43 : decode cX4_checkRound 43 = .ok (.getfield 42, 3) := by decide +kernel
theorem dX4_checkRound_46 : decode cX4_checkRound 46 = .ok (.if_icmp .ge 79, 3) := by decide +kernel
theorem dX4_checkRound_49 : decode cX4_checkRound 49 = .ok (.aload_n 1, 1) := by decide +kernel
theorem dX4_checkRound_50 : decode cX4_checkRound 50 = .ok (.getfield 47, 3) := by decide +kernel
theorem dX4_checkRound_53 : decode cX4_checkRound 53 = .ok (.iload 5, 2) := by decide +kernel
theorem dX4_checkRound_55 : decode cX4_checkRound 55 = .ok (.iaload, 1) := by decide +kernel
theorem dX4_checkRound_56 : decode cX4_checkRound 56 = .ok (.bipush 6, 2) := by decide +kernel
theorem dX4_checkRound_58 : decode cX4_checkRound 58 = .ok (.if_icmp .ne 67, 3) := by decide +kernel
theorem dX4_checkRound_61 : decode cX4_checkRound 61 = .ok (.aload_n 1, 1) := by decide +kernel
theorem dX4_checkRound_62 : decode cX4_checkRound 62 = .ok (.getfield 80, 3) := by decide +kernel
theorem dX4_checkRound_65 : decode cX4_checkRound 65 = .ok (.iload 5, 2) := by decide +kernel
theorem dX4_checkRound_67 : decode cX4_checkRound 67 = .ok (.laload, 1) := by decide +kernel
theorem dX4_checkRound_68 : decode cX4_checkRound 68 = .ok (.l2i, 1) := by decide +kernel
theorem dX4_checkRound_69 : decode cX4_checkRound 69 = .ok (.istore 6, 2) := by decide +kernel
theorem dX4_checkRound_71 : decode cX4_checkRound 71 = .ok (.iload 6, 2) := by decide +kernel
theorem dX4_checkRound_73 : decode cX4_checkRound 73 = .ok (.ifCond .lt 22, 3) := by decide +kernel
theorem dX4_checkRound_76 : decode cX4_checkRound 76 = .ok (.iload 6, 2) := by decide +kernel
theorem dX4_checkRound_78 : decode cX4_checkRound 78 = .ok (.aload_n 0, 1) := by decide +kernel
theorem dX4_checkRound_79 : decode cX4_checkRound 79 = .ok (.getfield 21, 3) := by decide +kernel
theorem dX4_checkRound_82 : decode cX4_checkRound 82 = .ok (.if_icmp .ge 13, 3) := by decide +kernel
theorem dX4_checkRound_85 : decode cX4_checkRound 85 = .ok (.iload 4, 2) := by decide +kernel
theorem dX4_checkRound_87 : decode cX4_checkRound 87 = .ok (.iload 6, 2) := by decide +kernel
theorem dX4_checkRound_89 : decode cX4_checkRound 89 = .ok (.ishr, 1) := by decide +kernel
theorem dX4_checkRound_90 : decode cX4_checkRound 90 = .ok (.iconst 1, 1) := by decide +kernel
theorem dX4_checkRound_91 : decode cX4_checkRound 91 = .ok (.iand, 1) := by decide +kernel
theorem dX4_checkRound_92 : decode cX4_checkRound 92 = .ok (.ifCond .ne 16, 3) := by decide +kernel
theorem dX4_checkRound_95 : decode cX4_checkRound 95 = .ok (.aload_n 0, 1) := by decide +kernel
theorem dX4_checkRound_96 : decode cX4_checkRound 96 = .ok (.iconst 5, 1) := by decide +kernel
theorem dX4_checkRound_97 : decode cX4_checkRound 97 = .ok (.aload_n 1, 1) := by decide +kernel
theorem dX4_checkRound_98 : decode cX4_checkRound 98 = .ok (.getfield 87, 3) := by decide +kernel
theorem dX4_checkRound_101 : decode cX4_checkRound 101 = .ok (.iload 5, 2) := by decide +kernel
theorem dX4_checkRound_103 : decode cX4_checkRound 103 = .ok (.iaload, 1) := by decide +kernel
theorem dX4_checkRound_104 : decode cX4_checkRound 104 = .ok (.invokevirtual 90, 3) := by decide +kernel
theorem dX4_checkRound_107 : decode cX4_checkRound 107 = .ok (.return_, 1) := by decide +kernel
theorem dX4_checkRound_108 : decode cX4_checkRound 108 = .ok (.iload 4, 2) := by decide +kernel
theorem dX4_checkRound_110 : decode cX4_checkRound 110 = .ok (.iconst 1, 1) := by decide +kernel
theorem dX4_checkRound_111 : decode cX4_checkRound 111 = .ok (.iload 6, 2) := by decide +kernel
theorem dX4_checkRound_113 : decode cX4_checkRound 113 = .ok (.ishl, 1) := by decide +kernel
theorem dX4_checkRound_114 : decode cX4_checkRound 114 = .ok (.iconst (-1), 1) := by decide +kernel
theorem dX4_checkRound_115 : decode cX4_checkRound 115 = .ok (.ixor, 1) := by decide +kernel
theorem dX4_checkRound_116 : decode cX4_checkRound 116 = .ok (.iand, 1) := by decide +kernel
theorem dX4_checkRound_117 : decode cX4_checkRound 117 = .ok (.istore 4, 2) := by decide +kernel
theorem dX4_checkRound_119 : decode cX4_checkRound 119 = .ok (.iinc 5 1, 3) := by decide +kernel
theorem dX4_checkRound_122 : decode cX4_checkRound 122 = .ok (.goto (-82), 3) := by decide +kernel
theorem dX4_checkRound_125 : decode cX4_checkRound 125 = .ok (.iload 4, 2) := by decide +kernel
theorem dX4_checkRound_127 : decode cX4_checkRound 127 = .ok (.ifCond .eq 25, 3) := by decide +kernel
theorem dX4_checkRound_130 : decode cX4_checkRound 130 = .ok (.iload 5, 2) := by decide +kernel
theorem dX4_checkRound_132 : decode cX4_checkRound 132 = .ok (.aload_n 1, 1) := by decide +kernel
theorem dX4_checkRound_133 : decode cX4_checkRound 133 = .ok (.getfield 42, 3) := by decide +kernel
theorem dX4_checkRound_136 : decode cX4_checkRound 136 = .ok (.if_icmp .ge 16, 3) := by decide +kernel
theorem dX4_checkRound_139 : decode cX4_checkRound 139 = .ok (.aload_n 0, 1) := by decide +kernel
theorem dX4_checkRound_140 : decode cX4_checkRound 140 = .ok (.bipush 6, 2) := by decide +kernel
theorem dX4_checkRound_142 : decode cX4_checkRound 142 = .ok (.aload_n 1, 1) := by decide +kernel
theorem dX4_checkRound_143 : decode cX4_checkRound 143 = .ok (.getfield 87, 3) := by decide +kernel
theorem dX4_checkRound_146 : decode cX4_checkRound 146 = .ok (.iload 5, 2) := by decide +kernel
theorem dX4_checkRound_148 : decode cX4_checkRound 148 = .ok (.iaload, 1) := by decide +kernel
theorem dX4_checkRound_149 : decode cX4_checkRound 149 = .ok (.invokevirtual 90, 3) := by decide +kernel
theorem dX4_checkRound_152 : decode cX4_checkRound 152 = .ok (.return_, 1) := by decide +kernel
theorem dX4_linesOf_0 : decode cX4_linesOf 0 = .ok (.iconst 0, 1) := by decide +kernel
theorem dX4_linesOf_1 : decode cX4_linesOf 1 = .ok (.istore_n 2, 1) := by decide +kernel
theorem dX4_linesOf_2 : decode cX4_linesOf 2 = .ok (.iconst 0, 1) := by decide +kernel
theorem dX4_linesOf_3 : decode cX4_linesOf 3 = .ok (.istore_n 3, 1) := by decide +kernel
theorem dX4_linesOf_4 : decode cX4_linesOf 4 = .ok (.iload_n 3, 1) := by decide +kernel
theorem dX4_linesOf_5 : decode cX4_linesOf 5 = .ok (.iconst 2, 1) := by decide +kernel
theorem dX4_linesOf_6 : decode cX4_linesOf 6 = .ok (.aload_n 0, 1) := by decide +kernel
theorem dX4_linesOf_7 : decode cX4_linesOf 7 = .ok (.getfield 21, 3) := by decide +kernel
theorem dX4_linesOf_10 : decode cX4_linesOf 10 = .ok (.imul, 1) := by decide +kernel
theorem dX4_linesOf_11 : decode cX4_linesOf 11 = .ok (.if_icmp .ge 27, 3) := by decide +kernel
theorem dX4_linesOf_14 : decode cX4_linesOf 14 = .ok (.aload_n 0, 1) := by decide +kernel
theorem dX4_linesOf_15 : decode cX4_linesOf 15 = .ok (.getfield 31, 3) := by decide +kernel
theorem dX4_linesOf_18 : decode cX4_linesOf 18 = .ok (.iload_n 3, 1) := by decide +kernel
theorem dX4_linesOf_19 : decode cX4_linesOf 19 = .ok (.iaload, 1) := by decide +kernel
theorem dX4_linesOf_20 : decode cX4_linesOf 20 = .ok (.iload_n 1, 1) := by decide +kernel
theorem dX4_linesOf_21 : decode cX4_linesOf 21 = .ok (.if_icmp .ne 11, 3) := by decide +kernel
theorem dX4_linesOf_24 : decode cX4_linesOf 24 = .ok (.iload_n 2, 1) := by decide +kernel
theorem dX4_linesOf_25 : decode cX4_linesOf 25 = .ok (.iconst 1, 1) := by decide +kernel
theorem dX4_linesOf_26 : decode cX4_linesOf 26 = .ok (.iload_n 3, 1) := by decide +kernel
theorem dX4_linesOf_27 : decode cX4_linesOf 27 = .ok (.iconst 1, 1) := by decide +kernel
theorem dX4_linesOf_28 : decode cX4_linesOf 28 = .ok (.ishr, 1) := by decide +kernel
theorem dX4_linesOf_29 : decode cX4_linesOf 29 = .ok (.ishl, 1) := by decide +kernel
theorem dX4_linesOf_30 : decode cX4_linesOf 30 = .ok (.ior, 1) := by decide +kernel
theorem dX4_linesOf_31 : decode cX4_linesOf 31 = .ok (.istore_n 2, 1) := by decide +kernel
theorem dX4_linesOf_32 : decode cX4_linesOf 32 = .ok (.iinc 3 1, 3) := by decide +kernel
theorem dX4_linesOf_35 : decode cX4_linesOf 35 = .ok (.goto (-31), 3) := by decide +kernel
theorem dX4_linesOf_38 : decode cX4_linesOf 38 = .ok (.iload_n 2, 1) := by decide +kernel
theorem dX4_linesOf_39 : decode cX4_linesOf 39 = .ok (.ireturn, 1) := by decide +kernel
theorem dX4_buildRound_0 : decode cX4_buildRound 0 = .ok (.aload_n 0, 1) := by decide +kernel
theorem dX4_buildRound_1 : decode cX4_buildRound 1 = .ok (.aload_n 1, 1) := by decide +kernel
theorem dX4_buildRound_2 : decode cX4_buildRound 2 = .ok (.getfield 80, 3) := by decide +kernel
theorem dX4_buildRound_5 : decode cX4_buildRound 5 = .ok (.iload_n 2, 1) := by decide +kernel
theorem dX4_buildRound_6 : decode cX4_buildRound 6 = .ok (.laload, 1) := by decide +kernel
theorem dX4_buildRound_7 : decode cX4_buildRound 7 = .ok (.invokevirtual 83, 3) := by decide +kernel
theorem dX4_buildRound_10 : decode cX4_buildRound 10 = .ok (.istore 4, 2) := by decide +kernel
theorem dX4_buildRound_12 : decode cX4_buildRound 12 = .ok (.iload 4, 2) := by decide +kernel
theorem dX4_buildRound_14 : decode cX4_buildRound 14 = .ok (.iconst (-1), 1) := by decide +kernel
theorem dX4_buildRound_15 : decode cX4_buildRound 15 = .ok (.if_icmp .ne 4, 3) := by decide +kernel
theorem dX4_buildRound_18 : decode cX4_buildRound 18 = .ok (.return_, 1) := by decide +kernel
theorem dX4_buildRound_19 : decode cX4_buildRound 19 = .ok (.aload_n 3, 1) := by decide +kernel
theorem dX4_buildRound_20 : decode cX4_buildRound 20 = .ok (.getfield 98, 3) := by decide +kernel
theorem dX4_buildRound_23 : decode cX4_buildRound 23 = .ok (.iload 4, 2) := by decide +kernel
theorem dX4_buildRound_25 : decode cX4_buildRound 25 = .ok (.iconst 0, 1) := by decide +kernel
theorem dX4_buildRound_26 : decode cX4_buildRound 26 = .ok (.iastore, 1) := by decide +kernel
theorem dX4_buildRound_27 : decode cX4_buildRound 27 = .ok (.iload_n 2, 1) := by decide +kernel
theorem dX4_buildRound_28 : decode cX4_buildRound 28 = .ok (.iconst 1, 1) := by decide +kernel
theorem dX4_buildRound_29 : decode cX4_buildRound 29 = .ok (.iadd, 1) := by decide +kernel
theorem dX4_buildRound_30 : decode cX4_buildRound 30 = .ok (.istore 5, 2) := by decide +kernel
theorem dX4_buildRound_32 : decode cX4_buildRound 32 = .ok (.iload 5, 2) := by decide +kernel
theorem dX4_buildRound_34 : decode cX4_buildRound 34 = .ok (.aload_n 1, 1) := by decide +kernel
theorem dX4_buildRound_35 : decode cX4_buildRound 35 = .ok (.getfield 42, 3) := by decide +kernel
theorem dX4_buildRound_38 : decode cX4_buildRound 38 = .ok (.if_icmp .ge 42, 3) := by decide +kernel
theorem dX4_buildRound_41 : decode cX4_buildRound 41 = .ok (.aload_n 1, 1) := by decide +kernel
theorem dX4_buildRound_42 : decode cX4_buildRound 42 = .ok (.getfield 47, 3) := by decide +kernel
theorem dX4_buildRound_45 : decode cX4_buildRound 45 = .ok (.iload 5, 2) := by decide +kernel
theorem dX4_buildRound_47 : decode cX4_buildRound 47 = .ok (.iaload, 1) := by decide +kernel
theorem dX4_buildRound_48 : decode cX4_buildRound 48 = .ok (.bipush 6, 2) := by decide +kernel
theorem dX4_buildRound_50 : decode cX4_buildRound 50 = .ok (.if_icmp .ne 30, 3) := by decide +kernel
theorem dX4_buildRound_53 : decode cX4_buildRound 53 = .ok (.aload_n 3, 1) := by decide +kernel
theorem dX4_buildRound_54 : decode cX4_buildRound 54 = .ok (.iload 4, 2) := by decide +kernel
theorem dX4_buildRound_56 : decode cX4_buildRound 56 = .ok (.aload_n 3, 1) := by decide +kernel
theorem dX4_buildRound_57 : decode cX4_buildRound 57 = .ok (.getfield 98, 3) := by decide +kernel
theorem dX4_buildRound_60 : decode cX4_buildRound 60 = .ok (.iload 4, 2) := by decide +kernel
theorem dX4_buildRound_62 : decode cX4_buildRound 62 = .ok (.iaload, 1) := by decide +kernel
theorem dX4_buildRound_63 : decode cX4_buildRound 63 = .ok (.aload_n 1, 1) := by decide +kernel
theorem dX4_buildRound_64 : decode cX4_buildRound 64 = .ok (.getfield 80, 3) := by decide +kernel
theorem dX4_buildRound_67 : decode cX4_buildRound 67 = .ok (.iload 5, 2) := by decide +kernel
theorem dX4_buildRound_69 : decode cX4_buildRound 69 = .ok (.laload, 1) := by decide +kernel
theorem dX4_buildRound_70 : decode cX4_buildRound 70 = .ok (.l2i, 1) := by decide +kernel
theorem dX4_buildRound_71 : decode cX4_buildRound 71 = .ok (.invokevirtual 101, 3) := by decide +kernel
theorem dX4_buildRound_74 : decode cX4_buildRound 74 = .ok (.iinc 5 1, 3) := by decide +kernel
theorem dX4_buildRound_77 : decode cX4_buildRound 77 = .ok (.goto (-45), 3) := by decide +kernel
theorem dX4_buildRound_80 : decode cX4_buildRound 80 = .ok (.return_, 1) := by decide +kernel
theorem dX5_init_0 : decode cX5_init 0 = .ok (.aload_n 0, 1) := by decide +kernel
theorem dX5_init_1 : decode cX5_init 1 = .ok (.invokespecial 3, 3) := by decide +kernel
theorem dX5_init_4 : decode cX5_init 4 = .ok (.aload_n 0, 1) := by decide +kernel
theorem dX5_init_5 : decode cX5_init 5 = .ok (.iconst 0, 1) := by decide +kernel
theorem dX5_init_6 : decode cX5_init 6 = .ok (.putfield 9, 3) := by decide +kernel
theorem dX5_init_9 : decode cX5_init 9 = .ok (.aload_n 0, 1) := by decide +kernel
theorem dX5_init_10 : decode cX5_init 10 = .ok (.iconst 0, 1) := by decide +kernel
theorem dX5_init_11 : decode cX5_init 11 = .ok (.putfield 15, 3) := by decide +kernel
theorem dX5_init_14 : decode cX5_init 14 = .ok (.aload_n 0, 1) := by decide +kernel
theorem dX5_init_15 : decode cX5_init 15 = .ok (.iconst 0, 1) := by decide +kernel
theorem dX5_init_16 : decode cX5_init 16 = .ok (.putfield 18, 3) := by decide +kernel
theorem dX5_init_19 : decode cX5_init 19 = .ok (.return_, 1) := by decide +kernel
theorem dX5_search_0 : decode cX5_search 0 = .ok (.aload_n 0, 1) := by decide +kernel
theorem dX5_search_1 : decode cX5_search 1 = .ok (.iconst 0, 1) := by decide +kernel
theorem dX5_search_2 : decode cX5_search 2 = .ok (.putfield 9, 3) := by decide +kernel
theorem dX5_search_5 : decode cX5_search 5 = .ok (.aload_n 0, 1) := by decide +kernel
theorem dX5_search_6 : decode cX5_search 6 = .ok (.iconst 0, 1) := by decide +kernel
theorem dX5_search_7 : decode cX5_search 7 = .ok (.putfield 15, 3) := by decide +kernel
theorem dX5_search_10 : decode cX5_search 10 = .ok (.iconst 0, 1) := by decide +kernel
theorem dX5_search_11 : decode cX5_search 11 = .ok (.istore_n 2, 1) := by decide +kernel
theorem dX5_search_12 : decode cX5_search 12 = .ok (.iload_n 2, 1) := by decide +kernel
theorem dX5_search_13 : decode cX5_search 13 = .ok (.aload_n 1, 1) := by decide +kernel
theorem dX5_search_14 : decode cX5_search 14 = .ok (.getfield 21, 3) := by decide +kernel
theorem dX5_search_17 : decode cX5_search 17 = .ok (.if_icmp .ge 25, 3) := by decide +kernel
theorem dX5_search_20 : decode cX5_search 20 = .ok (.aload_n 0, 1) := by decide +kernel
theorem dX5_search_21 : decode cX5_search 21 = .ok (.iload_n 2, 1) := by decide +kernel
theorem dX5_search_22 : decode cX5_search 22 = .ok (.putfield 18, 3) := by decide +kernel
theorem dX5_search_25 : decode cX5_search 25 = .ok (.aload_n 0, 1) := by decide +kernel
theorem dX5_search_26 : decode cX5_search 26 = .ok (.aload_n 1, 1) := by decide +kernel
theorem dX5_search_27 : decode cX5_search 27 = .ok (.iload_n 2, 1) := by decide +kernel
theorem dX5_search_28 : decode cX5_search 28 = .ok (.iconst (-1), 1) := by decide +kernel
theorem dX5_search_29 : decode cX5_search 29 = .ok (.iconst 1, 1) := by decide +kernel
theorem dX5_search_30 : decode cX5_search 30 = .ok (.iload_n 2, 1) := by decide +kernel
theorem dX5_search_31 : decode cX5_search 31 = .ok (.ishl, 1) := by decide +kernel
theorem dX5_search_32 : decode cX5_search 32 = .ok (.iconst 0, 1) := by decide +kernel
theorem dX5_search_33 : decode cX5_search 33 = .ok (.invokestatic 26, 3) := by decide +kernel
theorem dX5_search_36 : decode cX5_search 36 = .ok (.iinc 2 1, 3) := by decide +kernel
theorem dX5_search_39 : decode cX5_search 39 = .ok (.goto (-27), 3) := by decide +kernel
theorem dX5_search_42 : decode cX5_search 42 = .ok (.aload_n 0, 1) := by decide +kernel
theorem dX5_search_43 : decode cX5_search 43 = .ok (.dup, 1) := by decide +kernel
theorem dX5_search_44 : decode cX5_search 44 = .ok (.getfield 9, 3) := by decide +kernel
theorem dX5_search_47 : decode cX5_search 47 = .ok (.iconst 2, 1) := by decide +kernel
theorem dX5_search_48 : decode cX5_search 48 = .ok (.idiv, 1) := by decide +kernel
theorem dX5_search_49 : decode cX5_search 49 = .ok (.putfield 9, 3) := by decide +kernel
theorem dX5_search_52 : decode cX5_search 52 = .ok (.return_, 1) := by decide +kernel
theorem dX5_goOn_0 : decode cX5_goOn 0 = .ok (.iload 5, 2) := by decide +kernel
theorem dX5_goOn_2 : decode cX5_goOn 2 = .ok (.bipush 6, 2) := by decide +kernel
theorem dX5_goOn_4 : decode cX5_goOn 4 = .ok (.if_icmp .lt 4, 3) := by decide +kernel
theorem dX5_goOn_7 : decode cX5_goOn 7 = .ok (.return_, 1) := by decide +kernel
theorem dX5_goOn_8 : decode cX5_goOn 8 = .ok (.iconst 0, 1) := by decide +kernel
theorem dX5_goOn_9 : decode cX5_goOn 9 = .ok (.istore 6, 2) := by decide +kernel
theorem dX5_goOn_11 : decode cX5_goOn 11 = .ok (.iload 6, 2) := by decide +kernel
theorem dX5_goOn_13 : decode cX5_goOn 13 = .ok (.aload_n 1, 1) := by decide +kernel
theorem dX5_goOn_14 : decode cX5_goOn 14 = .ok (.getfield 30, 3) := by decide +kernel
theorem dX5_goOn_17 : decode cX5_goOn 17 = .ok (.iload_n 2, 1) := by decide +kernel
theorem dX5_goOn_18 : decode cX5_goOn 18 = .ok (.iaload, 1) := by decide +kernel
theorem dX5_goOn_19 : decode cX5_goOn 19 = .ok (.if_icmp .ge 101, 3) := by decide +kernel
theorem dX5_goOn_22 : decode cX5_goOn 22 = .ok (.aload_n 1, 1) := by decide +kernel
theorem dX5_goOn_23 : decode cX5_goOn 23 = .ok (.iload_n 2, 1) := by decide +kernel
theorem dX5_goOn_24 : decode cX5_goOn 24 = .ok (.iload 6, 2) := by decide +kernel
theorem dX5_goOn_26 : decode cX5_goOn 26 = .ok (.invokevirtual 34, 3) := by decide +kernel
theorem dX5_goOn_29 : decode cX5_goOn 29 = .ok (.istore 7, 2) := by decide +kernel
theorem dX5_goOn_31 : decode cX5_goOn 31 = .ok (.aload_n 1, 1) := by decide +kernel
theorem dX5_goOn_32 : decode cX5_goOn 32 = .ok (.getfield 38, 3) := by decide +kernel
theorem dX5_goOn_35 : decode cX5_goOn 35 = .ok (.iload 7, 2) := by decide +kernel
theorem dX5_goOn_37 : decode cX5_goOn 37 = .ok (.iconst 1, 1) := by decide +kernel
theorem dX5_goOn_38 : decode cX5_goOn 38 = .ok (.ixor, 1) := by decide +kernel
theorem dX5_goOn_39 : decode cX5_goOn 39 = .ok (.iaload, 1) := by decide +kernel
theorem dX5_goOn_40 : decode cX5_goOn 40 = .ok (.istore 8, 2) := by decide +kernel
theorem dX5_goOn_42 : decode cX5_goOn 42 = .ok (.iload 7, 2) := by decide +kernel
theorem dX5_goOn_44 : decode cX5_goOn 44 = .ok (.iconst 1, 1) := by decide +kernel
theorem dX5_goOn_45 : decode cX5_goOn 45 = .ok (.ishr, 1) := by decide +kernel
theorem dX5_goOn_46 : decode cX5_goOn 46 = .ok (.iload_n 3, 1) := by decide +kernel
theorem dX5_goOn_47 : decode cX5_goOn 47 = .ok (.if_icmp .ne 6, 3) := by decide +kernel
theorem dX5_goOn_50 : decode cX5_goOn 50 = .ok (.goto 64, 3) := by decide +kernel
theorem dX5_goOn_53 : decode cX5_goOn 53 = .ok (.iload 8, 2) := by decide +kernel
theorem dX5_goOn_55 : decode cX5_goOn 55 = .ok (.aload_n 0, 1) := by decide +kernel
theorem dX5_goOn_56 : decode cX5_goOn 56 = .ok (.getfield 18, 3) := by decide +kernel
theorem dX5_goOn_59 : decode cX5_goOn 59 = .ok (.if_icmp .ne 14, 3) := by decide +kernel
theorem dX5_goOn_62 : decode cX5_goOn 62 = .ok (.aload_n 0, 1) := by decide +kernel
theorem dX5_goOn_63 : decode cX5_goOn 63 = .ok (.iload 5, 2) := by decide +kernel
theorem dX5_goOn_65 : decode cX5_goOn 65 = .ok (.iconst 1, 1) := by decide +kernel
theorem dX5_goOn_66 : decode cX5_goOn 66 = .ok (.iadd, 1) := by decide +kernel
theorem dX5_goOn_67 : decode cX5_goOn 67 = .ok (.invokevirtual 41, 3) := by decide +kernel
theorem dX5_goOn_70 : decode cX5_goOn 70 = .ok (.goto 44, 3) := by decide +kernel
theorem dX5_goOn_73 : decode cX5_goOn 73 = .ok (.iload 8, 2) := by decide +kernel
theorem dX5_goOn_75 : decode cX5_goOn 75 = .ok (.aload_n 0, 1) := by decide +kernel
theorem dX5_goOn_76 : decode cX5_goOn 76 = .ok (.getfield 18, 3) := by decide +kernel
theorem dX5_goOn_79 : decode cX5_goOn 79 = .ok (.if_icmp .le 35, 3) := by decide +kernel
theorem dX5_goOn_82 : decode cX5_goOn 82 = .ok (.iload 4, 2) := by decide +kernel
theorem dX5_goOn_84 : decode cX5_goOn 84 = .ok (.iload 8, 2) := by decide +kernel
theorem dX5_goOn_86 : decode cX5_goOn 86 = .ok (.ishr, 1) := by decide +kernel
theorem dX5_goOn_87 : decode cX5_goOn 87 = .ok (.iconst 1, 1) := by decide +kernel
theorem dX5_goOn_88 : decode cX5_goOn 88 = .ok (.iand, 1) := by decide +kernel
theorem dX5_goOn_89 : decode cX5_goOn 89 = .ok (.ifCond .ne 25, 3) := by decide +kernel
theorem dX5_goOn_92 : decode cX5_goOn 92 = .ok (.aload_n 0, 1) := by decide +kernel
theorem dX5_goOn_93 : decode cX5_goOn 93 = .ok (.aload_n 1, 1) := by decide +kernel
theorem dX5_goOn_94 : decode cX5_goOn 94 = .ok (.iload 8, 2) := by decide +kernel
theorem dX5_goOn_96 : decode cX5_goOn 96 = .ok (.iload 7, 2) := by decide +kernel
theorem dX5_goOn_98 : decode cX5_goOn 98 = .ok (.iconst 1, 1) := by decide +kernel
theorem dX5_goOn_99 : decode cX5_goOn 99 = .ok (.ishr, 1) := by decide +kernel
theorem dX5_goOn_100 : decode cX5_goOn 100 = .ok (.iload 4, 2) := by decide +kernel
theorem dX5_goOn_102 : decode cX5_goOn 102 = .ok (.iconst 1, 1) := by decide +kernel
theorem dX5_goOn_103 : decode cX5_goOn 103 = .ok (.iload 8, 2) := by decide +kernel
theorem dX5_goOn_105 : decode cX5_goOn 105 = .ok (.ishl, 1) := by decide +kernel
theorem dX5_goOn_106 : decode cX5_goOn 106 = .ok (.ior, 1) := by decide +kernel
theorem dX5_goOn_107 : decode cX5_goOn 107 = .ok (.iload 5, 2) := by decide +kernel
theorem dX5_goOn_109 : decode cX5_goOn 109 = .ok (.iconst 1, 1) := by decide +kernel
theorem dX5_goOn_110 : decode cX5_goOn 110 = .ok (.iadd, 1) := by decide +kernel
theorem dX5_goOn_111 : decode cX5_goOn 111 = .ok (.invokestatic 26, 3) := by decide +kernel
theorem dX5_goOn_114 : decode cX5_goOn 114 = .ok (.iinc 6 1, 3) := by decide +kernel
theorem dX5_goOn_117 : decode cX5_goOn 117 = .ok (.goto (-106), 3) := by decide +kernel
theorem dX5_goOn_120 : decode cX5_goOn 120 = .ok (.return_, 1) := by decide +kernel
theorem dX5_addRing_0 : decode cX5_addRing 0 = .ok (.aload_n 0, 1) := by decide +kernel
theorem dX5_addRing_1 : decode cX5_addRing 1 = .ok (.dup, 1) := by decide +kernel
theorem dX5_addRing_2 : decode cX5_addRing 2 = .ok (.getfield 9, 3) := by decide +kernel
theorem dX5_addRing_5 : decode cX5_addRing 5 = .ok (.iconst 1, 1) := by decide +kernel
theorem dX5_addRing_6 : decode cX5_addRing 6 = .ok (.iadd, 1) := by decide +kernel
theorem dX5_addRing_7 : decode cX5_addRing 7 = .ok (.putfield 9, 3) := by decide +kernel
theorem dX5_addRing_10 : decode cX5_addRing 10 = .ok (.aload_n 0, 1) := by decide +kernel
theorem dX5_addRing_11 : decode cX5_addRing 11 = .ok (.aload_n 0, 1) := by decide +kernel
theorem dX5_addRing_12 : decode cX5_addRing 12 = .ok (.getfield 15, 3) := by decide +kernel
theorem dX5_addRing_15 : decode cX5_addRing 15 = .ok (.ifCond .ne 7, 3) := by decide +kernel
theorem dX5_addRing_18 : decode cX5_addRing 18 = .ok (.iload_n 1, 1) := by decide +kernel
theorem dX5_addRing_19 : decode cX5_addRing 19 = .ok (.goto 11, 3) := by decide +kernel
theorem dX5_addRing_22 : decode cX5_addRing 22 = .ok (.aload_n 0, 1) := by decide +kernel
theorem dX5_addRing_23 : decode cX5_addRing 23 = .ok (.getfield 15, 3) := by decide +kernel
theorem dX5_addRing_26 : decode cX5_addRing 26 = .ok (.iload_n 1, 1) := by decide +kernel
theorem dX5_addRing_27 : decode cX5_addRing 27 = .ok (.invokestatic 45, 3) := by decide +kernel
theorem dX5_addRing_30 : decode cX5_addRing 30 = .ok (.putfield 15, 3) := by decide +kernel
theorem dX5_addRing_33 : decode cX5_addRing 33 = .ok (.return_, 1) := by decide +kernel
theorem dX6_init_0 : decode cX6_init 0 = .ok (.aload_n 0, 1) := by decide +kernel
theorem dX6_init_1 : decode cX6_init 1 = .ok (.invokespecial 3, 3) := by decide +kernel
theorem dX6_init_4 : decode cX6_init 4 = .ok (.aload_n 0, 1) := by decide +kernel
theorem dX6_init_5 : decode cX6_init 5 = .ok (.iconst 0, 1) := by decide +kernel
theorem dX6_init_6 : decode cX6_init 6 = .ok (.putfield 9, 3) := by decide +kernel
theorem dX6_init_9 : decode cX6_init 9 = .ok (.aload_n 0, 1) := by decide +kernel
theorem dX6_init_10 : decode cX6_init 10 = .ok (.iconst 0, 1) := by decide +kernel
theorem dX6_init_11 : decode cX6_init 11 = .ok (.putfield 15, 3) := by decide +kernel
theorem dX6_init_14 : decode cX6_init 14 = .ok (.aload_n 0, 1) := by decide +kernel
theorem dX6_init_15 : decode cX6_init 15 = .ok (.iconst 0, 1) := by decide +kernel
theorem dX6_init_16 : decode cX6_init 16 = .ok (.putfield 18, 3) := by decide +kernel
theorem dX6_init_19 : decode cX6_init 19 = .ok (.aload_n 0, 1) := by decide +kernel
theorem dX6_init_20 : decode cX6_init 20 = .ok (.iconst (-1), 1) := by decide +kernel
theorem dX6_init_21 : decode cX6_init 21 = .ok (.putfield 21, 3) := by decide +kernel
theorem dX6_init_24 : decode cX6_init 24 = .ok (.aload_n 0, 1) := by decide +kernel
theorem dX6_init_25 : decode cX6_init 25 = .ok (.sipush 400, 3) := by decide +kernel
theorem dX6_init_28 : decode cX6_init 28 = .ok (.newarray .int, 2) := by decide +kernel
theorem dX6_init_30 : decode cX6_init 30 = .ok (.putfield 24, 3) := by decide +kernel
theorem dX6_init_33 : decode cX6_init 33 = .ok (.aload_n 0, 1) := by decide +kernel
theorem dX6_init_34 : decode cX6_init 34 = .ok (.sipush 400, 3) := by decide +kernel
theorem dX6_init_37 : decode cX6_init 37 = .ok (.newarray .int, 2) := by decide +kernel
theorem dX6_init_39 : decode cX6_init 39 = .ok (.putfield 28, 3) := by decide +kernel
theorem dX6_init_42 : decode cX6_init 42 = .ok (.aload_n 0, 1) := by decide +kernel
theorem dX6_init_43 : decode cX6_init 43 = .ok (.sipush 400, 3) := by decide +kernel
theorem dX6_init_46 : decode cX6_init 46 = .ok (.newarray .long, 2) := by decide +kernel
theorem dX6_init_48 : decode cX6_init 48 = .ok (.putfield 31, 3) := by decide +kernel
theorem dX6_init_51 : decode cX6_init 51 = .ok (.aload_n 0, 1) := by decide +kernel
theorem dX6_init_52 : decode cX6_init 52 = .ok (.sipush 2000, 3) := by decide +kernel
theorem dX6_init_55 : decode cX6_init 55 = .ok (.newarray .byte, 2) := by decide +kernel
theorem dX6_init_57 : decode cX6_init 57 = .ok (.putfield 35, 3) := by decide +kernel
theorem dX6_init_60 : decode cX6_init 60 = .ok (.aload_n 0, 1) := by decide +kernel
theorem dX6_init_61 : decode cX6_init 61 = .ok (.iconst 0, 1) := by decide +kernel
theorem dX6_init_62 : decode cX6_init 62 = .ok (.putfield 39, 3) := by decide +kernel
theorem dX6_init_65 : decode cX6_init 65 = .ok (.aload_n 0, 1) := by decide +kernel
theorem dX6_init_66 : decode cX6_init 66 = .ok (.iconst 0, 1) := by decide +kernel
theorem dX6_init_67 : decode cX6_init 67 = .ok (.putfield 42, 3) := by decide +kernel
theorem dX6_init_70 : decode cX6_init 70 = .ok (.aload_n 0, 1) := by decide +kernel
theorem dX6_init_71 : decode cX6_init 71 = .ok (.iconst 0, 1) := by decide +kernel
theorem dX6_init_72 : decode cX6_init 72 = .ok (.putfield 45, 3) := by decide +kernel
theorem dX6_init_75 : decode cX6_init 75 = .ok (.aload_n 0, 1) := by decide +kernel
theorem dX6_init_76 : decode cX6_init 76 = .ok (.iconst 0, 1) := by decide +kernel
theorem dX6_init_77 : decode cX6_init 77 = .ok (.putfield 48, 3) := by decide +kernel
theorem dX6_init_80 : decode cX6_init 80 = .ok (.aload_n 0, 1) := by decide +kernel
theorem dX6_init_81 : decode cX6_init 81 = .ok (.iconst 0, 1) := by decide +kernel
theorem dX6_init_82 : decode cX6_init 82 = .ok (.putfield 51, 3) := by decide +kernel
theorem dX6_init_85 : decode cX6_init 85 = .ok (.aload_n 0, 1) := by decide +kernel
theorem dX6_init_86 : decode cX6_init 86 = .ok (.lconst 0, 1) := by decide +kernel
theorem dX6_init_87 : decode cX6_init 87 = .ok (.putfield 54, 3) := by decide +kernel
theorem dX6_init_90 : decode cX6_init 90 = .ok (.return_, 1) := by decide +kernel
theorem dX6_append_0 : decode cX6_append 0 = .ok (.bipush 24, 2) := by decide +kernel
theorem dX6_append_2 : decode cX6_append 2 = .ok (.istore_n 2, 1) := by decide +kernel
theorem dX6_append_3 : decode cX6_append 3 = .ok (.iload_n 2, 1) := by decide +kernel
theorem dX6_append_4 : decode cX6_append 4 = .ok (.ifCond .lt 42, 3) := by decide +kernel
theorem dX6_append_7 : decode cX6_append 7 = .ok (.aload_n 0, 1) := by decide +kernel
theorem dX6_append_8 : decode cX6_append 8 = .ok (.getfield 9, 3) := by decide +kernel
theorem dX6_append_11 : decode cX6_append 11 = .ok (.sipush 2000, 3) := by decide +kernel
theorem dX6_append_14 : decode cX6_append 14 = .ok (.if_icmp .ge 32, 3) := by decide +kernel
theorem dX6_append_17 : decode cX6_append 17 = .ok (.aload_n 0, 1) := by decide +kernel
theorem dX6_append_18 : decode cX6_append 18 = .ok (.getfield 35, 3) := by decide +kernel
theorem dX6_append_21 : decode cX6_append 21 = .ok (.aload_n 0, 1) := by decide +kernel
theorem dX6_append_22 : decode cX6_append 22 = .ok (.getfield 9, 3) := by decide +kernel
theorem dX6_append_25 : decode cX6_append 25 = .ok (.iload_n 1, 1) := by decide +kernel
theorem dX6_append_26 : decode cX6_append 26 = .ok (.iload_n 2, 1) := by decide +kernel
theorem dX6_append_27 : decode cX6_append 27 = .ok (.ishr, 1) := by decide +kernel
theorem dX6_append_28 : decode cX6_append 28 = .ok (.i2b, 1) := by decide +kernel
theorem dX6_append_29 : decode cX6_append 29 = .ok (.bastore, 1) := by decide +kernel
theorem dX6_append_30 : decode cX6_append 30 = .ok (.aload_n 0, 1) := by decide +kernel
theorem dX6_append_31 : decode cX6_append 31 = .ok (.dup, 1) := by decide +kernel
theorem dX6_append_32 : decode cX6_append 32 = .ok (.getfield 9, 3) := by decide +kernel
theorem dX6_append_35 : decode cX6_append 35 = .ok (.iconst 1, 1) := by decide +kernel
theorem dX6_append_36 : decode cX6_append 36 = .ok (.iadd, 1) := by decide +kernel
theorem dX6_append_37 : decode cX6_append 37 = .ok (.putfield 9, 3) := by decide +kernel
theorem dX6_append_40 : decode cX6_append 40 = .ok (.iinc 2 (-8), 3) := by decide +kernel
theorem dX6_append_43 : decode cX6_append 43 = .ok (.goto (-40), 3) := by decide +kernel
theorem dX6_append_46 : decode cX6_append 46 = .ok (.return_, 1) := by decide +kernel
theorem dX6_scan_0 : decode cX6_scan 0 = .ok (.aload_n 0, 1) := by decide +kernel
theorem dX6_scan_1 : decode cX6_scan 1 = .ok (.iconst 0, 1) := by decide +kernel
theorem dX6_scan_2 : decode cX6_scan 2 = .ok (.putfield 15, 3) := by decide +kernel
theorem dX6_scan_5 : decode cX6_scan 5 = .ok (.aload_n 0, 1) := by decide +kernel
theorem dX6_scan_6 : decode cX6_scan 6 = .ok (.iconst 0, 1) := by decide +kernel
theorem dX6_scan_7 : decode cX6_scan 7 = .ok (.putfield 42, 3) := by decide +kernel
theorem dX6_scan_10 : decode cX6_scan 10 = .ok (.aload_n 0, 1) := by decide +kernel
theorem dX6_scan_11 : decode cX6_scan 11 = .ok (.iconst 0, 1) := by decide +kernel
theorem dX6_scan_12 : decode cX6_scan 12 = .ok (.putfield 45, 3) := by decide +kernel
theorem dX6_scan_15 : decode cX6_scan 15 = .ok (.aload_n 0, 1) := by decide +kernel
theorem dX6_scan_16 : decode cX6_scan 16 = .ok (.iconst 0, 1) := by decide +kernel
theorem dX6_scan_17 : decode cX6_scan 17 = .ok (.putfield 18, 3) := by decide +kernel
theorem dX6_scan_20 : decode cX6_scan 20 = .ok (.aload_n 0, 1) := by decide +kernel
theorem dX6_scan_21 : decode cX6_scan 21 = .ok (.iconst (-1), 1) := by decide +kernel
theorem dX6_scan_22 : decode cX6_scan 22 = .ok (.putfield 21, 3) := by decide +kernel
theorem dX6_scan_25 : decode cX6_scan 25 = .ok (.aload_n 0, 1) := by decide +kernel
theorem dX6_scan_26 : decode cX6_scan 26 = .ok (.iconst 0, 1) := by decide +kernel
theorem dX6_scan_27 : decode cX6_scan 27 = .ok (.putfield 39, 3) := by decide +kernel
theorem dX6_scan_30 : decode cX6_scan 30 = .ok (.iconst 0, 1) := by decide +kernel
theorem dX6_scan_31 : decode cX6_scan 31 = .ok (.istore_n 1, 1) := by decide +kernel
theorem dX6_scan_32 : decode cX6_scan 32 = .ok (.iconst 0, 1) := by decide +kernel
theorem dX6_scan_33 : decode cX6_scan 33 = .ok (.istore_n 2, 1) := by decide +kernel
theorem dX6_scan_34 : decode cX6_scan 34 = .ok (.iload_n 2, 1) := by decide +kernel
theorem dX6_scan_35 : decode cX6_scan 35 = .ok (.sipush 2000, 3) := by decide +kernel
theorem dX6_scan_38 : decode cX6_scan 38 = .ok (.if_icmp .ge 57, 3) := by decide +kernel
theorem dX6_scan_41 : decode cX6_scan 41 = .ok (.iload_n 1, 1) := by decide +kernel
theorem dX6_scan_42 : decode cX6_scan 42 = .ok (.aload_n 0, 1) := by decide +kernel
theorem dX6_scan_43 : decode cX6_scan 43 = .ok (.getfield 9, 3) := by decide +kernel
theorem dX6_scan_46 : decode cX6_scan 46 = .ok (.if_icmp .ge 49, 3) := by decide +kernel
theorem dX6_scan_49 : decode cX6_scan 49 = .ok (.aload_n 0, 1) := by decide +kernel
theorem dX6_scan_50 : decode cX6_scan 50 = .ok (.getfield 18, 3) := by decide +kernel
theorem dX6_scan_53 : decode cX6_scan 53 = .ok (.ifCond .ne 42, 3) := by decide +kernel
theorem dX6_scan_56 : decode cX6_scan 56 = .ok (.aload_n 0, 1) := by decide +kernel
theorem dX6_scan_57 : decode cX6_scan 57 = .ok (.getfield 35, 3) := by decide +kernel
theorem dX6_scan_60 : decode cX6_scan 60 = .ok (.iload_n 1, 1) := by decide +kernel
theorem dX6_scan_61 : decode cX6_scan 61 = .ok (.baload, 1) := by decide +kernel
theorem dX6_scan_62 : decode cX6_scan 62 = .ok (.invokestatic 58, 3) := by decide +kernel
theorem dX6_scan_65 : decode cX6_scan 65 = .ok (.ifCond .eq 9, 3) := by decide +kernel
theorem dX6_scan_68 : decode cX6_scan 68 = .ok (.iinc 1 1, 3) := by decide +kernel
theorem dX6_scan_71 : decode cX6_scan 71 = .ok (.goto 18, 3) := by decide +kernel
theorem dX6_scan_74 : decode cX6_scan 74 = .ok (.aload_n 0, 1) := by decide +kernel
theorem dX6_scan_75 : decode cX6_scan 75 = .ok (.iload_n 1, 1) := by decide +kernel
theorem dX6_scan_76 : decode cX6_scan 76 = .ok (.invokevirtual 62, 3) := by decide +kernel
theorem dX6_scan_79 : decode cX6_scan 79 = .ok (.aload_n 0, 1) := by decide +kernel
theorem dX6_scan_80 : decode cX6_scan 80 = .ok (.iload_n 1, 1) := by decide +kernel
theorem dX6_scan_81 : decode cX6_scan 81 = .ok (.invokevirtual 66, 3) := by decide +kernel
theorem dX6_scan_84 : decode cX6_scan 84 = .ok (.aload_n 0, 1) := by decide +kernel
theorem dX6_scan_85 : decode cX6_scan 85 = .ok (.getfield 51, 3) := by decide +kernel
theorem dX6_scan_88 : decode cX6_scan 88 = .ok (.istore_n 1, 1) := by decide +kernel
theorem dX6_scan_89 : decode cX6_scan 89 = .ok (.iinc 2 1, 3) := by decide +kernel
theorem dX6_scan_92 : decode cX6_scan 92 = .ok (.goto (-58), 3) := by decide +kernel
theorem dX6_scan_95 : decode cX6_scan 95 = .ok (.aload_n 0, 1) := by decide +kernel
theorem dX6_scan_96 : decode cX6_scan 96 = .ok (.getfield 18, 3) := by decide +kernel
theorem dX6_scan_99 : decode cX6_scan 99 = .ok (.ifCond .ne 19, 3) := by decide +kernel
theorem dX6_scan_102 : decode cX6_scan 102 = .ok (.aload_n 0, 1) := by decide +kernel
theorem dX6_scan_103 : decode cX6_scan 103 = .ok (.getfield 39, 3) := by decide +kernel
theorem dX6_scan_106 : decode cX6_scan 106 = .ok (.ifCond .eq 12, 3) := by decide +kernel
theorem dX6_scan_109 : decode cX6_scan 109 = .ok (.aload_n 0, 1) := by decide +kernel
theorem dX6_scan_110 : decode cX6_scan 110 = .ok (.iconst 1, 1) := by decide +kernel
theorem dX6_scan_111 : decode cX6_scan 111 = .ok (.aload_n 0, 1) := by decide +kernel
theorem dX6_scan_112 : decode cX6_scan 112 = .ok (.getfield 9, 3) := by decide +kernel
theorem dX6_scan_115 : decode cX6_scan 115 = .ok (.invokevirtual 69, 3) := by decide +kernel
theorem dX6_scan_118 : decode cX6_scan 118 = .ok (.return_, 1) := by decide +kernel
theorem dX6_fail_0 : decode cX6_fail 0 = .ok (.aload_n 0, 1) := by decide +kernel
theorem dX6_fail_1 : decode cX6_fail 1 = .ok (.iload_n 1, 1) := by decide +kernel
theorem dX6_fail_2 : decode cX6_fail 2 = .ok (.putfield 18, 3) := by decide +kernel
theorem dX6_fail_5 : decode cX6_fail 5 = .ok (.aload_n 0, 1) := by decide +kernel
theorem dX6_fail_6 : decode cX6_fail 6 = .ok (.iload_n 2, 1) := by decide +kernel
theorem dX6_fail_7 : decode cX6_fail 7 = .ok (.putfield 21, 3) := by decide +kernel
theorem dX6_fail_10 : decode cX6_fail 10 = .ok (.return_, 1) := by decide +kernel
theorem dX6_lookAt_0 : decode cX6_lookAt 0 = .ok (.aload_n 0, 1) := by decide +kernel
theorem dX6_lookAt_1 : decode cX6_lookAt 1 = .ok (.lconst 0, 1) := by decide +kernel
theorem dX6_lookAt_2 : decode cX6_lookAt 2 = .ok (.putfield 54, 3) := by decide +kernel
theorem dX6_lookAt_5 : decode cX6_lookAt 5 = .ok (.aload_n 0, 1) := by decide +kernel
theorem dX6_lookAt_6 : decode cX6_lookAt 6 = .ok (.iload_n 1, 1) := by decide +kernel
theorem dX6_lookAt_7 : decode cX6_lookAt 7 = .ok (.iconst 1, 1) := by decide +kernel
theorem dX6_lookAt_8 : decode cX6_lookAt 8 = .ok (.iadd, 1) := by decide +kernel
theorem dX6_lookAt_9 : decode cX6_lookAt 9 = .ok (.putfield 51, 3) := by decide +kernel
theorem dX6_lookAt_12 : decode cX6_lookAt 12 = .ok (.aload_n 0, 1) := by decide +kernel
theorem dX6_lookAt_13 : decode cX6_lookAt 13 = .ok (.iconst 0, 1) := by decide +kernel
theorem dX6_lookAt_14 : decode cX6_lookAt 14 = .ok (.putfield 48, 3) := by decide +kernel
theorem dX6_lookAt_17 : decode cX6_lookAt 17 = .ok (.aload_n 0, 1) := by decide +kernel
theorem dX6_lookAt_18 : decode cX6_lookAt 18 = .ok (.getfield 35, 3) := by decide +kernel
theorem dX6_lookAt_21 : decode cX6_lookAt 21 = .ok (.iload_n 1, 1) := by decide +kernel
theorem dX6_lookAt_22 : decode cX6_lookAt 22 = .ok (.baload, 1) := by decide +kernel
theorem dX6_lookAt_23 : decode cX6_lookAt 23 = .ok (.invokestatic 73, 3) := by decide +kernel
theorem dX6_lookAt_26 : decode cX6_lookAt 26 = .ok (.ifCond .eq 11, 3) := by decide +kernel
theorem dX6_lookAt_29 : decode cX6_lookAt 29 = .ok (.aload_n 0, 1) := by decide +kernel
theorem dX6_lookAt_30 : decode cX6_lookAt 30 = .ok (.iload_n 1, 1) := by decide +kernel
theorem dX6_lookAt_31 : decode cX6_lookAt 31 = .ok (.invokevirtual 76, 3) := by decide +kernel
theorem dX6_lookAt_34 : decode cX6_lookAt 34 = .ok (.goto 40, 3) := by decide +kernel
theorem dX6_lookAt_37 : decode cX6_lookAt 37 = .ok (.aload_n 0, 1) := by decide +kernel
theorem dX6_lookAt_38 : decode cX6_lookAt 38 = .ok (.getfield 35, 3) := by decide +kernel
theorem dX6_lookAt_41 : decode cX6_lookAt 41 = .ok (.iload_n 1, 1) := by decide +kernel
theorem dX6_lookAt_42 : decode cX6_lookAt 42 = .ok (.baload, 1) := by decide +kernel
theorem dX6_lookAt_43 : decode cX6_lookAt 43 = .ok (.invokestatic 79, 3) := by decide +kernel
theorem dX6_lookAt_46 : decode cX6_lookAt 46 = .ok (.ifCond .eq 11, 3) := by decide +kernel
theorem dX6_lookAt_49 : decode cX6_lookAt 49 = .ok (.aload_n 0, 1) := by decide +kernel
theorem dX6_lookAt_50 : decode cX6_lookAt 50 = .ok (.iload_n 1, 1) := by decide +kernel
theorem dX6_lookAt_51 : decode cX6_lookAt 51 = .ok (.invokevirtual 82, 3) := by decide +kernel
theorem dX6_lookAt_54 : decode cX6_lookAt 54 = .ok (.goto 20, 3) := by decide +kernel
theorem dX6_lookAt_57 : decode cX6_lookAt 57 = .ok (.aload_n 0, 1) := by decide +kernel
theorem dX6_lookAt_58 : decode cX6_lookAt 58 = .ok (.getfield 35, 3) := by decide +kernel
theorem dX6_lookAt_61 : decode cX6_lookAt 61 = .ok (.iload_n 1, 1) := by decide +kernel
theorem dX6_lookAt_62 : decode cX6_lookAt 62 = .ok (.baload, 1) := by decide +kernel
theorem dX6_lookAt_63 : decode cX6_lookAt 63 = .ok (.bipush 59, 2) := by decide +kernel
theorem dX6_lookAt_65 : decode cX6_lookAt 65 = .ok (.if_icmp .ne 9, 3) := by decide +kernel
theorem dX6_lookAt_68 : decode cX6_lookAt 68 = .ok (.aload_n 0, 1) := by decide +kernel
theorem dX6_lookAt_69 : decode cX6_lookAt 69 = .ok (.bipush 7, 2) := by decide +kernel
theorem dX6_lookAt_71 : decode cX6_lookAt 71 = .ok (.putfield 48, 3) := by decide +kernel
theorem dX6_lookAt_74 : decode cX6_lookAt 74 = .ok (.return_, 1) := by decide +kernel
theorem dX6_lookAtLetters_0 : decode cX6_lookAtLetters 0 = .ok (.iload_n 1, 1) := by decide +kernel
theorem dX6_lookAtLetters_1 : decode cX6_lookAtLetters 1 = .ok (.istore_n 2, 1) := by decide +kernel
theorem dX6_lookAtLetters_2 : decode cX6_lookAtLetters 2 = .ok (.iload_n 2, 1) := by decide +kernel
theorem dX6_lookAtLetters_3 : decode cX6_lookAtLetters 3 = .ok (.aload_n 0, 1) := by decide +kernel
theorem dX6_lookAtLetters_4 : decode cX6_lookAtLetters 4 = .ok (.getfield 9, 3) := by decide +kernel
theorem dX6_lookAtLetters_7 : decode cX6_lookAtLetters 7 = .ok (.if_icmp .ge 44, 3) := by decide +kernel
theorem dX6_lookAtLetters_10 : decode cX6_lookAtLetters 10 = .ok (.aload_n 0, 1) := by decide +kernel
theorem dX6_lookAtLetters_11 : decode cX6_lookAtLetters 11 = .ok (.getfield 35, 3) := by decide +kernel
theorem dX6_lookAtLetters_14 : decode cX6_lookAtLetters 14 = .ok (.iload_n 2, 1) := by decide +kernel
theorem dX6_lookAtLetters_15 : decode cX6_lookAtLetters 15 = .ok (.baload, 1) := by decide +kernel
theorem dX6_lookAtLetters_16 : decode cX6_lookAtLetters 16 = .ok (.invokestatic 73, 3) := by decide +kernel
theorem dX6_lookAtLetters_19 : decode cX6_lookAtLetters 19 = .ok (.ifCond .eq 32, 3) := by decide +kernel
theorem dX6_lookAtLetters_22 : decode cX6_lookAtLetters 22 = .ok (.aload_n 0, 1) := by decide +kernel
theorem dX6_lookAtLetters_23 : decode cX6_lookAtLetters 23 = .ok (.aload_n 0, 1) := by decide +kernel
theorem dX6_lookAtLetters_24 : decode cX6_lookAtLetters 24 = .ok (.getfield 54, 3) := by decide +kernel
theorem dX6_lookAtLetters_27 : decode cX6_lookAtLetters 27 = .ok (.iconst 5, 1) := by decide +kernel
theorem dX6_lookAtLetters_28 : decode cX6_lookAtLetters 28 = .ok (.lshl, 1) := by decide +kernel
theorem dX6_lookAtLetters_29 : decode cX6_lookAtLetters 29 = .ok (.aload_n 0, 1) := by decide +kernel
theorem dX6_lookAtLetters_30 : decode cX6_lookAtLetters 30 = .ok (.getfield 35, 3) := by decide +kernel
theorem dX6_lookAtLetters_33 : decode cX6_lookAtLetters 33 = .ok (.iload_n 2, 1) := by decide +kernel
theorem dX6_lookAtLetters_34 : decode cX6_lookAtLetters 34 = .ok (.baload, 1) := by decide +kernel
theorem dX6_lookAtLetters_35 : decode cX6_lookAtLetters 35 = .ok (.bipush 97, 2) := by decide +kernel
theorem dX6_lookAtLetters_37 : decode cX6_lookAtLetters 37 = .ok (.isub, 1) := by decide +kernel
theorem dX6_lookAtLetters_38 : decode cX6_lookAtLetters 38 = .ok (.iconst 1, 1) := by decide +kernel
theorem dX6_lookAtLetters_39 : decode cX6_lookAtLetters 39 = .ok (.iadd, 1) := by decide +kernel
theorem dX6_lookAtLetters_40 : decode cX6_lookAtLetters 40 = .ok (.i2l, 1) := by decide +kernel
theorem dX6_lookAtLetters_41 : decode cX6_lookAtLetters 41 = .ok (.lor, 1) := by decide +kernel
theorem dX6_lookAtLetters_42 : decode cX6_lookAtLetters 42 = .ok (.putfield 54, 3) := by decide +kernel
theorem dX6_lookAtLetters_45 : decode cX6_lookAtLetters 45 = .ok (.iinc 2 1, 3) := by decide +kernel
theorem dX6_lookAtLetters_48 : decode cX6_lookAtLetters 48 = .ok (.goto (-46), 3) := by decide +kernel
theorem dX6_lookAtLetters_51 : decode cX6_lookAtLetters 51 = .ok (.aload_n 0, 1) := by decide +kernel
theorem dX6_lookAtLetters_52 : decode cX6_lookAtLetters 52 = .ok (.iload_n 2, 1) := by decide +kernel
theorem dX6_lookAtLetters_53 : decode cX6_lookAtLetters 53 = .ok (.putfield 51, 3) := by decide +kernel
theorem dX6_lookAtLetters_56 : decode cX6_lookAtLetters 56 = .ok (.iload_n 2, 1) := by decide +kernel
theorem dX6_lookAtLetters_57 : decode cX6_lookAtLetters 57 = .ok (.iload_n 1, 1) := by decide +kernel
theorem dX6_lookAtLetters_58 : decode cX6_lookAtLetters 58 = .ok (.isub, 1) := by decide +kernel
theorem dX6_lookAtLetters_59 : decode cX6_lookAtLetters 59 = .ok (.bipush 8, 2) := by decide +kernel
theorem dX6_lookAtLetters_61 : decode cX6_lookAtLetters 61 = .ok (.if_icmp .le 11, 3) := by decide +kernel
theorem dX6_lookAtLetters_64 : decode cX6_lookAtLetters 64 = .ok (.aload_n 0, 1) := by decide +kernel
theorem dX6_lookAtLetters_65 : decode cX6_lookAtLetters 65 = .ok (.iconst 0, 1) := by decide +kernel
theorem dX6_lookAtLetters_66 : decode cX6_lookAtLetters 66 = .ok (.putfield 48, 3) := by decide +kernel
theorem dX6_lookAtLetters_69 : decode cX6_lookAtLetters 69 = .ok (.goto 80, 3) := by decide +kernel
theorem dX6_lookAtLetters_72 : decode cX6_lookAtLetters 72 = .ok (.aload_n 0, 1) := by decide +kernel
theorem dX6_lookAtLetters_73 : decode cX6_lookAtLetters 73 = .ok (.ldc 85, 2) := by decide +kernel
theorem dX6_lookAtLetters_75 : decode cX6_lookAtLetters 75 = .ok (.iload_n 1, 1) := by decide +kernel
theorem dX6_lookAtLetters_76 : decode cX6_lookAtLetters 76 = .ok (.iload_n 2, 1) := by decide +kernel
theorem dX6_lookAtLetters_77 : decode cX6_lookAtLetters 77 = .ok (.invokevirtual 87, 3) := by decide +kernel
theorem dX6_lookAtLetters_80 : decode cX6_lookAtLetters 80 = .ok (.ifCond .eq 11, 3) := by decide +kernel
theorem dX6_lookAtLetters_83 : decode cX6_lookAtLetters 83 = .ok (.aload_n 0, 1) := by decide +kernel
theorem dX6_lookAtLetters_84 : decode cX6_lookAtLetters 84 = .ok (.iconst 1, 1) := by decide +kernel
theorem dX6_lookAtLetters_85 : decode cX6_lookAtLetters 85 = .ok (.putfield 48, 3) := by decide +kernel
theorem dX6_lookAtLetters_88 : decode cX6_lookAtLetters 88 = .ok (.goto 61, 3) := by decide +kernel
theorem dX6_lookAtLetters_91 : decode cX6_lookAtLetters 91 = .ok (.aload_n 0, 1) := by decide +kernel
theorem dX6_lookAtLetters_92 : decode cX6_lookAtLetters 92 = .ok (.ldc 91, 2) := by decide +kernel
theorem dX6_lookAtLetters_94 : decode cX6_lookAtLetters 94 = .ok (.iload_n 1, 1) := by decide +kernel
theorem dX6_lookAtLetters_95 : decode cX6_lookAtLetters 95 = .ok (.iload_n 2, 1) := by decide +kernel
theorem dX6_lookAtLetters_96 : decode cX6_lookAtLetters 96 = .ok (.invokevirtual 87, 3) := by decide +kernel
theorem dX6_lookAtLetters_99 : decode cX6_lookAtLetters 99 = .ok (.ifCond .eq 11, 3) := by decide +kernel
theorem dX6_lookAtLetters_102 : decode cX6_lookAtLetters 102 = .ok (.aload_n 0, 1) := by decide +kernel
theorem dX6_lookAtLetters_103 : decode cX6_lookAtLetters 103 = .ok (.iconst 2, 1) := by decide +kernel
theorem dX6_lookAtLetters_104 : decode cX6_lookAtLetters 104 = .ok (.putfield 48, 3) := by decide +kernel
theorem dX6_lookAtLetters_107 : decode cX6_lookAtLetters 107 = .ok (.goto 42, 3) := by decide +kernel
theorem dX6_lookAtLetters_110 : decode cX6_lookAtLetters 110 = .ok (.aload_n 0, 1) := by decide +kernel
theorem dX6_lookAtLetters_111 : decode cX6_lookAtLetters 111 = .ok (.ldc 93, 2) := by decide +kernel
theorem dX6_lookAtLetters_113 : decode cX6_lookAtLetters 113 = .ok (.iload_n 1, 1) := by decide +kernel
theorem dX6_lookAtLetters_114 : decode cX6_lookAtLetters 114 = .ok (.iload_n 2, 1) := by decide +kernel
theorem dX6_lookAtLetters_115 : decode cX6_lookAtLetters 115 = .ok (.invokevirtual 87, 3) := by decide +kernel
theorem dX6_lookAtLetters_118 : decode cX6_lookAtLetters 118 = .ok (.ifCond .eq 11, 3) := by decide +kernel
theorem dX6_lookAtLetters_121 : decode cX6_lookAtLetters 121 = .ok (.aload_n 0, 1) := by decide +kernel
theorem dX6_lookAtLetters_122 : decode cX6_lookAtLetters 122 = .ok (.iconst 3, 1) := by decide +kernel
theorem dX6_lookAtLetters_123 : decode cX6_lookAtLetters 123 = .ok (.putfield 48, 3) := by decide +kernel
theorem dX6_lookAtLetters_126 : decode cX6_lookAtLetters 126 = .ok (.goto 23, 3) := by decide +kernel
theorem dX6_lookAtLetters_129 : decode cX6_lookAtLetters 129 = .ok (.aload_n 0, 1) := by decide +kernel
theorem dX6_lookAtLetters_130 : decode cX6_lookAtLetters 130 = .ok (.aload_n 0, 1) := by decide +kernel
theorem dX6_lookAtLetters_131 : decode cX6_lookAtLetters 131 = .ok (.ldc 95, 2) := by decide +kernel
theorem dX6_lookAtLetters_133 : decode cX6_lookAtLetters 133 = .ok (.iload_n 1, 1) := by decide +kernel
theorem dX6_lookAtLetters_134 : decode cX6_lookAtLetters 134 = .ok (.iload_n 2, 1) := by decide +kernel
theorem dX6_lookAtLetters_135 : decode cX6_lookAtLetters 135 = .ok (.invokevirtual 87, 3) := by decide +kernel
theorem dX6_lookAtLetters_138 : decode cX6_lookAtLetters 138 = .ok (.ifCond .eq 7, 3) := by decide +kernel
theorem dX6_lookAtLetters_141 : decode cX6_lookAtLetters 141 = .ok (.iconst 4, 1) := by decide +kernel
theorem dX6_lookAtLetters_142 : decode cX6_lookAtLetters 142 = .ok (.goto 4, 3) := by decide +kernel
theorem dX6_lookAtLetters_145 : decode cX6_lookAtLetters 145 = .ok (.iconst 5, 1) := by decide +kernel
theorem dX6_lookAtLetters_146 : decode cX6_lookAtLetters 146 = .ok (.putfield 48, 3) := by decide +kernel
theorem dX6_lookAtLetters_149 : decode cX6_lookAtLetters 149 = .ok (.return_, 1) := by decide +kernel
theorem dX6_lookAtDigits_0 : decode cX6_lookAtDigits 0 = .ok (.iload_n 1, 1) := by decide +kernel
theorem dX6_lookAtDigits_1 : decode cX6_lookAtDigits 1 = .ok (.istore_n 2, 1) := by decide +kernel
theorem dX6_lookAtDigits_2 : decode cX6_lookAtDigits 2 = .ok (.iload_n 2, 1) := by decide +kernel
theorem dX6_lookAtDigits_3 : decode cX6_lookAtDigits 3 = .ok (.aload_n 0, 1) := by decide +kernel
theorem dX6_lookAtDigits_4 : decode cX6_lookAtDigits 4 = .ok (.getfield 9, 3) := by decide +kernel
theorem dX6_lookAtDigits_7 : decode cX6_lookAtDigits 7 = .ok (.if_icmp .ge 45, 3) := by decide +kernel
theorem dX6_lookAtDigits_10 : decode cX6_lookAtDigits 10 = .ok (.aload_n 0, 1) := by decide +kernel
theorem dX6_lookAtDigits_11 : decode cX6_lookAtDigits 11 = .ok (.getfield 35, 3) := by decide +kernel
theorem dX6_lookAtDigits_14 : decode cX6_lookAtDigits 14 = .ok (.iload_n 2, 1) := by decide +kernel
theorem dX6_lookAtDigits_15 : decode cX6_lookAtDigits 15 = .ok (.baload, 1) := by decide +kernel
theorem dX6_lookAtDigits_16 : decode cX6_lookAtDigits 16 = .ok (.invokestatic 79, 3) := by decide +kernel
theorem dX6_lookAtDigits_19 : decode cX6_lookAtDigits 19 = .ok (.ifCond .eq 33, 3) := by decide +kernel
theorem dX6_lookAtDigits_22 : decode cX6_lookAtDigits 22 = .ok (.aload_n 0, 1) := by decide +kernel
theorem dX6_lookAtDigits_23 : decode cX6_lookAtDigits 23 = .ok (.aload_n 0, 1) := by decide +kernel
theorem dX6_lookAtDigits_24 : decode cX6_lookAtDigits 24 = .ok (.getfield 54, 3) := by decide +kernel
theorem dX6_lookAtDigits_27 : decode cX6_lookAtDigits 27 = .ok (.ldc2_w 97, 3) := by decide +kernel
theorem dX6_lookAtDigits_30 : decode cX6_lookAtDigits 30 = .ok (.lmul, 1) := by decide +kernel
theorem dX6_lookAtDigits_31 : decode cX6_lookAtDigits 31 = .ok (.aload_n 0, 1) := by decide +kernel
theorem dX6_lookAtDigits_32 : decode cX6_lookAtDigits 32 = .ok (.getfield 35, 3) := by decide +kernel
theorem dX6_lookAtDigits_35 : decode cX6_lookAtDigits 35 = .ok (.iload_n 2, 1) := by decide +kernel
theorem dX6_lookAtDigits_36 : decode cX6_lookAtDigits 36 = .ok (.baload, 1) := by decide +kernel
theorem dX6_lookAtDigits_37 : decode cX6_lookAtDigits 37 = .ok (.i2l, 1) := by decide +kernel
theorem dX6_lookAtDigits_38 : decode cX6_lookAtDigits 38 = .ok (.ladd, 1) := by decide +kernel
theorem dX6_lookAtDigits_39 : decode cX6_lookAtDigits 39 = .ok (.ldc2_w 99, 3) := by decide +kernel
theorem dX6_lookAtDigits_42 : decode cX6_lookAtDigits 42 = .ok (.lsub, 1) := by decide +kernel
theorem dX6_lookAtDigits_43 : decode cX6_lookAtDigits 43 = .ok (.putfield 54, 3) := by decide +kernel
theorem dX6_lookAtDigits_46 : decode cX6_lookAtDigits 46 = .ok (.iinc 2 1, 3) := by decide +kernel
theorem dX6_lookAtDigits_49 : decode cX6_lookAtDigits 49 = .ok (.goto (-47), 3) := by decide +kernel
theorem dX6_lookAtDigits_52 : decode cX6_lookAtDigits 52 = .ok (.aload_n 0, 1) := by decide +kernel
theorem dX6_lookAtDigits_53 : decode cX6_lookAtDigits 53 = .ok (.iload_n 2, 1) := by decide +kernel
theorem dX6_lookAtDigits_54 : decode cX6_lookAtDigits 54 = .ok (.putfield 51, 3) := by decide +kernel
theorem dX6_lookAtDigits_57 : decode cX6_lookAtDigits 57 = .ok (.aload_n 0, 1) := by decide +kernel
theorem dX6_lookAtDigits_58 : decode cX6_lookAtDigits 58 = .ok (.iload_n 2, 1) := by decide +kernel
theorem dX6_lookAtDigits_59 : decode cX6_lookAtDigits 59 = .ok (.iload_n 1, 1) := by decide +kernel
theorem dX6_lookAtDigits_60 : decode cX6_lookAtDigits 60 = .ok (.isub, 1) := by decide +kernel
theorem dX6_lookAtDigits_61 : decode cX6_lookAtDigits 61 = .ok (.iconst 4, 1) := by decide +kernel
theorem dX6_lookAtDigits_62 : decode cX6_lookAtDigits 62 = .ok (.if_icmp .le 7, 3) := by decide +kernel
theorem dX6_lookAtDigits_65 : decode cX6_lookAtDigits 65 = .ok (.iconst 0, 1) := by decide +kernel
theorem dX6_lookAtDigits_66 : decode cX6_lookAtDigits 66 = .ok (.goto 5, 3) := by decide +kernel
theorem dX6_lookAtDigits_69 : decode cX6_lookAtDigits 69 = .ok (.bipush 6, 2) := by decide +kernel
theorem dX6_lookAtDigits_71 : decode cX6_lookAtDigits 71 = .ok (.putfield 48, 3) := by decide +kernel
theorem dX6_lookAtDigits_74 : decode cX6_lookAtDigits 74 = .ok (.return_, 1) := by decide +kernel
theorem dX6_spells_0 : decode cX6_spells 0 = .ok (.iload_n 3, 1) := by decide +kernel
theorem dX6_spells_1 : decode cX6_spells 1 = .ok (.iload_n 2, 1) := by decide +kernel
theorem dX6_spells_2 : decode cX6_spells 2 = .ok (.isub, 1) := by decide +kernel
theorem dX6_spells_3 : decode cX6_spells 3 = .ok (.aload_n 1, 1) := by decide +kernel
theorem dX6_spells_4 : decode cX6_spells 4 = .ok (.invokevirtual 101, 3) := by decide +kernel
theorem dX6_spells_7 : decode cX6_spells 7 = .ok (.if_icmp .eq 5, 3) := by decide +kernel
theorem dX6_spells_10 : decode cX6_spells 10 = .ok (.iconst 0, 1) := by decide +kernel
theorem dX6_spells_11 : decode cX6_spells 11 = .ok (.ireturn, 1) := by decide +kernel
theorem dX6_spells_12 : decode cX6_spells 12 = .ok (.iconst 0, 1) := by decide +kernel
theorem dX6_spells_13 : decode cX6_spells 13 = .ok (.istore 4, 2) := by decide +kernel
theorem dX6_spells_15 : decode cX6_spells 15 = .ok (.iload 4, 2) := by decide +kernel
theorem dX6_spells_17 : decode cX6_spells 17 = .ok (.aload_n 1, 1) := by decide +kernel
theorem dX6_spells_18 : decode cX6_spells 18 = .ok (.invokevirtual 101, 3) := by decide +kernel
theorem dX6_spells_21 : decode cX6_spells 21 = .ok (.if_icmp .ge 29, 3) := by decide +kernel
theorem dX6_spells_24 : decode cX6_spells 24 = .ok (.aload_n 0, 1) := by decide +kernel
theorem dX6_spells_25 : decode cX6_spells 25 = .ok (.getfield 35, 3) := by decide +kernel
theorem dX6_spells_28 : decode cX6_spells 28 = .ok (.iload_n 2, 1) := by decide +kernel
theorem dX6_spells_29 : decode cX6_spells 29 = .ok (.iload 4, 2) := by decide +kernel
theorem dX6_spells_31 : decode cX6_spells 31 = .ok (.iadd, 1) := by decide +kernel
theorem dX6_spells_32 : decode cX6_spells 32 = .ok (.baload, 1) := by decide +kernel
theorem dX6_spells_33 : decode cX6_spells 33 = .ok (.aload_n 1, 1) := by decide +kernel
theorem dX6_spells_34 : decode cX6_spells 34 = .ok (.iload 4, 2) := by decide +kernel
theorem dX6_spells_36 : decode cX6_spells 36 = .ok (.invokevirtual 106, 3) := by decide +kernel
theorem dX6_spells_39 : decode cX6_spells 39 = .ok (.if_icmp .eq 5, 3) := by decide +kernel
theorem dX6_spells_42 : decode cX6_spells 42 = .ok (.iconst 0, 1) := by decide +kernel
theorem dX6_spells_43 : decode cX6_spells 43 = .ok (.ireturn, 1) := by decide +kernel
theorem dX6_spells_44 : decode cX6_spells 44 = .ok (.iinc 4 1, 3) := by decide +kernel
theorem dX6_spells_47 : decode cX6_spells 47 = .ok (.goto (-32), 3) := by decide +kernel
theorem dX6_spells_50 : decode cX6_spells 50 = .ok (.iconst 1, 1) := by decide +kernel
theorem dX6_spells_51 : decode cX6_spells 51 = .ok (.ireturn, 1) := by decide +kernel
theorem dX6_takeToken_0 : decode cX6_takeToken 0 = .ok (.aload_n 0, 1) := by decide +kernel
theorem dX6_takeToken_1 : decode cX6_takeToken 1 = .ok (.aload_n 0, 1) := by decide +kernel
theorem dX6_takeToken_2 : decode cX6_takeToken 2 = .ok (.getfield 48, 3) := by decide +kernel
theorem dX6_takeToken_5 : decode cX6_takeToken 5 = .ok (.invokevirtual 110, 3) := by decide +kernel
theorem dX6_takeToken_8 : decode cX6_takeToken 8 = .ok (.istore_n 2, 1) := by decide +kernel
theorem dX6_takeToken_9 : decode cX6_takeToken 9 = .ok (.iload_n 2, 1) := by decide +kernel
theorem dX6_takeToken_10 : decode cX6_takeToken 10 = .ok (.iconst (-1), 1) := by decide +kernel
theorem dX6_takeToken_11 : decode cX6_takeToken 11 = .ok (.if_icmp .ne 10, 3) := by decide +kernel
theorem dX6_takeToken_14 : decode cX6_takeToken 14 = .ok (.aload_n 0, 1) := by decide +kernel
theorem dX6_takeToken_15 : decode cX6_takeToken 15 = .ok (.iconst 1, 1) := by decide +kernel
theorem dX6_takeToken_16 : decode cX6_takeToken 16 = .ok (.iload_n 1, 1) := by decide +kernel
theorem dX6_takeToken_17 : decode cX6_takeToken 17 = .ok (.invokevirtual 69, 3) := by decide +kernel
theorem dX6_takeToken_20 : decode cX6_takeToken 20 = .ok (.return_, 1) := by decide +kernel
theorem dX6_takeToken_21 : decode cX6_takeToken 21 = .ok (.aload_n 0, 1) := by decide +kernel
theorem dX6_takeToken_22 : decode cX6_takeToken 22 = .ok (.getfield 15, 3) := by decide +kernel
theorem dX6_takeToken_25 : decode cX6_takeToken 25 = .ok (.sipush 400, 3) := by decide +kernel
theorem dX6_takeToken_28 : decode cX6_takeToken 28 = .ok (.if_icmp .ge 37, 3) := by decide +kernel
theorem dX6_takeToken_31 : decode cX6_takeToken 31 = .ok (.aload_n 0, 1) := by decide +kernel
theorem dX6_takeToken_32 : decode cX6_takeToken 32 = .ok (.getfield 48, 3) := by decide +kernel
theorem dX6_takeToken_35 : decode cX6_takeToken 35 = .ok (.iconst 1, 1) := by decide +kernel
theorem dX6_takeToken_36 : decode cX6_takeToken 36 = .ok (.if_icmp .ne 12, 3) := by decide +kernel
theorem dX6_takeToken_39 : decode cX6_takeToken 39 = .ok (.aload_n 0, 1) := by decide +kernel
theorem dX6_takeToken_40 : decode cX6_takeToken 40 = .ok (.getfield 42, 3) := by decide +kernel
theorem dX6_takeToken_43 : decode cX6_takeToken 43 = .ok (.bipush 6, 2) := by decide +kernel
theorem dX6_takeToken_45 : decode cX6_takeToken 45 = .ok (.if_icmp .ge 20, 3) := by decide +kernel
theorem dX6_takeToken_48 : decode cX6_takeToken 48 = .ok (.aload_n 0, 1) := by decide +kernel
theorem dX6_takeToken_49 : decode cX6_takeToken 49 = .ok (.getfield 48, 3) := by decide +kernel
theorem dX6_takeToken_52 : decode cX6_takeToken 52 = .ok (.iconst 2, 1) := by decide +kernel
theorem dX6_takeToken_53 : decode cX6_takeToken 53 = .ok (.if_icmp .ne 19, 3) := by decide +kernel
theorem dX6_takeToken_56 : decode cX6_takeToken 56 = .ok (.aload_n 0, 1) := by decide +kernel
theorem dX6_takeToken_57 : decode cX6_takeToken 57 = .ok (.getfield 45, 3) := by decide +kernel
theorem dX6_takeToken_60 : decode cX6_takeToken 60 = .ok (.bipush 10, 2) := by decide +kernel
theorem dX6_takeToken_62 : decode cX6_takeToken 62 = .ok (.if_icmp .lt 10, 3) := by decide +kernel
theorem dX6_takeToken_65 : decode cX6_takeToken 65 = .ok (.aload_n 0, 1) := by decide +kernel
theorem dX6_takeToken_66 : decode cX6_takeToken 66 = .ok (.iconst 2, 1) := by decide +kernel
theorem dX6_takeToken_67 : decode cX6_takeToken 67 = .ok (.iload_n 1, 1) := by decide +kernel
theorem dX6_takeToken_68 : decode cX6_takeToken 68 = .ok (.invokevirtual 69, 3) := by decide +kernel
theorem dX6_takeToken_71 : decode cX6_takeToken 71 = .ok (.return_, 1) := by decide +kernel
theorem dX6_takeToken_72 : decode cX6_takeToken 72 = .ok (.aload_n 0, 1) := by decide +kernel
theorem dX6_takeToken_73 : decode cX6_takeToken 73 = .ok (.dup, 1) := by decide +kernel
theorem dX6_takeToken_74 : decode cX6_takeToken 74 = .ok (.getfield 42, 3) := by decide +kernel
theorem dX6_takeToken_77 : decode cX6_takeToken 77 = .ok (.aload_n 0, 1) := by decide +kernel
theorem dX6_takeToken_78 : decode cX6_takeToken 78 = .ok (.getfield 48, 3) := by decide +kernel
theorem dX6_takeToken_81 : decode cX6_takeToken 81 = .ok (.iconst 1, 1) := by decide +kernel
theorem dX6_takeToken_82 : decode cX6_takeToken 82 = .ok (.if_icmp .ne 7, 3) := by decide +kernel
theorem dX6_takeToken_85 : decode cX6_takeToken 85 = .ok (.iconst 1, 1) := by decide +kernel
theorem dX6_takeToken_86 : decode cX6_takeToken 86 = .ok (.goto 4, 3) := by decide +kernel
theorem dX6_takeToken_89 : decode cX6_takeToken 89 = .ok (.iconst 0, 1) := by decide +kernel
theorem dX6_takeToken_90 : decode cX6_takeToken 90 = .ok (.iadd, 1) := by decide +kernel
theorem dX6_takeToken_91 : decode cX6_takeToken 91 = .ok (.putfield 42, 3) := by decide +kernel
theorem dX6_takeToken_94 : decode cX6_takeToken 94 = .ok (.aload_n 0, 1) := by decide +kernel
theorem dX6_takeToken_95 : decode cX6_takeToken 95 = .ok (.dup, 1) := by decide +kernel
theorem dX6_takeToken_96 : decode cX6_takeToken 96 = .ok (.getfield 45, 3) := by decide +kernel
theorem dX6_takeToken_99 : decode cX6_takeToken 99 = .ok (.aload_n 0, 1) := by decide +kernel
theorem dX6_takeToken_100 : decode cX6_takeToken 100 = .ok (.getfield 48, 3) := by decide +kernel
theorem dX6_takeToken_103 : decode cX6_takeToken 103 = .ok (.iconst 2, 1) := by decide +kernel
theorem dX6_takeToken_104 : decode cX6_takeToken 104 = .ok (.if_icmp .ne 7, 3) := by decide +kernel
theorem dX6_takeToken_107 : decode cX6_takeToken 107 = .ok (.iconst 1, 1) := by decide +kernel
theorem dX6_takeToken_108 : decode cX6_takeToken 108 = .ok (.goto 4, 3) := by decide +kernel
theorem dX6_takeToken_111 : decode cX6_takeToken 111 = .ok (.iconst 0, 1) := by decide +kernel
theorem dX6_takeToken_112 : decode cX6_takeToken 112 = .ok (.iadd, 1) := by decide +kernel
theorem dX6_takeToken_113 : decode cX6_takeToken 113 = .ok (.putfield 45, 3) := by decide +kernel
theorem dX6_takeToken_116 : decode cX6_takeToken 116 = .ok (.aload_n 0, 1) := by decide +kernel
theorem dX6_takeToken_117 : decode cX6_takeToken 117 = .ok (.getfield 24, 3) := by decide +kernel
theorem dX6_takeToken_120 : decode cX6_takeToken 120 = .ok (.aload_n 0, 1) := by decide +kernel
theorem dX6_takeToken_121 : decode cX6_takeToken 121 = .ok (.getfield 15, 3) := by decide +kernel
theorem dX6_takeToken_124 : decode cX6_takeToken 124 = .ok (.aload_n 0, 1) := by decide +kernel
theorem dX6_takeToken_125 : decode cX6_takeToken 125 = .ok (.getfield 48, 3) := by decide +kernel
theorem dX6_takeToken_128 : decode cX6_takeToken 128 = .ok (.iastore, 1) := by decide +kernel
theorem dX6_takeToken_129 : decode cX6_takeToken 129 = .ok (.aload_n 0, 1) := by decide +kernel
theorem dX6_takeToken_130 : decode cX6_takeToken 130 = .ok (.getfield 28, 3) := by decide +kernel
theorem dX6_takeToken_133 : decode cX6_takeToken 133 = .ok (.aload_n 0, 1) := by decide +kernel
theorem dX6_takeToken_134 : decode cX6_takeToken 134 = .ok (.getfield 15, 3) := by decide +kernel
theorem dX6_takeToken_137 : decode cX6_takeToken 137 = .ok (.iload_n 1, 1) := by decide +kernel
theorem dX6_takeToken_138 : decode cX6_takeToken 138 = .ok (.iastore, 1) := by decide +kernel
theorem dX6_takeToken_139 : decode cX6_takeToken 139 = .ok (.aload_n 0, 1) := by decide +kernel
theorem dX6_takeToken_140 : decode cX6_takeToken 140 = .ok (.getfield 31, 3) := by decide +kernel
theorem dX6_takeToken_143 : decode cX6_takeToken 143 = .ok (.aload_n 0, 1) := by decide +kernel
theorem dX6_takeToken_144 : decode cX6_takeToken 144 = .ok (.getfield 15, 3) := by decide +kernel
theorem dX6_takeToken_147 : decode cX6_takeToken 147 = .ok (.aload_n 0, 1) := by decide +kernel
theorem dX6_takeToken_148 : decode cX6_takeToken 148 = .ok (.getfield 54, 3) := by decide +kernel
theorem dX6_takeToken_151 : decode cX6_takeToken 151 = .ok (.lastore, 1) := by decide +kernel
theorem dX6_takeToken_152 : decode cX6_takeToken 152 = .ok (.aload_n 0, 1) := by decide +kernel
theorem dX6_takeToken_153 : decode cX6_takeToken 153 = .ok (.dup, 1) := by decide +kernel
theorem dX6_takeToken_154 : decode cX6_takeToken 154 = .ok (.getfield 15, 3) := by decide +kernel
theorem dX6_takeToken_157 : decode cX6_takeToken 157 = .ok (.iconst 1, 1) := by decide +kernel
theorem dX6_takeToken_158 : decode cX6_takeToken 158 = .ok (.iadd, 1) := by decide +kernel
theorem dX6_takeToken_159 : decode cX6_takeToken 159 = .ok (.putfield 15, 3) := by decide +kernel
theorem dX6_takeToken_162 : decode cX6_takeToken 162 = .ok (.aload_n 0, 1) := by decide +kernel
theorem dX6_takeToken_163 : decode cX6_takeToken 163 = .ok (.iload_n 2, 1) := by decide +kernel
theorem dX6_takeToken_164 : decode cX6_takeToken 164 = .ok (.putfield 39, 3) := by decide +kernel
theorem dX6_takeToken_167 : decode cX6_takeToken 167 = .ok (.return_, 1) := by decide +kernel
theorem dX6_stageBehind_0 : decode cX6_stageBehind 0 = .ok (.aload_n 0, 1) := by decide +kernel
theorem dX6_stageBehind_1 : decode cX6_stageBehind 1 = .ok (.getfield 39, 3) := by decide +kernel
theorem dX6_stageBehind_4 : decode cX6_stageBehind 4 = .ok (.tableswitch 152 0 8 #[52, 57, 69, 80, 91, 106, 118, 131, 147], 52) := by decide +kernel
theorem dX6_stageBehind_56 : decode cX6_stageBehind 56 = .ok (.iload_n 1, 1) := by decide +kernel
theorem dX6_stageBehind_57 : decode cX6_stageBehind 57 = .ok (.invokestatic 114, 3) := by decide +kernel
theorem dX6_stageBehind_60 : decode cX6_stageBehind 60 = .ok (.ireturn, 1) := by decide +kernel
theorem dX6_stageBehind_61 : decode cX6_stageBehind 61 = .ok (.iload_n 1, 1) := by decide +kernel
theorem dX6_stageBehind_62 : decode cX6_stageBehind 62 = .ok (.iconst 5, 1) := by decide +kernel
theorem dX6_stageBehind_63 : decode cX6_stageBehind 63 = .ok (.if_icmp .ne 8, 3) := by decide +kernel
theorem dX6_stageBehind_66 : decode cX6_stageBehind 66 = .ok (.bipush 8, 2) := by decide +kernel
theorem dX6_stageBehind_68 : decode cX6_stageBehind 68 = .ok (.goto 4, 3) := by decide +kernel
theorem dX6_stageBehind_71 : decode cX6_stageBehind 71 = .ok (.iconst (-1), 1) := by decide +kernel
theorem dX6_stageBehind_72 : decode cX6_stageBehind 72 = .ok (.ireturn, 1) := by decide +kernel
theorem dX6_stageBehind_73 : decode cX6_stageBehind 73 = .ok (.iload_n 1, 1) := by decide +kernel
theorem dX6_stageBehind_74 : decode cX6_stageBehind 74 = .ok (.iconst 5, 1) := by decide +kernel
theorem dX6_stageBehind_75 : decode cX6_stageBehind 75 = .ok (.if_icmp .ne 7, 3) := by decide +kernel
theorem dX6_stageBehind_78 : decode cX6_stageBehind 78 = .ok (.iconst 3, 1) := by decide +kernel
theorem dX6_stageBehind_79 : decode cX6_stageBehind 79 = .ok (.goto 4, 3) := by decide +kernel
theorem dX6_stageBehind_82 : decode cX6_stageBehind 82 = .ok (.iconst (-1), 1) := by decide +kernel
theorem dX6_stageBehind_83 : decode cX6_stageBehind 83 = .ok (.ireturn, 1) := by decide +kernel
theorem dX6_stageBehind_84 : decode cX6_stageBehind 84 = .ok (.iload_n 1, 1) := by decide +kernel
theorem dX6_stageBehind_85 : decode cX6_stageBehind 85 = .ok (.iconst 5, 1) := by decide +kernel
theorem dX6_stageBehind_86 : decode cX6_stageBehind 86 = .ok (.if_icmp .ne 7, 3) := by decide +kernel
theorem dX6_stageBehind_89 : decode cX6_stageBehind 89 = .ok (.iconst 4, 1) := by decide +kernel
theorem dX6_stageBehind_90 : decode cX6_stageBehind 90 = .ok (.goto 4, 3) := by decide +kernel
theorem dX6_stageBehind_93 : decode cX6_stageBehind 93 = .ok (.iconst (-1), 1) := by decide +kernel
theorem dX6_stageBehind_94 : decode cX6_stageBehind 94 = .ok (.ireturn, 1) := by decide +kernel
theorem dX6_stageBehind_95 : decode cX6_stageBehind 95 = .ok (.iload_n 1, 1) := by decide +kernel
theorem dX6_stageBehind_96 : decode cX6_stageBehind 96 = .ok (.iconst 4, 1) := by decide +kernel
theorem dX6_stageBehind_97 : decode cX6_stageBehind 97 = .ok (.if_icmp .ne 8, 3) := by decide +kernel
theorem dX6_stageBehind_100 : decode cX6_stageBehind 100 = .ok (.bipush 8, 2) := by decide +kernel
theorem dX6_stageBehind_102 : decode cX6_stageBehind 102 = .ok (.goto 7, 3) := by decide +kernel
theorem dX6_stageBehind_105 : decode cX6_stageBehind 105 = .ok (.iload_n 1, 1) := by decide +kernel
theorem dX6_stageBehind_106 : decode cX6_stageBehind 106 = .ok (.invokestatic 117, 3) := by decide +kernel
theorem dX6_stageBehind_109 : decode cX6_stageBehind 109 = .ok (.ireturn, 1) := by decide +kernel
theorem dX6_stageBehind_110 : decode cX6_stageBehind 110 = .ok (.iload_n 1, 1) := by decide +kernel
theorem dX6_stageBehind_111 : decode cX6_stageBehind 111 = .ok (.iconst 5, 1) := by decide +kernel
theorem dX6_stageBehind_112 : decode cX6_stageBehind 112 = .ok (.if_icmp .ne 8, 3) := by decide +kernel
theorem dX6_stageBehind_115 : decode cX6_stageBehind 115 = .ok (.bipush 6, 2) := by decide +kernel
theorem dX6_stageBehind_117 : decode cX6_stageBehind 117 = .ok (.goto 4, 3) := by decide +kernel
theorem dX6_stageBehind_120 : decode cX6_stageBehind 120 = .ok (.iconst (-1), 1) := by decide +kernel
theorem dX6_stageBehind_121 : decode cX6_stageBehind 121 = .ok (.ireturn, 1) := by decide +kernel
theorem dX6_stageBehind_122 : decode cX6_stageBehind 122 = .ok (.iload_n 1, 1) := by decide +kernel
theorem dX6_stageBehind_123 : decode cX6_stageBehind 123 = .ok (.bipush 6, 2) := by decide +kernel
theorem dX6_stageBehind_125 : decode cX6_stageBehind 125 = .ok (.if_icmp .ne 8, 3) := by decide +kernel
theorem dX6_stageBehind_128 : decode cX6_stageBehind 128 = .ok (.bipush 7, 2) := by decide +kernel
theorem dX6_stageBehind_130 : decode cX6_stageBehind 130 = .ok (.goto 4, 3) := by decide +kernel
theorem dX6_stageBehind_133 : decode cX6_stageBehind 133 = .ok (.iconst (-1), 1) := by decide +kernel
theorem dX6_stageBehind_134 : decode cX6_stageBehind 134 = .ok (.ireturn, 1) := by decide +kernel
theorem dX6_stageBehind_135 : decode cX6_stageBehind 135 = .ok (.iload_n 1, 1) := by decide +kernel
theorem dX6_stageBehind_136 : decode cX6_stageBehind 136 = .ok (.bipush 6, 2) := by decide +kernel
theorem dX6_stageBehind_138 : decode cX6_stageBehind 138 = .ok (.if_icmp .ne 8, 3) := by decide +kernel
theorem dX6_stageBehind_141 : decode cX6_stageBehind 141 = .ok (.bipush 7, 2) := by decide +kernel
theorem dX6_stageBehind_143 : decode cX6_stageBehind 143 = .ok (.goto 7, 3) := by decide +kernel
theorem dX6_stageBehind_146 : decode cX6_stageBehind 146 = .ok (.iload_n 1, 1) := by decide +kernel
theorem dX6_stageBehind_147 : decode cX6_stageBehind 147 = .ok (.invokestatic 117, 3) := by decide +kernel
theorem dX6_stageBehind_150 : decode cX6_stageBehind 150 = .ok (.ireturn, 1) := by decide +kernel
theorem dX6_stageBehind_151 : decode cX6_stageBehind 151 = .ok (.iload_n 1, 1) := by decide +kernel
theorem dX6_stageBehind_152 : decode cX6_stageBehind 152 = .ok (.invokestatic 117, 3) := by decide +kernel
theorem dX6_stageBehind_155 : decode cX6_stageBehind 155 = .ok (.ireturn, 1) := by decide +kernel
theorem dX6_stageBehind_156 : decode cX6_stageBehind 156 = .ok (.iconst (-1), 1) := by decide +kernel
theorem dX6_stageBehind_157 : decode cX6_stageBehind 157 = .ok (.ireturn, 1) := by decide +kernel
theorem dX6_tellStage_0 : decode cX6_tellStage 0 = .ok (.iload_n 0, 1) := by decide +kernel
theorem dX6_tellStage_1 : decode cX6_tellStage 1 = .ok (.tableswitch 33 1 3 #[27, 29, 31], 27) := by decide +kernel
theorem dX6_tellStage_28 : decode cX6_tellStage 28 = .ok (.iconst 1, 1) := by decide +kernel
theorem dX6_tellStage_29 : decode cX6_tellStage 29 = .ok (.ireturn, 1) := by decide +kernel
theorem dX6_tellStage_30 : decode cX6_tellStage 30 = .ok (.iconst 2, 1) := by decide +kernel
theorem dX6_tellStage_31 : decode cX6_tellStage 31 = .ok (.ireturn, 1) := by decide +kernel
theorem dX6_tellStage_32 : decode cX6_tellStage 32 = .ok (.iconst 5, 1) := by decide +kernel
theorem dX6_tellStage_33 : decode cX6_tellStage 33 = .ok (.ireturn, 1) := by decide +kernel
theorem dX6_tellStage_34 : decode cX6_tellStage 34 = .ok (.iconst (-1), 1) := by decide +kernel
theorem dX6_tellStage_35 : decode cX6_tellStage 35 = .ok (.ireturn, 1) := by decide +kernel
theorem dX6_signStage_0 : decode cX6_signStage 0 = .ok (.iload_n 0, 1) := by decide +kernel
theorem dX6_signStage_1 : decode cX6_signStage 1 = .ok (.bipush 7, 2) := by decide +kernel
theorem dX6_signStage_3 : decode cX6_signStage 3 = .ok (.if_icmp .ne 7, 3) := by decide +kernel
theorem dX6_signStage_6 : decode cX6_signStage 6 = .ok (.iconst 0, 1) := by decide +kernel
theorem dX6_signStage_7 : decode cX6_signStage 7 = .ok (.goto 4, 3) := by decide +kernel
theorem dX6_signStage_10 : decode cX6_signStage 10 = .ok (.iconst (-1), 1) := by decide +kernel
theorem dX6_signStage_11 : decode cX6_signStage 11 = .ok (.ireturn, 1) := by decide +kernel
theorem dX6_isBlank_0 : decode cX6_isBlank 0 = .ok (.iload_n 0, 1) := by decide +kernel
theorem dX6_isBlank_1 : decode cX6_isBlank 1 = .ok (.bipush 9, 2) := by decide +kernel
theorem dX6_isBlank_3 : decode cX6_isBlank 3 = .ok (.if_icmp .eq 21, 3) := by decide +kernel
theorem dX6_isBlank_6 : decode cX6_isBlank 6 = .ok (.iload_n 0, 1) := by decide +kernel
theorem dX6_isBlank_7 : decode cX6_isBlank 7 = .ok (.bipush 10, 2) := by decide +kernel
theorem dX6_isBlank_9 : decode cX6_isBlank 9 = .ok (.if_icmp .eq 15, 3) := by decide +kernel
theorem dX6_isBlank_12 : decode cX6_isBlank 12 = .ok (.iload_n 0, 1) := by decide +kernel
theorem dX6_isBlank_13 : decode cX6_isBlank 13 = .ok (.bipush 13, 2) := by decide +kernel
theorem dX6_isBlank_15 : decode cX6_isBlank 15 = .ok (.if_icmp .eq 9, 3) := by decide +kernel
theorem dX6_isBlank_18 : decode cX6_isBlank 18 = .ok (.iload_n 0, 1) := by decide +kernel
theorem dX6_isBlank_19 : decode cX6_isBlank 19 = .ok (.bipush 32, 2) := by decide +kernel
theorem dX6_isBlank_21 : decode cX6_isBlank 21 = .ok (.if_icmp .ne 7, 3) := by decide +kernel
theorem dX6_isBlank_24 : decode cX6_isBlank 24 = .ok (.iconst 1, 1) := by decide +kernel
theorem dX6_isBlank_25 : decode cX6_isBlank 25 = .ok (.goto 4, 3) := by decide +kernel
theorem dX6_isBlank_28 : decode cX6_isBlank 28 = .ok (.iconst 0, 1) := by decide +kernel
theorem dX6_isBlank_29 : decode cX6_isBlank 29 = .ok (.ireturn, 1) := by decide +kernel
theorem dX6_isLetter_0 : decode cX6_isLetter 0 = .ok (.iload_n 0, 1) := by decide +kernel
theorem dX6_isLetter_1 : decode cX6_isLetter 1 = .ok (.bipush 97, 2) := by decide +kernel
theorem dX6_isLetter_3 : decode cX6_isLetter 3 = .ok (.if_icmp .lt 13, 3) := by decide +kernel
theorem dX6_isLetter_6 : decode cX6_isLetter 6 = .ok (.iload_n 0, 1) := by decide +kernel
theorem dX6_isLetter_7 : decode cX6_isLetter 7 = .ok (.bipush 122, 2) := by decide +kernel
theorem dX6_isLetter_9 : decode cX6_isLetter 9 = .ok (.if_icmp .gt 7, 3) := by decide +kernel
theorem dX6_isLetter_12 : decode cX6_isLetter 12 = .ok (.iconst 1, 1) := by decide +kernel
theorem dX6_isLetter_13 : decode cX6_isLetter 13 = .ok (.goto 4, 3) := by decide +kernel
theorem dX6_isLetter_16 : decode cX6_isLetter 16 = .ok (.iconst 0, 1) := by decide +kernel
theorem dX6_isLetter_17 : decode cX6_isLetter 17 = .ok (.ireturn, 1) := by decide +kernel
theorem dX6_isDigit_0 : decode cX6_isDigit 0 = .ok (.iload_n 0, 1) := by decide +kernel
theorem dX6_isDigit_1 : decode cX6_isDigit 1 = .ok (.bipush 48, 2) := by decide +kernel
theorem dX6_isDigit_3 : decode cX6_isDigit 3 = .ok (.if_icmp .lt 13, 3) := by decide +kernel
theorem dX6_isDigit_6 : decode cX6_isDigit 6 = .ok (.iload_n 0, 1) := by decide +kernel
theorem dX6_isDigit_7 : decode cX6_isDigit 7 = .ok (.bipush 57, 2) := by decide +kernel
theorem dX6_isDigit_9 : decode cX6_isDigit 9 = .ok (.if_icmp .gt 7, 3) := by decide +kernel
theorem dX6_isDigit_12 : decode cX6_isDigit 12 = .ok (.iconst 1, 1) := by decide +kernel
theorem dX6_isDigit_13 : decode cX6_isDigit 13 = .ok (.goto 4, 3) := by decide +kernel
theorem dX6_isDigit_16 : decode cX6_isDigit 16 = .ok (.iconst 0, 1) := by decide +kernel
theorem dX6_isDigit_17 : decode cX6_isDigit 17 = .ok (.ireturn, 1) := by decide +kernel
theorem dX7_init_0 : decode cX7_init 0 = .ok (.aload_n 0, 1) := by decide +kernel
theorem dX7_init_1 : decode cX7_init 1 = .ok (.invokespecial 5, 3) := by decide +kernel
theorem dX7_init_4 : decode cX7_init 4 = .ok (.aload_n 0, 1) := by decide +kernel
theorem dX7_init_5 : decode cX7_init 5 = .ok (.iconst 0, 1) := by decide +kernel
theorem dX7_init_6 : decode cX7_init 6 = .ok (.iload_n 1, 1) := by decide +kernel
theorem dX7_init_7 : decode cX7_init 7 = .ok (.bipush 40, 2) := by decide +kernel
theorem dX7_init_9 : decode cX7_init 9 = .ok (.invokestatic 11, 3) := by decide +kernel
theorem dX7_init_12 : decode cX7_init 12 = .ok (.invokestatic 17, 3) := by decide +kernel
theorem dX7_init_15 : decode cX7_init 15 = .ok (.putfield 20, 3) := by decide +kernel
theorem dX7_init_18 : decode cX7_init 18 = .ok (.aload_n 0, 1) := by decide +kernel
theorem dX7_init_19 : decode cX7_init 19 = .ok (.aload_n 0, 1) := by decide +kernel
theorem dX7_init_20 : decode cX7_init 20 = .ok (.getfield 20, 3) := by decide +kernel
theorem dX7_init_23 : decode cX7_init 23 = .ok (.bipush 89, 2) := by decide +kernel
theorem dX7_init_25 : decode cX7_init 25 = .ok (.imul, 1) := by decide +kernel
theorem dX7_init_26 : decode cX7_init 26 = .ok (.newarray .int, 2) := by decide +kernel
theorem dX7_init_28 : decode cX7_init 28 = .ok (.putfield 24, 3) := by decide +kernel
theorem dX7_init_31 : decode cX7_init 31 = .ok (.return_, 1) := by decide +kernel
theorem dX7_store_0 : decode cX7_store 0 = .ok (.iload_n 1, 1) := by decide +kernel
theorem dX7_store_1 : decode cX7_store 1 = .ok (.ifCond .lt 11, 3) := by decide +kernel
theorem dX7_store_4 : decode cX7_store 4 = .ok (.iload_n 1, 1) := by decide +kernel
theorem dX7_store_5 : decode cX7_store 5 = .ok (.aload_n 0, 1) := by decide +kernel
theorem dX7_store_6 : decode cX7_store 6 = .ok (.getfield 20, 3) := by decide +kernel
theorem dX7_store_9 : decode cX7_store 9 = .ok (.if_icmp .lt 4, 3) := by decide +kernel
theorem dX7_store_12 : decode cX7_store 12 = .ok (.return_, 1) := by decide +kernel
theorem dX7_store_13 : decode cX7_store 13 = .ok (.iload_n 1, 1) := by decide +kernel
theorem dX7_store_14 : decode cX7_store 14 = .ok (.bipush 89, 2) := by decide +kernel
theorem dX7_store_16 : decode cX7_store 16 = .ok (.imul, 1) := by decide +kernel
theorem dX7_store_17 : decode cX7_store 17 = .ok (.istore_n 3, 1) := by decide +kernel
theorem dX7_store_18 : decode cX7_store 18 = .ok (.aload_n 0, 1) := by decide +kernel
theorem dX7_store_19 : decode cX7_store 19 = .ok (.getfield 24, 3) := by decide +kernel
theorem dX7_store_22 : decode cX7_store 22 = .ok (.iload_n 3, 1) := by decide +kernel
theorem dX7_store_23 : decode cX7_store 23 = .ok (.aload_n 2, 1) := by decide +kernel
theorem dX7_store_24 : decode cX7_store 24 = .ok (.getfield 28, 3) := by decide +kernel
theorem dX7_store_27 : decode cX7_store 27 = .ok (.iastore, 1) := by decide +kernel
theorem dX7_store_28 : decode cX7_store 28 = .ok (.aload_n 0, 1) := by decide +kernel
theorem dX7_store_29 : decode cX7_store 29 = .ok (.getfield 24, 3) := by decide +kernel
theorem dX7_store_32 : decode cX7_store 32 = .ok (.iload_n 3, 1) := by decide +kernel
theorem dX7_store_33 : decode cX7_store 33 = .ok (.iconst 1, 1) := by decide +kernel
theorem dX7_store_34 : decode cX7_store 34 = .ok (.iadd, 1) := by decide +kernel
theorem dX7_store_35 : decode cX7_store 35 = .ok (.aload_n 2, 1) := by decide +kernel
theorem dX7_store_36 : decode cX7_store 36 = .ok (.getfield 33, 3) := by decide +kernel
theorem dX7_store_39 : decode cX7_store 39 = .ok (.iastore, 1) := by decide +kernel
theorem dX7_store_40 : decode cX7_store 40 = .ok (.aload_n 0, 1) := by decide +kernel
theorem dX7_store_41 : decode cX7_store 41 = .ok (.getfield 24, 3) := by decide +kernel
theorem dX7_store_44 : decode cX7_store 44 = .ok (.iload_n 3, 1) := by decide +kernel
theorem dX7_store_45 : decode cX7_store 45 = .ok (.iconst 2, 1) := by decide +kernel
theorem dX7_store_46 : decode cX7_store 46 = .ok (.iadd, 1) := by decide +kernel
theorem dX7_store_47 : decode cX7_store 47 = .ok (.aload_n 2, 1) := by decide +kernel
theorem dX7_store_48 : decode cX7_store 48 = .ok (.getfield 36, 3) := by decide +kernel
theorem dX7_store_51 : decode cX7_store 51 = .ok (.iastore, 1) := by decide +kernel
theorem dX7_store_52 : decode cX7_store 52 = .ok (.aload_n 2, 1) := by decide +kernel
theorem dX7_store_53 : decode cX7_store 53 = .ok (.getfield 39, 3) := by decide +kernel
theorem dX7_store_56 : decode cX7_store 56 = .ok (.iconst 0, 1) := by decide +kernel
theorem dX7_store_57 : decode cX7_store 57 = .ok (.aload_n 0, 1) := by decide +kernel
theorem dX7_store_58 : decode cX7_store 58 = .ok (.getfield 24, 3) := by decide +kernel
theorem dX7_store_61 : decode cX7_store 61 = .ok (.iload_n 3, 1) := by decide +kernel
theorem dX7_store_62 : decode cX7_store 62 = .ok (.iconst 3, 1) := by decide +kernel
theorem dX7_store_63 : decode cX7_store 63 = .ok (.iadd, 1) := by decide +kernel
theorem dX7_store_64 : decode cX7_store 64 = .ok (.bipush 20, 2) := by decide +kernel
theorem dX7_store_66 : decode cX7_store 66 = .ok (.invokestatic 42, 3) := by decide +kernel
theorem dX7_store_69 : decode cX7_store 69 = .ok (.aload_n 2, 1) := by decide +kernel
theorem dX7_store_70 : decode cX7_store 70 = .ok (.getfield 48, 3) := by decide +kernel
theorem dX7_store_73 : decode cX7_store 73 = .ok (.iconst 0, 1) := by decide +kernel
theorem dX7_store_74 : decode cX7_store 74 = .ok (.aload_n 0, 1) := by decide +kernel
theorem dX7_store_75 : decode cX7_store 75 = .ok (.getfield 24, 3) := by decide +kernel
theorem dX7_store_78 : decode cX7_store 78 = .ok (.iload_n 3, 1) := by decide +kernel
theorem dX7_store_79 : decode cX7_store 79 = .ok (.bipush 23, 2) := by decide +kernel
theorem dX7_store_81 : decode cX7_store 81 = .ok (.iadd, 1) := by decide +kernel
theorem dX7_store_82 : decode cX7_store 82 = .ok (.bipush 6, 2) := by decide +kernel
theorem dX7_store_84 : decode cX7_store 84 = .ok (.invokestatic 42, 3) := by decide +kernel
theorem dX7_store_87 : decode cX7_store 87 = .ok (.aload_n 2, 1) := by decide +kernel
theorem dX7_store_88 : decode cX7_store 88 = .ok (.getfield 51, 3) := by decide +kernel
theorem dX7_store_91 : decode cX7_store 91 = .ok (.iconst 0, 1) := by decide +kernel
theorem dX7_store_92 : decode cX7_store 92 = .ok (.aload_n 0, 1) := by decide +kernel
theorem dX7_store_93 : decode cX7_store 93 = .ok (.getfield 24, 3) := by decide +kernel
theorem dX7_store_96 : decode cX7_store 96 = .ok (.iload_n 3, 1) := by decide +kernel
theorem dX7_store_97 : decode cX7_store 97 = .ok (.bipush 29, 2) := by decide +kernel
theorem dX7_store_99 : decode cX7_store 99 = .ok (.iadd, 1) := by decide +kernel
theorem dX7_store_100 : decode cX7_store 100 = .ok (.bipush 60, 2) := by decide +kernel
theorem dX7_store_102 : decode cX7_store 102 = .ok (.invokestatic 42, 3) := by decide +kernel
theorem dX7_store_105 : decode cX7_store 105 = .ok (.return_, 1) := by decide +kernel
theorem dX7_fetch_0 : decode cX7_fetch 0 = .ok (.iload_n 1, 1) := by decide +kernel
theorem dX7_fetch_1 : decode cX7_fetch 1 = .ok (.ifCond .lt 11, 3) := by decide +kernel
theorem dX7_fetch_4 : decode cX7_fetch 4 = .ok (.iload_n 1, 1) := by decide +kernel
theorem dX7_fetch_5 : decode cX7_fetch 5 = .ok (.aload_n 0, 1) := by decide +kernel
theorem dX7_fetch_6 : decode cX7_fetch 6 = .ok (.getfield 20, 3) := by decide +kernel
theorem dX7_fetch_9 : decode cX7_fetch 9 = .ok (.if_icmp .lt 4, 3) := by decide +kernel
theorem dX7_fetch_12 : decode cX7_fetch 12 = .ok (.return_, 1) := by decide +kernel
theorem dX7_fetch_13 : decode cX7_fetch 13 = .ok (.iload_n 1, 1) := by decide +kernel
theorem dX7_fetch_14 : decode cX7_fetch 14 = .ok (.bipush 89, 2) := by decide +kernel
theorem dX7_fetch_16 : decode cX7_fetch 16 = .ok (.imul, 1) := by decide +kernel
theorem dX7_fetch_17 : decode cX7_fetch 17 = .ok (.istore_n 3, 1) := by decide +kernel
theorem dX7_fetch_18 : decode cX7_fetch 18 = .ok (.aload_n 2, 1) := by decide +kernel
theorem dX7_fetch_19 : decode cX7_fetch 19 = .ok (.aload_n 0, 1) := by decide +kernel
theorem dX7_fetch_20 : decode cX7_fetch 20 = .ok (.getfield 24, 3) := by decide +kernel
theorem dX7_fetch_23 : decode cX7_fetch 23 = .ok (.iload_n 3, 1) := by decide +kernel
theorem dX7_fetch_24 : decode cX7_fetch 24 = .ok (.iaload, 1) := by decide +kernel
theorem dX7_fetch_25 : decode cX7_fetch 25 = .ok (.putfield 28, 3) := by decide +kernel
theorem dX7_fetch_28 : decode cX7_fetch 28 = .ok (.aload_n 2, 1) := by decide +kernel
theorem dX7_fetch_29 : decode cX7_fetch 29 = .ok (.aload_n 0, 1) := by decide +kernel
theorem dX7_fetch_30 : decode cX7_fetch 30 = .ok (.getfield 24, 3) := by decide +kernel
theorem dX7_fetch_33 : decode cX7_fetch 33 = .ok (.iload_n 3, 1) := by decide +kernel
theorem dX7_fetch_34 : decode cX7_fetch 34 = .ok (.iconst 1, 1) := by decide +kernel
theorem dX7_fetch_35 : decode cX7_fetch 35 = .ok (.iadd, 1) := by decide +kernel
theorem dX7_fetch_36 : decode cX7_fetch 36 = .ok (.iaload, 1) := by decide +kernel
theorem dX7_fetch_37 : decode cX7_fetch 37 = .ok (.putfield 33, 3) := by decide +kernel
theorem dX7_fetch_40 : decode cX7_fetch 40 = .ok (.aload_n 2, 1) := by decide +kernel
theorem dX7_fetch_41 : decode cX7_fetch 41 = .ok (.aload_n 0, 1) := by decide +kernel
theorem dX7_fetch_42 : decode cX7_fetch 42 = .ok (.getfield 24, 3) := by decide +kernel
theorem dX7_fetch_45 : decode cX7_fetch 45 = .ok (.iload_n 3, 1) := by decide +kernel
theorem dX7_fetch_46 : decode cX7_fetch 46 = .ok (.iconst 2, 1) := by decide +kernel
theorem dX7_fetch_47 : decode cX7_fetch 47 = .ok (.iadd, 1) := by decide +kernel
theorem dX7_fetch_48 : decode cX7_fetch 48 = .ok (.iaload, 1) := by decide +kernel
theorem dX7_fetch_49 : decode cX7_fetch 49 = .ok (.putfield 36, 3) := by decide +kernel
theorem dX7_fetch_52 : decode cX7_fetch 52 = .ok (.aload_n 0, 1) := by decide +kernel
theorem dX7_fetch_53 : decode cX7_fetch 53 = .ok (.getfield 24, 3) := by decide +kernel
theorem dX7_fetch_56 : decode cX7_fetch 56 = .ok (.iload_n 3, 1) := by decide +kernel
theorem dX7_fetch_57 : decode cX7_fetch 57 = .ok (.iconst 3, 1) := by decide +kernel
theorem dX7_fetch_58 : decode cX7_fetch 58 = .ok (.iadd, 1) := by decide +kernel
theorem dX7_fetch_59 : decode cX7_fetch 59 = .ok (.aload_n 2, 1) := by decide +kernel
theorem dX7_fetch_60 : decode cX7_fetch 60 = .ok (.getfield 39, 3) := by decide +kernel
theorem dX7_fetch_63 : decode cX7_fetch 63 = .ok (.iconst 0, 1) := by decide +kernel
theorem dX7_fetch_64 : decode cX7_fetch 64 = .ok (.bipush 20, 2) := by decide +kernel
theorem dX7_fetch_66 : decode cX7_fetch 66 = .ok (.invokestatic 42, 3) := by decide +kernel
theorem dX7_fetch_69 : decode cX7_fetch 69 = .ok (.aload_n 0, 1) := by decide +kernel
theorem dX7_fetch_70 : decode cX7_fetch 70 = .ok (.getfield 24, 3) := by decide +kernel
theorem dX7_fetch_73 : decode cX7_fetch 73 = .ok (.iload_n 3, 1) := by decide +kernel
theorem dX7_fetch_74 : decode cX7_fetch 74 = .ok (.bipush 23, 2) := by decide +kernel
theorem dX7_fetch_76 : decode cX7_fetch 76 = .ok (.iadd, 1) := by decide +kernel
theorem dX7_fetch_77 : decode cX7_fetch 77 = .ok (.aload_n 2, 1) := by decide +kernel
theorem dX7_fetch_78 : decode cX7_fetch 78 = .ok (.getfield 48, 3) := by decide +kernel
theorem dX7_fetch_81 : decode cX7_fetch 81 = .ok (.iconst 0, 1) := by decide +kernel
theorem dX7_fetch_82 : decode cX7_fetch 82 = .ok (.bipush 6, 2) := by decide +kernel
theorem dX7_fetch_84 : decode cX7_fetch 84 = .ok (.invokestatic 42, 3) := by decide +kernel
theorem dX7_fetch_87 : decode cX7_fetch 87 = .ok (.aload_n 0, 1) := by decide +kernel
theorem dX7_fetch_88 : decode cX7_fetch 88 = .ok (.getfield 24, 3) := by decide +kernel
theorem dX7_fetch_91 : decode cX7_fetch 91 = .ok (.iload_n 3, 1) := by decide +kernel
theorem dX7_fetch_92 : decode cX7_fetch 92 = .ok (.bipush 29, 2) := by decide +kernel
theorem dX7_fetch_94 : decode cX7_fetch 94 = .ok (.iadd, 1) := by decide +kernel
theorem dX7_fetch_95 : decode cX7_fetch 95 = .ok (.aload_n 2, 1) := by decide +kernel
theorem dX7_fetch_96 : decode cX7_fetch 96 = .ok (.getfield 51, 3) := by decide +kernel
theorem dX7_fetch_99 : decode cX7_fetch 99 = .ok (.iconst 0, 1) := by decide +kernel
theorem dX7_fetch_100 : decode cX7_fetch 100 = .ok (.bipush 60, 2) := by decide +kernel
theorem dX7_fetch_102 : decode cX7_fetch 102 = .ok (.invokestatic 42, 3) := by decide +kernel
theorem dX7_fetch_105 : decode cX7_fetch 105 = .ok (.return_, 1) := by decide +kernel
theorem dX8_init_0 : decode cX8_init 0 = .ok (.aload_n 0, 1) := by decide +kernel
theorem dX8_init_1 : decode cX8_init 1 = .ok (.invokespecial 3, 3) := by decide +kernel
theorem dX8_init_4 : decode cX8_init 4 = .ok (.aload_n 0, 1) := by decide +kernel
theorem dX8_init_5 : decode cX8_init 5 = .ok (.iconst 0, 1) := by decide +kernel
theorem dX8_init_6 : decode cX8_init 6 = .ok (.putfield 9, 3) := by decide +kernel
theorem dX8_init_9 : decode cX8_init 9 = .ok (.aload_n 0, 1) := by decide +kernel
theorem dX8_init_10 : decode cX8_init 10 = .ok (.bipush 16, 2) := by decide +kernel
theorem dX8_init_12 : decode cX8_init 12 = .ok (.newarray .int, 2) := by decide +kernel
theorem dX8_init_14 : decode cX8_init 14 = .ok (.putfield 15, 3) := by decide +kernel
theorem dX8_init_17 : decode cX8_init 17 = .ok (.aload_n 0, 1) := by decide +kernel
theorem dX8_init_18 : decode cX8_init 18 = .ok (.bipush 16, 2) := by decide +kernel
theorem dX8_init_20 : decode cX8_init 20 = .ok (.newarray .int, 2) := by decide +kernel
theorem dX8_init_22 : decode cX8_init 22 = .ok (.putfield 19, 3) := by decide +kernel
theorem dX8_init_25 : decode cX8_init 25 = .ok (.aload_n 0, 1) := by decide +kernel
theorem dX8_init_26 : decode cX8_init 26 = .ok (.bipush 20, 2) := by decide +kernel
theorem dX8_init_28 : decode cX8_init 28 = .ok (.newarray .int, 2) := by decide +kernel
theorem dX8_init_30 : decode cX8_init 30 = .ok (.putfield 22, 3) := by decide +kernel
theorem dX8_init_33 : decode cX8_init 33 = .ok (.aload_n 0, 1) := by decide +kernel
theorem dX8_init_34 : decode cX8_init 34 = .ok (.bipush 20, 2) := by decide +kernel
theorem dX8_init_36 : decode cX8_init 36 = .ok (.newarray .int, 2) := by decide +kernel
theorem dX8_init_38 : decode cX8_init 38 = .ok (.putfield 25, 3) := by decide +kernel
theorem dX8_init_41 : decode cX8_init 41 = .ok (.aload_n 0, 1) := by decide +kernel
theorem dX8_init_42 : decode cX8_init 42 = .ok (.bipush 16, 2) := by decide +kernel
theorem dX8_init_44 : decode cX8_init 44 = .ok (.newarray .int, 2) := by decide +kernel
theorem dX8_init_46 : decode cX8_init 46 = .ok (.putfield 28, 3) := by decide +kernel
theorem dX8_init_49 : decode cX8_init 49 = .ok (.aload_n 0, 1) := by decide +kernel
theorem dX8_init_50 : decode cX8_init 50 = .ok (.bipush 20, 2) := by decide +kernel
theorem dX8_init_52 : decode cX8_init 52 = .ok (.newarray .int, 2) := by decide +kernel
theorem dX8_init_54 : decode cX8_init 54 = .ok (.putfield 31, 3) := by decide +kernel
theorem dX8_init_57 : decode cX8_init 57 = .ok (.aload_n 0, 1) := by decide +kernel
theorem dX8_init_58 : decode cX8_init 58 = .ok (.new 34, 3) := by decide +kernel
theorem dX8_init_61 : decode cX8_init 61 = .ok (.dup, 1) := by decide +kernel
theorem dX8_init_62 : decode cX8_init 62 = .ok (.invokespecial 36, 3) := by decide +kernel
theorem dX8_init_65 : decode cX8_init 65 = .ok (.putfield 37, 3) := by decide +kernel
theorem dX8_init_68 : decode cX8_init 68 = .ok (.aload_n 0, 1) := by decide +kernel
theorem dX8_init_69 : decode cX8_init 69 = .ok (.iconst 0, 1) := by decide +kernel
theorem dX8_init_70 : decode cX8_init 70 = .ok (.putfield 41, 3) := by decide +kernel
theorem dX8_init_73 : decode cX8_init 73 = .ok (.aload_n 0, 1) := by decide +kernel
theorem dX8_init_74 : decode cX8_init 74 = .ok (.iconst 0, 1) := by decide +kernel
theorem dX8_init_75 : decode cX8_init 75 = .ok (.putfield 44, 3) := by decide +kernel
theorem dX8_init_78 : decode cX8_init 78 = .ok (.aload_n 0, 1) := by decide +kernel
theorem dX8_init_79 : decode cX8_init 79 = .ok (.lconst 0, 1) := by decide +kernel
theorem dX8_init_80 : decode cX8_init 80 = .ok (.putfield 47, 3) := by decide +kernel
theorem dX8_init_83 : decode cX8_init 83 = .ok (.return_, 1) := by decide +kernel
theorem dX8_trace_0 : decode cX8_trace 0 = .ok (.aload_n 0, 1) := by decide +kernel
theorem dX8_trace_1 : decode cX8_trace 1 = .ok (.getfield 37, 3) := by decide +kernel
theorem dX8_trace_4 : decode cX8_trace 4 = .ok (.aload_n 1, 1) := by decide +kernel
theorem dX8_trace_5 : decode cX8_trace 5 = .ok (.invokevirtual 51, 3) := by decide +kernel
theorem dX8_trace_8 : decode cX8_trace 8 = .ok (.aload_n 0, 1) := by decide +kernel
theorem dX8_trace_9 : decode cX8_trace 9 = .ok (.iconst 0, 1) := by decide +kernel
theorem dX8_trace_10 : decode cX8_trace 10 = .ok (.putfield 9, 3) := by decide +kernel
theorem dX8_trace_13 : decode cX8_trace 13 = .ok (.aload_n 0, 1) := by decide +kernel
theorem dX8_trace_14 : decode cX8_trace 14 = .ok (.iconst 0, 1) := by decide +kernel
theorem dX8_trace_15 : decode cX8_trace 15 = .ok (.putfield 41, 3) := by decide +kernel
theorem dX8_trace_18 : decode cX8_trace 18 = .ok (.aload_n 0, 1) := by decide +kernel
theorem dX8_trace_19 : decode cX8_trace 19 = .ok (.iconst 0, 1) := by decide +kernel
theorem dX8_trace_20 : decode cX8_trace 20 = .ok (.putfield 44, 3) := by decide +kernel
theorem dX8_trace_23 : decode cX8_trace 23 = .ok (.aload_n 0, 1) := by decide +kernel
theorem dX8_trace_24 : decode cX8_trace 24 = .ok (.lconst 0, 1) := by decide +kernel
theorem dX8_trace_25 : decode cX8_trace 25 = .ok (.putfield 47, 3) := by decide +kernel
theorem dX8_trace_28 : decode cX8_trace 28 = .ok (.iconst 0, 1) := by decide +kernel
theorem dX8_trace_29 : decode cX8_trace 29 = .ok (.istore_n 2, 1) := by decide +kernel
theorem dX8_trace_30 : decode cX8_trace 30 = .ok (.iload_n 2, 1) := by decide +kernel
theorem dX8_trace_31 : decode cX8_trace 31 = .ok (.iconst 2, 1) := by decide +kernel
theorem dX8_trace_32 : decode cX8_trace 32 = .ok (.aload_n 0, 1) := by decide +kernel
theorem dX8_trace_33 : decode cX8_trace 33 = .ok (.getfield 37, 3) := by decide +kernel
theorem dX8_trace_36 : decode cX8_trace 36 = .ok (.getfield 55, 3) := by decide +kernel
theorem dX8_trace_39 : decode cX8_trace 39 = .ok (.imul, 1) := by decide +kernel
theorem dX8_trace_40 : decode cX8_trace 40 = .ok (.if_icmp .ge 31, 3) := by decide +kernel
theorem dX8_trace_43 : decode cX8_trace 43 = .ok (.aload_n 0, 1) := by decide +kernel
theorem dX8_trace_44 : decode cX8_trace 44 = .ok (.getfield 47, 3) := by decide +kernel
theorem dX8_trace_47 : decode cX8_trace 47 = .ok (.iload_n 2, 1) := by decide +kernel
theorem dX8_trace_48 : decode cX8_trace 48 = .ok (.lshr, 1) := by decide +kernel
theorem dX8_trace_49 : decode cX8_trace 49 = .ok (.lconst 1, 1) := by decide +kernel
theorem dX8_trace_50 : decode cX8_trace 50 = .ok (.land, 1) := by decide +kernel
theorem dX8_trace_51 : decode cX8_trace 51 = .ok (.lconst 0, 1) := by decide +kernel
theorem dX8_trace_52 : decode cX8_trace 52 = .ok (.lcmp, 1) := by decide +kernel
theorem dX8_trace_53 : decode cX8_trace 53 = .ok (.ifCond .ne 12, 3) := by decide +kernel
theorem dX8_trace_56 : decode cX8_trace 56 = .ok (.aload_n 0, 1) := by decide +kernel
theorem dX8_trace_57 : decode cX8_trace 57 = .ok (.invokevirtual 58, 3) := by decide +kernel
theorem dX8_trace_60 : decode cX8_trace 60 = .ok (.aload_n 0, 1) := by decide +kernel
theorem dX8_trace_61 : decode cX8_trace 61 = .ok (.iload_n 2, 1) := by decide +kernel
theorem dX8_trace_62 : decode cX8_trace 62 = .ok (.invokevirtual 61, 3) := by decide +kernel
theorem dX8_trace_65 : decode cX8_trace 65 = .ok (.iinc 2 1, 3) := by decide +kernel
theorem dX8_trace_68 : decode cX8_trace 68 = .ok (.goto (-38), 3) := by decide +kernel
theorem dX8_trace_71 : decode cX8_trace 71 = .ok (.iconst 0, 1) := by decide +kernel
theorem dX8_trace_72 : decode cX8_trace 72 = .ok (.istore_n 2, 1) := by decide +kernel
theorem dX8_trace_73 : decode cX8_trace 73 = .ok (.iload_n 2, 1) := by decide +kernel
theorem dX8_trace_74 : decode cX8_trace 74 = .ok (.aload_n 1, 1) := by decide +kernel
theorem dX8_trace_75 : decode cX8_trace 75 = .ok (.getfield 65, 3) := by decide +kernel
theorem dX8_trace_78 : decode cX8_trace 78 = .ok (.if_icmp .ge 22, 3) := by decide +kernel
theorem dX8_trace_81 : decode cX8_trace 81 = .ok (.aload_n 1, 1) := by decide +kernel
theorem dX8_trace_82 : decode cX8_trace 82 = .ok (.getfield 70, 3) := by decide +kernel
theorem dX8_trace_85 : decode cX8_trace 85 = .ok (.iload_n 2, 1) := by decide +kernel
theorem dX8_trace_86 : decode cX8_trace 86 = .ok (.iaload, 1) := by decide +kernel
theorem dX8_trace_87 : decode cX8_trace 87 = .ok (.ifCond .ne 7, 3) := by decide +kernel
theorem dX8_trace_90 : decode cX8_trace 90 = .ok (.aload_n 0, 1) := by decide +kernel
theorem dX8_trace_91 : decode cX8_trace 91 = .ok (.invokevirtual 58, 3) := by decide +kernel
theorem dX8_trace_94 : decode cX8_trace 94 = .ok (.iinc 2 1, 3) := by decide +kernel
theorem dX8_trace_97 : decode cX8_trace 97 = .ok (.goto (-24), 3) := by decide +kernel
theorem dX8_trace_100 : decode cX8_trace 100 = .ok (.aload_n 0, 1) := by decide +kernel
theorem dX8_trace_101 : decode cX8_trace 101 = .ok (.aload_n 1, 1) := by decide +kernel
theorem dX8_trace_102 : decode cX8_trace 102 = .ok (.getfield 73, 3) := by decide +kernel
theorem dX8_trace_105 : decode cX8_trace 105 = .ok (.invokevirtual 76, 3) := by decide +kernel
theorem dX8_trace_108 : decode cX8_trace 108 = .ok (.return_, 1) := by decide +kernel
theorem dX8_hasFace_0 : decode cX8_hasFace 0 = .ok (.iload_n 1, 1) := by decide +kernel
theorem dX8_hasFace_1 : decode cX8_hasFace 1 = .ok (.ifCond .lt 15, 3) := by decide +kernel
theorem dX8_hasFace_4 : decode cX8_hasFace 4 = .ok (.iload_n 1, 1) := by decide +kernel
theorem dX8_hasFace_5 : decode cX8_hasFace 5 = .ok (.aload_n 0, 1) := by decide +kernel
theorem dX8_hasFace_6 : decode cX8_hasFace 6 = .ok (.getfield 9, 3) := by decide +kernel
theorem dX8_hasFace_9 : decode cX8_hasFace 9 = .ok (.if_icmp .ge 7, 3) := by decide +kernel
theorem dX8_hasFace_12 : decode cX8_hasFace 12 = .ok (.iconst 1, 1) := by decide +kernel
theorem dX8_hasFace_13 : decode cX8_hasFace 13 = .ok (.goto 4, 3) := by decide +kernel
theorem dX8_hasFace_16 : decode cX8_hasFace 16 = .ok (.iconst 0, 1) := by decide +kernel
theorem dX8_hasFace_17 : decode cX8_hasFace 17 = .ok (.ireturn, 1) := by decide +kernel
theorem dX8_armAt_0 : decode cX8_armAt 0 = .ok (.aload_n 0, 1) := by decide +kernel
theorem dX8_armAt_1 : decode cX8_armAt 1 = .ok (.getfield 31, 3) := by decide +kernel
theorem dX8_armAt_4 : decode cX8_armAt 4 = .ok (.aload_n 0, 1) := by decide +kernel
theorem dX8_armAt_5 : decode cX8_armAt 5 = .ok (.getfield 28, 3) := by decide +kernel
theorem dX8_armAt_8 : decode cX8_armAt 8 = .ok (.iload_n 1, 1) := by decide +kernel
theorem dX8_armAt_9 : decode cX8_armAt 9 = .ok (.iaload, 1) := by decide +kernel
theorem dX8_armAt_10 : decode cX8_armAt 10 = .ok (.iload_n 2, 1) := by decide +kernel
theorem dX8_armAt_11 : decode cX8_armAt 11 = .ok (.iadd, 1) := by decide +kernel
theorem dX8_armAt_12 : decode cX8_armAt 12 = .ok (.iaload, 1) := by decide +kernel
theorem dX8_armAt_13 : decode cX8_armAt 13 = .ok (.ireturn, 1) := by decide +kernel
theorem dX8_greatestLength_0 : decode cX8_greatestLength 0 = .ok (.iconst 0, 1) := by decide +kernel
theorem dX8_greatestLength_1 : decode cX8_greatestLength 1 = .ok (.istore_n 1, 1) := by decide +kernel
theorem dX8_greatestLength_2 : decode cX8_greatestLength 2 = .ok (.iconst 0, 1) := by decide +kernel
theorem dX8_greatestLength_3 : decode cX8_greatestLength 3 = .ok (.istore_n 2, 1) := by decide +kernel
theorem dX8_greatestLength_4 : decode cX8_greatestLength 4 = .ok (.iload_n 2, 1) := by decide +kernel
theorem dX8_greatestLength_5 : decode cX8_greatestLength 5 = .ok (.aload_n 0, 1) := by decide +kernel
theorem dX8_greatestLength_6 : decode cX8_greatestLength 6 = .ok (.getfield 9, 3) := by decide +kernel
theorem dX8_greatestLength_9 : decode cX8_greatestLength 9 = .ok (.if_icmp .ge 20, 3) := by decide +kernel
theorem dX8_greatestLength_12 : decode cX8_greatestLength 12 = .ok (.iload_n 1, 1) := by decide +kernel
theorem dX8_greatestLength_13 : decode cX8_greatestLength 13 = .ok (.aload_n 0, 1) := by decide +kernel
theorem dX8_greatestLength_14 : decode cX8_greatestLength 14 = .ok (.getfield 15, 3) := by decide +kernel
theorem dX8_greatestLength_17 : decode cX8_greatestLength 17 = .ok (.iload_n 2, 1) := by decide +kernel
theorem dX8_greatestLength_18 : decode cX8_greatestLength 18 = .ok (.iaload, 1) := by decide +kernel
theorem dX8_greatestLength_19 : decode cX8_greatestLength 19 = .ok (.invokestatic 79, 3) := by decide +kernel
theorem dX8_greatestLength_22 : decode cX8_greatestLength 22 = .ok (.istore_n 1, 1) := by decide +kernel
theorem dX8_greatestLength_23 : decode cX8_greatestLength 23 = .ok (.iinc 2 1, 3) := by decide +kernel
theorem dX8_greatestLength_26 : decode cX8_greatestLength 26 = .ok (.goto (-22), 3) := by decide +kernel
theorem dX8_greatestLength_29 : decode cX8_greatestLength 29 = .ok (.iload_n 1, 1) := by decide +kernel
theorem dX8_greatestLength_30 : decode cX8_greatestLength 30 = .ok (.ireturn, 1) := by decide +kernel
theorem dX8_leastLength_0 : decode cX8_leastLength 0 = .ok (.aload_n 0, 1) := by decide +kernel
theorem dX8_leastLength_1 : decode cX8_leastLength 1 = .ok (.getfield 9, 3) := by decide +kernel
theorem dX8_leastLength_4 : decode cX8_leastLength 4 = .ok (.ifCond .ne 7, 3) := by decide +kernel
theorem dX8_leastLength_7 : decode cX8_leastLength 7 = .ok (.iconst 0, 1) := by decide +kernel
theorem dX8_leastLength_8 : decode cX8_leastLength 8 = .ok (.goto 9, 3) := by decide +kernel
theorem dX8_leastLength_11 : decode cX8_leastLength 11 = .ok (.aload_n 0, 1) := by decide +kernel
theorem dX8_leastLength_12 : decode cX8_leastLength 12 = .ok (.getfield 15, 3) := by decide +kernel
theorem dX8_leastLength_15 : decode cX8_leastLength 15 = .ok (.iconst 0, 1) := by decide +kernel
theorem dX8_leastLength_16 : decode cX8_leastLength 16 = .ok (.iaload, 1) := by decide +kernel
theorem dX8_leastLength_17 : decode cX8_leastLength 17 = .ok (.istore_n 1, 1) := by decide +kernel
theorem dX8_leastLength_18 : decode cX8_leastLength 18 = .ok (.iconst 1, 1) := by decide +kernel
theorem dX8_leastLength_19 : decode cX8_leastLength 19 = .ok (.istore_n 2, 1) := by decide +kernel
theorem dX8_leastLength_20 : decode cX8_leastLength 20 = .ok (.iload_n 2, 1) := by decide +kernel
theorem dX8_leastLength_21 : decode cX8_leastLength 21 = .ok (.aload_n 0, 1) := by decide +kernel
theorem dX8_leastLength_22 : decode cX8_leastLength 22 = .ok (.getfield 9, 3) := by decide +kernel
theorem dX8_leastLength_25 : decode cX8_leastLength 25 = .ok (.if_icmp .ge 20, 3) := by decide +kernel
theorem dX8_leastLength_28 : decode cX8_leastLength 28 = .ok (.iload_n 1, 1) := by decide +kernel
theorem dX8_leastLength_29 : decode cX8_leastLength 29 = .ok (.aload_n 0, 1) := by decide +kernel
theorem dX8_leastLength_30 : decode cX8_leastLength 30 = .ok (.getfield 15, 3) := by decide +kernel
theorem dX8_leastLength_33 : decode cX8_leastLength 33 = .ok (.iload_n 2, 1) := by decide +kernel
theorem dX8_leastLength_34 : decode cX8_leastLength 34 = .ok (.iaload, 1) := by decide +kernel
theorem dX8_leastLength_35 : decode cX8_leastLength 35 = .ok (.invokestatic 85, 3) := by decide +kernel
theorem dX8_leastLength_38 : decode cX8_leastLength 38 = .ok (.istore_n 1, 1) := by decide +kernel
theorem dX8_leastLength_39 : decode cX8_leastLength 39 = .ok (.iinc 2 1, 3) := by decide +kernel
theorem dX8_leastLength_42 : decode cX8_leastLength 42 = .ok (.goto (-22), 3) := by decide +kernel
theorem dX8_leastLength_45 : decode cX8_leastLength 45 = .ok (.iload_n 1, 1) := by decide +kernel
theorem dX8_leastLength_46 : decode cX8_leastLength 46 = .ok (.ireturn, 1) := by decide +kernel
theorem dX8_oneSidedLines_0 : decode cX8_oneSidedLines 0 = .ok (.iconst 0, 1) := by decide +kernel
theorem dX8_oneSidedLines_1 : decode cX8_oneSidedLines 1 = .ok (.istore_n 2, 1) := by decide +kernel
theorem dX8_oneSidedLines_2 : decode cX8_oneSidedLines 2 = .ok (.iconst 0, 1) := by decide +kernel
theorem dX8_oneSidedLines_3 : decode cX8_oneSidedLines 3 = .ok (.istore_n 3, 1) := by decide +kernel
theorem dX8_oneSidedLines_4 : decode cX8_oneSidedLines 4 = .ok (.iload_n 3, 1) := by decide +kernel
theorem dX8_oneSidedLines_5 : decode cX8_oneSidedLines 5 = .ok (.iload_n 1, 1) := by decide +kernel
theorem dX8_oneSidedLines_6 : decode cX8_oneSidedLines 6 = .ok (.if_icmp .ge 36, 3) := by decide +kernel
theorem dX8_oneSidedLines_9 : decode cX8_oneSidedLines 9 = .ok (.aload_n 0, 1) := by decide +kernel
theorem dX8_oneSidedLines_10 : decode cX8_oneSidedLines 10 = .ok (.getfield 22, 3) := by decide +kernel
theorem dX8_oneSidedLines_13 : decode cX8_oneSidedLines 13 = .ok (.iconst 2, 1) := by decide +kernel
theorem dX8_oneSidedLines_14 : decode cX8_oneSidedLines 14 = .ok (.iload_n 3, 1) := by decide +kernel
theorem dX8_oneSidedLines_15 : decode cX8_oneSidedLines 15 = .ok (.imul, 1) := by decide +kernel
theorem dX8_oneSidedLines_16 : decode cX8_oneSidedLines 16 = .ok (.iaload, 1) := by decide +kernel
theorem dX8_oneSidedLines_17 : decode cX8_oneSidedLines 17 = .ok (.aload_n 0, 1) := by decide +kernel
theorem dX8_oneSidedLines_18 : decode cX8_oneSidedLines 18 = .ok (.getfield 22, 3) := by decide +kernel
theorem dX8_oneSidedLines_21 : decode cX8_oneSidedLines 21 = .ok (.iconst 2, 1) := by decide +kernel
theorem dX8_oneSidedLines_22 : decode cX8_oneSidedLines 22 = .ok (.iload_n 3, 1) := by decide +kernel
theorem dX8_oneSidedLines_23 : decode cX8_oneSidedLines 23 = .ok (.imul, 1) := by decide +kernel
theorem dX8_oneSidedLines_24 : decode cX8_oneSidedLines 24 = .ok (.iconst 1, 1) := by decide +kernel
theorem dX8_oneSidedLines_25 : decode cX8_oneSidedLines 25 = .ok (.iadd, 1) := by decide +kernel
theorem dX8_oneSidedLines_26 : decode cX8_oneSidedLines 26 = .ok (.iaload, 1) := by decide +kernel
theorem dX8_oneSidedLines_27 : decode cX8_oneSidedLines 27 = .ok (.if_icmp .ne 9, 3) := by decide +kernel
theorem dX8_oneSidedLines_30 : decode cX8_oneSidedLines 30 = .ok (.iload_n 2, 1) := by decide +kernel
theorem dX8_oneSidedLines_31 : decode cX8_oneSidedLines 31 = .ok (.iconst 1, 1) := by decide +kernel
theorem dX8_oneSidedLines_32 : decode cX8_oneSidedLines 32 = .ok (.iload_n 3, 1) := by decide +kernel
theorem dX8_oneSidedLines_33 : decode cX8_oneSidedLines 33 = .ok (.ishl, 1) := by decide +kernel
theorem dX8_oneSidedLines_34 : decode cX8_oneSidedLines 34 = .ok (.ior, 1) := by decide +kernel
theorem dX8_oneSidedLines_35 : decode cX8_oneSidedLines 35 = .ok (.istore_n 2, 1) := by decide +kernel
theorem dX8_oneSidedLines_36 : decode cX8_oneSidedLines 36 = .ok (.iinc 3 1, 3) := by decide +kernel
theorem dX8_oneSidedLines_39 : decode cX8_oneSidedLines 39 = .ok (.goto (-35), 3) := by decide +kernel
theorem dX8_oneSidedLines_42 : decode cX8_oneSidedLines 42 = .ok (.iload_n 2, 1) := by decide +kernel
theorem dX8_oneSidedLines_43 : decode cX8_oneSidedLines 43 = .ok (.ireturn, 1) := by decide +kernel
theorem dX8_beginFace_0 : decode cX8_beginFace 0 = .ok (.aload_n 0, 1) := by decide +kernel
theorem dX8_beginFace_1 : decode cX8_beginFace 1 = .ok (.getfield 9, 3) := by decide +kernel
theorem dX8_beginFace_4 : decode cX8_beginFace 4 = .ok (.bipush 16, 2) := by decide +kernel
theorem dX8_beginFace_6 : decode cX8_beginFace 6 = .ok (.if_icmp .ge 36, 3) := by decide +kernel
theorem dX8_beginFace_9 : decode cX8_beginFace 9 = .ok (.aload_n 0, 1) := by decide +kernel
theorem dX8_beginFace_10 : decode cX8_beginFace 10 = .ok (.getfield 28, 3) := by decide +kernel
theorem dX8_beginFace_13 : decode cX8_beginFace 13 = .ok (.aload_n 0, 1) := by decide +kernel
theorem dX8_beginFace_14 : decode cX8_beginFace 14 = .ok (.getfield 9, 3) := by decide +kernel
theorem dX8_beginFace_17 : decode cX8_beginFace 17 = .ok (.aload_n 0, 1) := by decide +kernel
theorem dX8_beginFace_18 : decode cX8_beginFace 18 = .ok (.getfield 41, 3) := by decide +kernel
theorem dX8_beginFace_21 : decode cX8_beginFace 21 = .ok (.iastore, 1) := by decide +kernel
theorem dX8_beginFace_22 : decode cX8_beginFace 22 = .ok (.aload_n 0, 1) := by decide +kernel
theorem dX8_beginFace_23 : decode cX8_beginFace 23 = .ok (.getfield 15, 3) := by decide +kernel
theorem dX8_beginFace_26 : decode cX8_beginFace 26 = .ok (.aload_n 0, 1) := by decide +kernel
theorem dX8_beginFace_27 : decode cX8_beginFace 27 = .ok (.getfield 9, 3) := by decide +kernel
theorem dX8_beginFace_30 : decode cX8_beginFace 30 = .ok (.iconst 0, 1) := by decide +kernel
theorem dX8_beginFace_31 : decode cX8_beginFace 31 = .ok (.iastore, 1) := by decide +kernel
theorem dX8_beginFace_32 : decode cX8_beginFace 32 = .ok (.aload_n 0, 1) := by decide +kernel
theorem dX8_beginFace_33 : decode cX8_beginFace 33 = .ok (.dup, 1) := by decide +kernel
theorem dX8_beginFace_34 : decode cX8_beginFace 34 = .ok (.getfield 9, 3) := by decide +kernel
theorem dX8_beginFace_37 : decode cX8_beginFace 37 = .ok (.iconst 1, 1) := by decide +kernel
theorem dX8_beginFace_38 : decode cX8_beginFace 38 = .ok (.iadd, 1) := by decide +kernel
theorem dX8_beginFace_39 : decode cX8_beginFace 39 = .ok (.putfield 9, 3) := by decide +kernel
theorem dX8_beginFace_42 : decode cX8_beginFace 42 = .ok (.return_, 1) := by decide +kernel
theorem dX8_follow_0 : decode cX8_follow 0 = .ok (.iload_n 1, 1) := by decide +kernel
theorem dX8_follow_1 : decode cX8_follow 1 = .ok (.istore_n 2, 1) := by decide +kernel
theorem dX8_follow_2 : decode cX8_follow 2 = .ok (.iconst 0, 1) := by decide +kernel
theorem dX8_follow_3 : decode cX8_follow 3 = .ok (.istore_n 3, 1) := by decide +kernel
theorem dX8_follow_4 : decode cX8_follow 4 = .ok (.iload_n 3, 1) := by decide +kernel
theorem dX8_follow_5 : decode cX8_follow 5 = .ok (.aload_n 0, 1) := by decide +kernel
theorem dX8_follow_6 : decode cX8_follow 6 = .ok (.getfield 37, 3) := by decide +kernel
theorem dX8_follow_9 : decode cX8_follow 9 = .ok (.getfield 55, 3) := by decide +kernel
theorem dX8_follow_12 : decode cX8_follow 12 = .ok (.if_icmp .ge 86, 3) := by decide +kernel
theorem dX8_follow_15 : decode cX8_follow 15 = .ok (.aload_n 0, 1) := by decide +kernel
theorem dX8_follow_16 : decode cX8_follow 16 = .ok (.getfield 41, 3) := by decide +kernel
theorem dX8_follow_19 : decode cX8_follow 19 = .ok (.bipush 20, 2) := by decide +kernel
theorem dX8_follow_21 : decode cX8_follow 21 = .ok (.if_icmp .ge 77, 3) := by decide +kernel
theorem dX8_follow_24 : decode cX8_follow 24 = .ok (.aload_n 0, 1) := by decide +kernel
theorem dX8_follow_25 : decode cX8_follow 25 = .ok (.dup, 1) := by decide +kernel
theorem dX8_follow_26 : decode cX8_follow 26 = .ok (.getfield 47, 3) := by decide +kernel
theorem dX8_follow_29 : decode cX8_follow 29 = .ok (.lconst 1, 1) := by decide +kernel
theorem dX8_follow_30 : decode cX8_follow 30 = .ok (.iload_n 2, 1) := by decide +kernel
theorem dX8_follow_31 : decode cX8_follow 31 = .ok (.lshl, 1) := by decide +kernel
theorem dX8_follow_32 : decode cX8_follow 32 = .ok (.lconst 1, 1) := by decide +kernel
theorem dX8_follow_33 : decode cX8_follow 33 = .ok (.aload_n 0, 1) := by decide +kernel
theorem dX8_follow_34 : decode cX8_follow 34 = .ok (.getfield 37, 3) := by decide +kernel
theorem dX8_follow_37 : decode cX8_follow 37 = .ok (.iload_n 2, 1) := by decide +kernel
theorem dX8_follow_38 : decode cX8_follow 38 = .ok (.invokevirtual 88, 3) := by decide +kernel
theorem dX8_follow_41 : decode cX8_follow 41 = .ok (.lshl, 1) := by decide +kernel
theorem dX8_follow_42 : decode cX8_follow 42 = .ok (.lor, 1) := by decide +kernel
theorem dX8_follow_43 : decode cX8_follow 43 = .ok (.lor, 1) := by decide +kernel
theorem dX8_follow_44 : decode cX8_follow 44 = .ok (.putfield 47, 3) := by decide +kernel
theorem dX8_follow_47 : decode cX8_follow 47 = .ok (.aload_n 0, 1) := by decide +kernel
theorem dX8_follow_48 : decode cX8_follow 48 = .ok (.iload_n 2, 1) := by decide +kernel
theorem dX8_follow_49 : decode cX8_follow 49 = .ok (.aload_n 0, 1) := by decide +kernel
theorem dX8_follow_50 : decode cX8_follow 50 = .ok (.getfield 37, 3) := by decide +kernel
theorem dX8_follow_53 : decode cX8_follow 53 = .ok (.getfield 55, 3) := by decide +kernel
theorem dX8_follow_56 : decode cX8_follow 56 = .ok (.if_icmp .ge 7, 3) := by decide +kernel
theorem dX8_follow_59 : decode cX8_follow 59 = .ok (.iload_n 2, 1) := by decide +kernel
theorem dX8_follow_60 : decode cX8_follow 60 = .ok (.goto 12, 3) := by decide +kernel
theorem dX8_follow_63 : decode cX8_follow 63 = .ok (.iload_n 2, 1) := by decide +kernel
theorem dX8_follow_64 : decode cX8_follow 64 = .ok (.aload_n 0, 1) := by decide +kernel
theorem dX8_follow_65 : decode cX8_follow 65 = .ok (.getfield 37, 3) := by decide +kernel
theorem dX8_follow_68 : decode cX8_follow 68 = .ok (.getfield 55, 3) := by decide +kernel
theorem dX8_follow_71 : decode cX8_follow 71 = .ok (.isub, 1) := by decide +kernel
theorem dX8_follow_72 : decode cX8_follow 72 = .ok (.invokevirtual 92, 3) := by decide +kernel
theorem dX8_follow_75 : decode cX8_follow 75 = .ok (.aload_n 0, 1) := by decide +kernel
theorem dX8_follow_76 : decode cX8_follow 76 = .ok (.getfield 37, 3) := by decide +kernel
theorem dX8_follow_79 : decode cX8_follow 79 = .ok (.iload_n 2, 1) := by decide +kernel
theorem dX8_follow_80 : decode cX8_follow 80 = .ok (.invokevirtual 95, 3) := by decide +kernel
theorem dX8_follow_83 : decode cX8_follow 83 = .ok (.istore_n 2, 1) := by decide +kernel
theorem dX8_follow_84 : decode cX8_follow 84 = .ok (.iload_n 2, 1) := by decide +kernel
theorem dX8_follow_85 : decode cX8_follow 85 = .ok (.iload_n 1, 1) := by decide +kernel
theorem dX8_follow_86 : decode cX8_follow 86 = .ok (.if_icmp .ne 6, 3) := by decide +kernel
theorem dX8_follow_89 : decode cX8_follow 89 = .ok (.goto 9, 3) := by decide +kernel
theorem dX8_follow_92 : decode cX8_follow 92 = .ok (.iinc 3 1, 3) := by decide +kernel
theorem dX8_follow_95 : decode cX8_follow 95 = .ok (.goto (-91), 3) := by decide +kernel
theorem dX8_follow_98 : decode cX8_follow 98 = .ok (.return_, 1) := by decide +kernel
theorem dX8_tell_0 : decode cX8_tell 0 = .ok (.iload_n 1, 1) := by decide +kernel
theorem dX8_tell_1 : decode cX8_tell 1 = .ok (.iconst 1, 1) := by decide +kernel
theorem dX8_tell_2 : decode cX8_tell 2 = .ok (.ishr, 1) := by decide +kernel
theorem dX8_tell_3 : decode cX8_tell 3 = .ok (.istore_n 2, 1) := by decide +kernel
theorem dX8_tell_4 : decode cX8_tell 4 = .ok (.iconst 2, 1) := by decide +kernel
theorem dX8_tell_5 : decode cX8_tell 5 = .ok (.iload_n 2, 1) := by decide +kernel
theorem dX8_tell_6 : decode cX8_tell 6 = .ok (.imul, 1) := by decide +kernel
theorem dX8_tell_7 : decode cX8_tell 7 = .ok (.aload_n 0, 1) := by decide +kernel
theorem dX8_tell_8 : decode cX8_tell 8 = .ok (.getfield 44, 3) := by decide +kernel
theorem dX8_tell_11 : decode cX8_tell 11 = .ok (.iload_n 2, 1) := by decide +kernel
theorem dX8_tell_12 : decode cX8_tell 12 = .ok (.ishr, 1) := by decide +kernel
theorem dX8_tell_13 : decode cX8_tell 13 = .ok (.iconst 1, 1) := by decide +kernel
theorem dX8_tell_14 : decode cX8_tell 14 = .ok (.iand, 1) := by decide +kernel
theorem dX8_tell_15 : decode cX8_tell 15 = .ok (.iadd, 1) := by decide +kernel
theorem dX8_tell_16 : decode cX8_tell 16 = .ok (.istore_n 3, 1) := by decide +kernel
theorem dX8_tell_17 : decode cX8_tell 17 = .ok (.aload_n 0, 1) := by decide +kernel
theorem dX8_tell_18 : decode cX8_tell 18 = .ok (.dup, 1) := by decide +kernel
theorem dX8_tell_19 : decode cX8_tell 19 = .ok (.getfield 44, 3) := by decide +kernel
theorem dX8_tell_22 : decode cX8_tell 22 = .ok (.iconst 1, 1) := by decide +kernel
theorem dX8_tell_23 : decode cX8_tell 23 = .ok (.iload_n 2, 1) := by decide +kernel
theorem dX8_tell_24 : decode cX8_tell 24 = .ok (.ishl, 1) := by decide +kernel
theorem dX8_tell_25 : decode cX8_tell 25 = .ok (.ior, 1) := by decide +kernel
theorem dX8_tell_26 : decode cX8_tell 26 = .ok (.putfield 44, 3) := by decide +kernel
theorem dX8_tell_29 : decode cX8_tell 29 = .ok (.aload_n 0, 1) := by decide +kernel
theorem dX8_tell_30 : decode cX8_tell 30 = .ok (.getfield 22, 3) := by decide +kernel
theorem dX8_tell_33 : decode cX8_tell 33 = .ok (.iload_n 3, 1) := by decide +kernel
theorem dX8_tell_34 : decode cX8_tell 34 = .ok (.aload_n 0, 1) := by decide +kernel
theorem dX8_tell_35 : decode cX8_tell 35 = .ok (.getfield 9, 3) := by decide +kernel
theorem dX8_tell_38 : decode cX8_tell 38 = .ok (.iconst 1, 1) := by decide +kernel
theorem dX8_tell_39 : decode cX8_tell 39 = .ok (.isub, 1) := by decide +kernel
theorem dX8_tell_40 : decode cX8_tell 40 = .ok (.iastore, 1) := by decide +kernel
theorem dX8_tell_41 : decode cX8_tell 41 = .ok (.aload_n 0, 1) := by decide +kernel
theorem dX8_tell_42 : decode cX8_tell 42 = .ok (.getfield 25, 3) := by decide +kernel
theorem dX8_tell_45 : decode cX8_tell 45 = .ok (.iload_n 3, 1) := by decide +kernel
theorem dX8_tell_46 : decode cX8_tell 46 = .ok (.iload_n 1, 1) := by decide +kernel
theorem dX8_tell_47 : decode cX8_tell 47 = .ok (.iconst 1, 1) := by decide +kernel
theorem dX8_tell_48 : decode cX8_tell 48 = .ok (.iand, 1) := by decide +kernel
theorem dX8_tell_49 : decode cX8_tell 49 = .ok (.iastore, 1) := by decide +kernel
theorem dX8_tell_50 : decode cX8_tell 50 = .ok (.aload_n 0, 1) := by decide +kernel
theorem dX8_tell_51 : decode cX8_tell 51 = .ok (.getfield 15, 3) := by decide +kernel
theorem dX8_tell_54 : decode cX8_tell 54 = .ok (.aload_n 0, 1) := by decide +kernel
theorem dX8_tell_55 : decode cX8_tell 55 = .ok (.getfield 9, 3) := by decide +kernel
theorem dX8_tell_58 : decode cX8_tell 58 = .ok (.iconst 1, 1) := by decide +kernel
theorem dX8_tell_59 : decode cX8_tell 59 = .ok (.isub, 1) := by decide +kernel
theorem dX8_tell_60 : decode cX8_tell 60 = .ok (.dup2, 1) := by decide +kernel
theorem dX8_tell_61 : decode cX8_tell 61 = .ok (.iaload, 1) := by decide +kernel
theorem dX8_tell_62 : decode cX8_tell 62 = .ok (.iconst 1, 1) := by decide +kernel
theorem dX8_tell_63 : decode cX8_tell 63 = .ok (.iadd, 1) := by decide +kernel
theorem dX8_tell_64 : decode cX8_tell 64 = .ok (.iastore, 1) := by decide +kernel
theorem dX8_tell_65 : decode cX8_tell 65 = .ok (.aload_n 0, 1) := by decide +kernel
theorem dX8_tell_66 : decode cX8_tell 66 = .ok (.getfield 31, 3) := by decide +kernel
theorem dX8_tell_69 : decode cX8_tell 69 = .ok (.aload_n 0, 1) := by decide +kernel
theorem dX8_tell_70 : decode cX8_tell 70 = .ok (.getfield 41, 3) := by decide +kernel
theorem dX8_tell_73 : decode cX8_tell 73 = .ok (.iload_n 1, 1) := by decide +kernel
theorem dX8_tell_74 : decode cX8_tell 74 = .ok (.iastore, 1) := by decide +kernel
theorem dX8_tell_75 : decode cX8_tell 75 = .ok (.aload_n 0, 1) := by decide +kernel
theorem dX8_tell_76 : decode cX8_tell 76 = .ok (.dup, 1) := by decide +kernel
theorem dX8_tell_77 : decode cX8_tell 77 = .ok (.getfield 41, 3) := by decide +kernel
theorem dX8_tell_80 : decode cX8_tell 80 = .ok (.iconst 1, 1) := by decide +kernel
theorem dX8_tell_81 : decode cX8_tell 81 = .ok (.iadd, 1) := by decide +kernel
theorem dX8_tell_82 : decode cX8_tell 82 = .ok (.putfield 41, 3) := by decide +kernel
theorem dX8_tell_85 : decode cX8_tell 85 = .ok (.return_, 1) := by decide +kernel
theorem dX8_setNeighbours_0 : decode cX8_setNeighbours 0 = .ok (.aload_n 0, 1) := by decide +kernel
theorem dX8_setNeighbours_1 : decode cX8_setNeighbours 1 = .ok (.getfield 19, 3) := by decide +kernel
theorem dX8_setNeighbours_4 : decode cX8_setNeighbours 4 = .ok (.iconst 0, 1) := by decide +kernel
theorem dX8_setNeighbours_5 : decode cX8_setNeighbours 5 = .ok (.invokestatic 98, 3) := by decide +kernel
theorem dX8_setNeighbours_8 : decode cX8_setNeighbours 8 = .ok (.iconst 0, 1) := by decide +kernel
theorem dX8_setNeighbours_9 : decode cX8_setNeighbours 9 = .ok (.istore_n 2, 1) := by decide +kernel
theorem dX8_setNeighbours_10 : decode cX8_setNeighbours 10 = .ok (.iload_n 2, 1) := by decide +kernel
theorem dX8_setNeighbours_11 : decode cX8_setNeighbours 11 = .ok (.iload_n 1, 1) := by decide +kernel
theorem dX8_setNeighbours_12 : decode cX8_setNeighbours 12 = .ok (.if_icmp .ge 65, 3) := by decide +kernel
theorem dX8_setNeighbours_15 : decode cX8_setNeighbours 15 = .ok (.aload_n 0, 1) := by decide +kernel
theorem dX8_setNeighbours_16 : decode cX8_setNeighbours 16 = .ok (.getfield 19, 3) := by decide +kernel
theorem dX8_setNeighbours_19 : decode cX8_setNeighbours 19 = .ok (.aload_n 0, 1) := by decide +kernel
theorem dX8_setNeighbours_20 : decode cX8_setNeighbours 20 = .ok (.getfield 22, 3) := by decide +kernel
theorem dX8_setNeighbours_23 : decode cX8_setNeighbours 23 = .ok (.iconst 2, 1) := by decide +kernel
theorem dX8_setNeighbours_24 : decode cX8_setNeighbours 24 = .ok (.iload_n 2, 1) := by decide +kernel
theorem dX8_setNeighbours_25 : decode cX8_setNeighbours 25 = .ok (.imul, 1) := by decide +kernel
theorem dX8_setNeighbours_26 : decode cX8_setNeighbours 26 = .ok (.iaload, 1) := by decide +kernel
theorem dX8_setNeighbours_27 : decode cX8_setNeighbours 27 = .ok (.dup2, 1) := by decide +kernel
theorem dX8_setNeighbours_28 : decode cX8_setNeighbours 28 = .ok (.iaload, 1) := by decide +kernel
theorem dX8_setNeighbours_29 : decode cX8_setNeighbours 29 = .ok (.iconst 1, 1) := by decide +kernel
theorem dX8_setNeighbours_30 : decode cX8_setNeighbours 30 = .ok (.aload_n 0, 1) := by decide +kernel
theorem dX8_setNeighbours_31 : decode cX8_setNeighbours 31 = .ok (.getfield 22, 3) := by decide +kernel
theorem dX8_setNeighbours_34 : decode cX8_setNeighbours 34 = .ok (.iconst 2, 1) := by decide +kernel
theorem dX8_setNeighbours_35 : decode cX8_setNeighbours 35 = .ok (.iload_n 2, 1) := by decide +kernel
theorem dX8_setNeighbours_36 : decode cX8_setNeighbours 36 = .ok (.imul, 1) := by decide +kernel
theorem dX8_setNeighbours_37 : decode cX8_setNeighbours 37 = .ok (.iconst 1, 1) := by decide +kernel
theorem dX8_setNeighbours_38 : decode cX8_setNeighbours 38 = .ok (.iadd, 1) := by decide +kernel
theorem dX8_setNeighbours_39 : decode cX8_setNeighbours 39 = .ok (.iaload, 1) := by decide +kernel
theorem dX8_setNeighbours_40 : decode cX8_setNeighbours 40 = .ok (.ishl, 1) := by decide +kernel
theorem dX8_setNeighbours_41 : decode cX8_setNeighbours 41 = .ok (.ior, 1) := by decide +kernel
theorem dX8_setNeighbours_42 : decode cX8_setNeighbours 42 = .ok (.iastore, 1) := by decide +kernel
theorem dX8_setNeighbours_43 : decode cX8_setNeighbours 43 = .ok (.aload_n 0, 1) := by decide +kernel
theorem dX8_setNeighbours_44 : decode cX8_setNeighbours 44 = .ok (.getfield 19, 3) := by decide +kernel
theorem dX8_setNeighbours_47 : decode cX8_setNeighbours 47 = .ok (.aload_n 0, 1) := by decide +kernel
theorem dX8_setNeighbours_48 : decode cX8_setNeighbours 48 = .ok (.getfield 22, 3) := by decide +kernel
theorem dX8_setNeighbours_51 : decode cX8_setNeighbours 51 = .ok (.iconst 2, 1) := by decide +kernel
theorem dX8_setNeighbours_52 : decode cX8_setNeighbours 52 = .ok (.iload_n 2, 1) := by decide +kernel
theorem dX8_setNeighbours_53 : decode cX8_setNeighbours 53 = .ok (.imul, 1) := by decide +kernel
theorem dX8_setNeighbours_54 : decode cX8_setNeighbours 54 = .ok (.iconst 1, 1) := by decide +kernel
theorem dX8_setNeighbours_55 : decode cX8_setNeighbours 55 = .ok (.iadd, 1) := by decide +kernel
theorem dX8_setNeighbours_56 : decode cX8_setNeighbours 56 = .ok (.iaload, 1) := by decide +kernel
theorem dX8_setNeighbours_57 : decode cX8_setNeighbours 57 = .ok (.dup2, 1) := by decide +kernel
theorem dX8_setNeighbours_58 : decode cX8_setNeighbours 58 = .ok (.iaload, 1) := by decide +kernel
theorem dX8_setNeighbours_59 : decode cX8_setNeighbours 59 = .ok (.iconst 1, 1) := by decide +kernel
theorem dX8_setNeighbours_60 : decode cX8_setNeighbours 60 = .ok (.aload_n 0, 1) := by decide +kernel
theorem dX8_setNeighbours_61 : decode cX8_setNeighbours 61 = .ok (.getfield 22, 3) := by decide +kernel
theorem dX8_setNeighbours_64 : decode cX8_setNeighbours 64 = .ok (.iconst 2, 1) := by decide +kernel
theorem dX8_setNeighbours_65 : decode cX8_setNeighbours 65 = .ok (.iload_n 2, 1) := by decide +kernel
theorem dX8_setNeighbours_66 : decode cX8_setNeighbours 66 = .ok (.imul, 1) := by decide +kernel
theorem dX8_setNeighbours_67 : decode cX8_setNeighbours 67 = .ok (.iaload, 1) := by decide +kernel
theorem dX8_setNeighbours_68 : decode cX8_setNeighbours 68 = .ok (.ishl, 1) := by decide +kernel
theorem dX8_setNeighbours_69 : decode cX8_setNeighbours 69 = .ok (.ior, 1) := by decide +kernel
theorem dX8_setNeighbours_70 : decode cX8_setNeighbours 70 = .ok (.iastore, 1) := by decide +kernel
theorem dX8_setNeighbours_71 : decode cX8_setNeighbours 71 = .ok (.iinc 2 1, 3) := by decide +kernel
theorem dX8_setNeighbours_74 : decode cX8_setNeighbours 74 = .ok (.goto (-64), 3) := by decide +kernel
theorem dX8_setNeighbours_77 : decode cX8_setNeighbours 77 = .ok (.return_, 1) := by decide +kernel
theorem dX9_init_0 : decode cX9_init 0 = .ok (.aload_n 0, 1) := by decide +kernel
theorem dX9_init_1 : decode cX9_init 1 = .ok (.invokespecial 3, 3) := by decide +kernel
theorem dX9_init_4 : decode cX9_init 4 = .ok (.aload_n 0, 1) := by decide +kernel
theorem dX9_init_5 : decode cX9_init 5 = .ok (.iconst 0, 1) := by decide +kernel
theorem dX9_init_6 : decode cX9_init 6 = .ok (.putfield 9, 3) := by decide +kernel
theorem dX9_init_9 : decode cX9_init 9 = .ok (.aload_n 0, 1) := by decide +kernel
theorem dX9_init_10 : decode cX9_init 10 = .ok (.iconst 0, 1) := by decide +kernel
theorem dX9_init_11 : decode cX9_init 11 = .ok (.putfield 15, 3) := by decide +kernel
theorem dX9_init_14 : decode cX9_init 14 = .ok (.aload_n 0, 1) := by decide +kernel
theorem dX9_init_15 : decode cX9_init 15 = .ok (.bipush 20, 2) := by decide +kernel
theorem dX9_init_17 : decode cX9_init 17 = .ok (.newarray .int, 2) := by decide +kernel
theorem dX9_init_19 : decode cX9_init 19 = .ok (.putfield 18, 3) := by decide +kernel
theorem dX9_init_22 : decode cX9_init 22 = .ok (.aload_n 0, 1) := by decide +kernel
theorem dX9_init_23 : decode cX9_init 23 = .ok (.bipush 20, 2) := by decide +kernel
theorem dX9_init_25 : decode cX9_init 25 = .ok (.newarray .int, 2) := by decide +kernel
theorem dX9_init_27 : decode cX9_init 27 = .ok (.putfield 22, 3) := by decide +kernel
theorem dX9_init_30 : decode cX9_init 30 = .ok (.return_, 1) := by decide +kernel
theorem dX9_enter_0 : decode cX9_enter 0 = .ok (.aload_n 0, 1) := by decide +kernel
theorem dX9_enter_1 : decode cX9_enter 1 = .ok (.iconst 2, 1) := by decide +kernel
theorem dX9_enter_2 : decode cX9_enter 2 = .ok (.aload_n 1, 1) := by decide +kernel
theorem dX9_enter_3 : decode cX9_enter 3 = .ok (.getfield 25, 3) := by decide +kernel
theorem dX9_enter_6 : decode cX9_enter 6 = .ok (.imul, 1) := by decide +kernel
theorem dX9_enter_7 : decode cX9_enter 7 = .ok (.putfield 9, 3) := by decide +kernel
theorem dX9_enter_10 : decode cX9_enter 10 = .ok (.aload_n 0, 1) := by decide +kernel
theorem dX9_enter_11 : decode cX9_enter 11 = .ok (.aload_n 1, 1) := by decide +kernel
theorem dX9_enter_12 : decode cX9_enter 12 = .ok (.getfield 30, 3) := by decide +kernel
theorem dX9_enter_15 : decode cX9_enter 15 = .ok (.putfield 15, 3) := by decide +kernel
theorem dX9_enter_18 : decode cX9_enter 18 = .ok (.iconst 0, 1) := by decide +kernel
theorem dX9_enter_19 : decode cX9_enter 19 = .ok (.istore_n 2, 1) := by decide +kernel
theorem dX9_enter_20 : decode cX9_enter 20 = .ok (.iload_n 2, 1) := by decide +kernel
theorem dX9_enter_21 : decode cX9_enter 21 = .ok (.aload_n 1, 1) := by decide +kernel
theorem dX9_enter_22 : decode cX9_enter 22 = .ok (.getfield 31, 3) := by decide +kernel
theorem dX9_enter_25 : decode cX9_enter 25 = .ok (.if_icmp .ge 16, 3) := by decide +kernel
theorem dX9_enter_28 : decode cX9_enter 28 = .ok (.aload_n 0, 1) := by decide +kernel
theorem dX9_enter_29 : decode cX9_enter 29 = .ok (.aload_n 1, 1) := by decide +kernel
theorem dX9_enter_30 : decode cX9_enter 30 = .ok (.iload_n 2, 1) := by decide +kernel
theorem dX9_enter_31 : decode cX9_enter 31 = .ok (.iconst 1, 1) := by decide +kernel
theorem dX9_enter_32 : decode cX9_enter 32 = .ok (.invokevirtual 34, 3) := by decide +kernel
theorem dX9_enter_35 : decode cX9_enter 35 = .ok (.iinc 2 1, 3) := by decide +kernel
theorem dX9_enter_38 : decode cX9_enter 38 = .ok (.goto (-18), 3) := by decide +kernel
theorem dX9_enter_41 : decode cX9_enter 41 = .ok (.return_, 1) := by decide +kernel
theorem dX9_link_0 : decode cX9_link 0 = .ok (.aload_n 1, 1) := by decide +kernel
theorem dX9_link_1 : decode cX9_link 1 = .ok (.getfield 38, 3) := by decide +kernel
theorem dX9_link_4 : decode cX9_link 4 = .ok (.iload_n 2, 1) := by decide +kernel
theorem dX9_link_5 : decode cX9_link 5 = .ok (.iaload, 1) := by decide +kernel
theorem dX9_link_6 : decode cX9_link 6 = .ok (.istore 4, 2) := by decide +kernel
theorem dX9_link_8 : decode cX9_link 8 = .ok (.iconst 0, 1) := by decide +kernel
theorem dX9_link_9 : decode cX9_link 9 = .ok (.istore 5, 2) := by decide +kernel
theorem dX9_link_11 : decode cX9_link 11 = .ok (.iload 5, 2) := by decide +kernel
theorem dX9_link_13 : decode cX9_link 13 = .ok (.iload 4, 2) := by decide +kernel
theorem dX9_link_15 : decode cX9_link 15 = .ok (.if_icmp .ge 66, 3) := by decide +kernel
theorem dX9_link_18 : decode cX9_link 18 = .ok (.aload_n 1, 1) := by decide +kernel
theorem dX9_link_19 : decode cX9_link 19 = .ok (.iload_n 2, 1) := by decide +kernel
theorem dX9_link_20 : decode cX9_link 20 = .ok (.iload 5, 2) := by decide +kernel
theorem dX9_link_22 : decode cX9_link 22 = .ok (.invokevirtual 41, 3) := by decide +kernel
theorem dX9_link_25 : decode cX9_link 25 = .ok (.istore 6, 2) := by decide +kernel
theorem dX9_link_27 : decode cX9_link 27 = .ok (.aload_n 1, 1) := by decide +kernel
theorem dX9_link_28 : decode cX9_link 28 = .ok (.iload_n 2, 1) := by decide +kernel
theorem dX9_link_29 : decode cX9_link 29 = .ok (.iload 5, 2) := by decide +kernel
theorem dX9_link_31 : decode cX9_link 31 = .ok (.iload_n 3, 1) := by decide +kernel
theorem dX9_link_32 : decode cX9_link 32 = .ok (.iadd, 1) := by decide +kernel
theorem dX9_link_33 : decode cX9_link 33 = .ok (.iload 4, 2) := by decide +kernel
theorem dX9_link_35 : decode cX9_link 35 = .ok (.if_icmp .ge 10, 3) := by decide +kernel
theorem dX9_link_38 : decode cX9_link 38 = .ok (.iload 5, 2) := by decide +kernel
theorem dX9_link_40 : decode cX9_link 40 = .ok (.iload_n 3, 1) := by decide +kernel
theorem dX9_link_41 : decode cX9_link 41 = .ok (.iadd, 1) := by decide +kernel
theorem dX9_link_42 : decode cX9_link 42 = .ok (.goto 10, 3) := by decide +kernel
theorem dX9_link_45 : decode cX9_link 45 = .ok (.iload 5, 2) := by decide +kernel
theorem dX9_link_47 : decode cX9_link 47 = .ok (.iload_n 3, 1) := by decide +kernel
theorem dX9_link_48 : decode cX9_link 48 = .ok (.iadd, 1) := by decide +kernel
theorem dX9_link_49 : decode cX9_link 49 = .ok (.iload 4, 2) := by decide +kernel
theorem dX9_link_51 : decode cX9_link 51 = .ok (.isub, 1) := by decide +kernel
theorem dX9_link_52 : decode cX9_link 52 = .ok (.invokevirtual 41, 3) := by decide +kernel
theorem dX9_link_55 : decode cX9_link 55 = .ok (.istore 7, 2) := by decide +kernel
theorem dX9_link_57 : decode cX9_link 57 = .ok (.aload_n 0, 1) := by decide +kernel
theorem dX9_link_58 : decode cX9_link 58 = .ok (.getfield 18, 3) := by decide +kernel
theorem dX9_link_61 : decode cX9_link 61 = .ok (.iload 6, 2) := by decide +kernel
theorem dX9_link_63 : decode cX9_link 63 = .ok (.iload 7, 2) := by decide +kernel
theorem dX9_link_65 : decode cX9_link 65 = .ok (.iastore, 1) := by decide +kernel
theorem dX9_link_66 : decode cX9_link 66 = .ok (.aload_n 0, 1) := by decide +kernel
theorem dX9_link_67 : decode cX9_link 67 = .ok (.getfield 22, 3) := by decide +kernel
theorem dX9_link_70 : decode cX9_link 70 = .ok (.iload 7, 2) := by decide +kernel
theorem dX9_link_72 : decode cX9_link 72 = .ok (.iload 6, 2) := by decide +kernel
theorem dX9_link_74 : decode cX9_link 74 = .ok (.iastore, 1) := by decide +kernel
theorem dX9_link_75 : decode cX9_link 75 = .ok (.iinc 5 1, 3) := by decide +kernel
theorem dX9_link_78 : decode cX9_link 78 = .ok (.goto (-67), 3) := by decide +kernel
theorem dX9_link_81 : decode cX9_link 81 = .ok (.return_, 1) := by decide +kernel
theorem dX9_comesBack_0 : decode cX9_comesBack 0 = .ok (.iload_n 1, 1) := by decide +kernel
theorem dX9_comesBack_1 : decode cX9_comesBack 1 = .ok (.aload_n 0, 1) := by decide +kernel
theorem dX9_comesBack_2 : decode cX9_comesBack 2 = .ok (.getfield 9, 3) := by decide +kernel
theorem dX9_comesBack_5 : decode cX9_comesBack 5 = .ok (.if_icmp .ge 7, 3) := by decide +kernel
theorem dX9_comesBack_8 : decode cX9_comesBack 8 = .ok (.iload_n 1, 1) := by decide +kernel
theorem dX9_comesBack_9 : decode cX9_comesBack 9 = .ok (.goto 9, 3) := by decide +kernel
theorem dX9_comesBack_12 : decode cX9_comesBack 12 = .ok (.iload_n 1, 1) := by decide +kernel
theorem dX9_comesBack_13 : decode cX9_comesBack 13 = .ok (.aload_n 0, 1) := by decide +kernel
theorem dX9_comesBack_14 : decode cX9_comesBack 14 = .ok (.getfield 9, 3) := by decide +kernel
theorem dX9_comesBack_17 : decode cX9_comesBack 17 = .ok (.isub, 1) := by decide +kernel
theorem dX9_comesBack_18 : decode cX9_comesBack 18 = .ok (.istore_n 2, 1) := by decide +kernel
theorem dX9_comesBack_19 : decode cX9_comesBack 19 = .ok (.iload_n 1, 1) := by decide +kernel
theorem dX9_comesBack_20 : decode cX9_comesBack 20 = .ok (.aload_n 0, 1) := by decide +kernel
theorem dX9_comesBack_21 : decode cX9_comesBack 21 = .ok (.getfield 9, 3) := by decide +kernel
theorem dX9_comesBack_24 : decode cX9_comesBack 24 = .ok (.if_icmp .lt 7, 3) := by decide +kernel
theorem dX9_comesBack_27 : decode cX9_comesBack 27 = .ok (.iconst 1, 1) := by decide +kernel
theorem dX9_comesBack_28 : decode cX9_comesBack 28 = .ok (.goto 4, 3) := by decide +kernel
theorem dX9_comesBack_31 : decode cX9_comesBack 31 = .ok (.iconst 0, 1) := by decide +kernel
theorem dX9_comesBack_32 : decode cX9_comesBack 32 = .ok (.aload_n 0, 1) := by decide +kernel
theorem dX9_comesBack_33 : decode cX9_comesBack 33 = .ok (.getfield 15, 3) := by decide +kernel
theorem dX9_comesBack_36 : decode cX9_comesBack 36 = .ok (.iload_n 2, 1) := by decide +kernel
theorem dX9_comesBack_37 : decode cX9_comesBack 37 = .ok (.iconst 1, 1) := by decide +kernel
theorem dX9_comesBack_38 : decode cX9_comesBack 38 = .ok (.ishr, 1) := by decide +kernel
theorem dX9_comesBack_39 : decode cX9_comesBack 39 = .ok (.ishr, 1) := by decide +kernel
theorem dX9_comesBack_40 : decode cX9_comesBack 40 = .ok (.iconst 1, 1) := by decide +kernel
theorem dX9_comesBack_41 : decode cX9_comesBack 41 = .ok (.iand, 1) := by decide +kernel
theorem dX9_comesBack_42 : decode cX9_comesBack 42 = .ok (.ifCond .eq 7, 3) := by decide +kernel
theorem dX9_comesBack_45 : decode cX9_comesBack 45 = .ok (.iconst 1, 1) := by decide +kernel
theorem dX9_comesBack_46 : decode cX9_comesBack 46 = .ok (.goto 4, 3) := by decide +kernel
theorem dX9_comesBack_49 : decode cX9_comesBack 49 = .ok (.iconst 0, 1) := by decide +kernel
theorem dX9_comesBack_50 : decode cX9_comesBack 50 = .ok (.if_icmp .eq 7, 3) := by decide +kernel
theorem dX9_comesBack_53 : decode cX9_comesBack 53 = .ok (.iconst 1, 1) := by decide +kernel
theorem dX9_comesBack_54 : decode cX9_comesBack 54 = .ok (.goto 4, 3) := by decide +kernel
theorem dX9_comesBack_57 : decode cX9_comesBack 57 = .ok (.iconst 0, 1) := by decide +kernel
theorem dX9_comesBack_58 : decode cX9_comesBack 58 = .ok (.ireturn, 1) := by decide +kernel
theorem dX9_otherEnd_0 : decode cX9_otherEnd 0 = .ok (.iload_n 1, 1) := by decide +kernel
theorem dX9_otherEnd_1 : decode cX9_otherEnd 1 = .ok (.aload_n 0, 1) := by decide +kernel
theorem dX9_otherEnd_2 : decode cX9_otherEnd 2 = .ok (.getfield 9, 3) := by decide +kernel
theorem dX9_otherEnd_5 : decode cX9_otherEnd 5 = .ok (.if_icmp .ge 7, 3) := by decide +kernel
theorem dX9_otherEnd_8 : decode cX9_otherEnd 8 = .ok (.iload_n 1, 1) := by decide +kernel
theorem dX9_otherEnd_9 : decode cX9_otherEnd 9 = .ok (.goto 9, 3) := by decide +kernel
theorem dX9_otherEnd_12 : decode cX9_otherEnd 12 = .ok (.iload_n 1, 1) := by decide +kernel
theorem dX9_otherEnd_13 : decode cX9_otherEnd 13 = .ok (.aload_n 0, 1) := by decide +kernel
theorem dX9_otherEnd_14 : decode cX9_otherEnd 14 = .ok (.getfield 9, 3) := by decide +kernel
theorem dX9_otherEnd_17 : decode cX9_otherEnd 17 = .ok (.isub, 1) := by decide +kernel
theorem dX9_otherEnd_18 : decode cX9_otherEnd 18 = .ok (.iconst 1, 1) := by decide +kernel
theorem dX9_otherEnd_19 : decode cX9_otherEnd 19 = .ok (.ixor, 1) := by decide +kernel
theorem dX9_otherEnd_20 : decode cX9_otherEnd 20 = .ok (.ireturn, 1) := by decide +kernel
theorem dX9_next_0 : decode cX9_next 0 = .ok (.aload_n 0, 1) := by decide +kernel
theorem dX9_next_1 : decode cX9_next 1 = .ok (.iload_n 1, 1) := by decide +kernel
theorem dX9_next_2 : decode cX9_next 2 = .ok (.invokevirtual 45, 3) := by decide +kernel
theorem dX9_next_5 : decode cX9_next 5 = .ok (.istore_n 2, 1) := by decide +kernel
theorem dX9_next_6 : decode cX9_next 6 = .ok (.aload_n 0, 1) := by decide +kernel
theorem dX9_next_7 : decode cX9_next 7 = .ok (.iload_n 1, 1) := by decide +kernel
theorem dX9_next_8 : decode cX9_next 8 = .ok (.invokevirtual 49, 3) := by decide +kernel
theorem dX9_next_11 : decode cX9_next 11 = .ok (.ifCond .eq 17, 3) := by decide +kernel
theorem dX9_next_14 : decode cX9_next 14 = .ok (.aload_n 0, 1) := by decide +kernel
theorem dX9_next_15 : decode cX9_next 15 = .ok (.getfield 9, 3) := by decide +kernel
theorem dX9_next_18 : decode cX9_next 18 = .ok (.aload_n 0, 1) := by decide +kernel
theorem dX9_next_19 : decode cX9_next 19 = .ok (.getfield 22, 3) := by decide +kernel
theorem dX9_next_22 : decode cX9_next 22 = .ok (.iload_n 2, 1) := by decide +kernel
theorem dX9_next_23 : decode cX9_next 23 = .ok (.iaload, 1) := by decide +kernel
theorem dX9_next_24 : decode cX9_next 24 = .ok (.iadd, 1) := by decide +kernel
theorem dX9_next_25 : decode cX9_next 25 = .ok (.goto 9, 3) := by decide +kernel
theorem dX9_next_28 : decode cX9_next 28 = .ok (.aload_n 0, 1) := by decide +kernel
theorem dX9_next_29 : decode cX9_next 29 = .ok (.getfield 18, 3) := by decide +kernel
theorem dX9_next_32 : decode cX9_next 32 = .ok (.iload_n 2, 1) := by decide +kernel
theorem dX9_next_33 : decode cX9_next 33 = .ok (.iaload, 1) := by decide +kernel
theorem dX9_next_34 : decode cX9_next 34 = .ok (.ireturn, 1) := by decide +kernel
theorem dX9_opposite_0 : decode cX9_opposite 0 = .ok (.aload_n 0, 1) := by decide +kernel
theorem dX9_opposite_1 : decode cX9_opposite 1 = .ok (.iload_n 1, 1) := by decide +kernel
theorem dX9_opposite_2 : decode cX9_opposite 2 = .ok (.invokevirtual 45, 3) := by decide +kernel
theorem dX9_opposite_5 : decode cX9_opposite 5 = .ok (.istore_n 2, 1) := by decide +kernel
theorem dX9_opposite_6 : decode cX9_opposite 6 = .ok (.aload_n 0, 1) := by decide +kernel
theorem dX9_opposite_7 : decode cX9_opposite 7 = .ok (.iload_n 1, 1) := by decide +kernel
theorem dX9_opposite_8 : decode cX9_opposite 8 = .ok (.invokevirtual 49, 3) := by decide +kernel
theorem dX9_opposite_11 : decode cX9_opposite 11 = .ok (.ifCond .eq 7, 3) := by decide +kernel
theorem dX9_opposite_14 : decode cX9_opposite 14 = .ok (.iload_n 2, 1) := by decide +kernel
theorem dX9_opposite_15 : decode cX9_opposite 15 = .ok (.goto 9, 3) := by decide +kernel
theorem dX9_opposite_18 : decode cX9_opposite 18 = .ok (.aload_n 0, 1) := by decide +kernel
theorem dX9_opposite_19 : decode cX9_opposite 19 = .ok (.getfield 9, 3) := by decide +kernel
theorem dX9_opposite_22 : decode cX9_opposite 22 = .ok (.iload_n 2, 1) := by decide +kernel
theorem dX9_opposite_23 : decode cX9_opposite 23 = .ok (.iadd, 1) := by decide +kernel
theorem dX9_opposite_24 : decode cX9_opposite 24 = .ok (.ireturn, 1) := by decide +kernel
theorem dX9_otherSense_0 : decode cX9_otherSense 0 = .ok (.iload_n 1, 1) := by decide +kernel
theorem dX9_otherSense_1 : decode cX9_otherSense 1 = .ok (.aload_n 0, 1) := by decide +kernel
theorem dX9_otherSense_2 : decode cX9_otherSense 2 = .ok (.getfield 9, 3) := by decide +kernel
theorem dX9_otherSense_5 : decode cX9_otherSense 5 = .ok (.if_icmp .ge 12, 3) := by decide +kernel
theorem dX9_otherSense_8 : decode cX9_otherSense 8 = .ok (.iload_n 1, 1) := by decide +kernel
theorem dX9_otherSense_9 : decode cX9_otherSense 9 = .ok (.aload_n 0, 1) := by decide +kernel
theorem dX9_otherSense_10 : decode cX9_otherSense 10 = .ok (.getfield 9, 3) := by decide +kernel
theorem dX9_otherSense_13 : decode cX9_otherSense 13 = .ok (.iadd, 1) := by decide +kernel
theorem dX9_otherSense_14 : decode cX9_otherSense 14 = .ok (.goto 9, 3) := by decide +kernel
theorem dX9_otherSense_17 : decode cX9_otherSense 17 = .ok (.iload_n 1, 1) := by decide +kernel
theorem dX9_otherSense_18 : decode cX9_otherSense 18 = .ok (.aload_n 0, 1) := by decide +kernel
theorem dX9_otherSense_19 : decode cX9_otherSense 19 = .ok (.getfield 9, 3) := by decide +kernel
theorem dX9_otherSense_22 : decode cX9_otherSense 22 = .ok (.isub, 1) := by decide +kernel
theorem dX9_otherSense_23 : decode cX9_otherSense 23 = .ok (.ireturn, 1) := by decide +kernel
theorem dX9_countForth_0 : decode cX9_countForth 0 = .ok (.iconst 1, 1) := by decide +kernel
theorem dX9_countForth_1 : decode cX9_countForth 1 = .ok (.aload_n 0, 1) := by decide +kernel
theorem dX9_countForth_2 : decode cX9_countForth 2 = .ok (.getfield 9, 3) := by decide +kernel
theorem dX9_countForth_5 : decode cX9_countForth 5 = .ok (.ishl, 1) := by decide +kernel
theorem dX9_countForth_6 : decode cX9_countForth 6 = .ok (.iconst 1, 1) := by decide +kernel
theorem dX9_countForth_7 : decode cX9_countForth 7 = .ok (.isub, 1) := by decide +kernel
theorem dX9_countForth_8 : decode cX9_countForth 8 = .ok (.istore_n 1, 1) := by decide +kernel
theorem dX9_countForth_9 : decode cX9_countForth 9 = .ok (.iconst 0, 1) := by decide +kernel
theorem dX9_countForth_10 : decode cX9_countForth 10 = .ok (.istore_n 2, 1) := by decide +kernel
theorem dX9_countForth_11 : decode cX9_countForth 11 = .ok (.iconst 0, 1) := by decide +kernel
theorem dX9_countForth_12 : decode cX9_countForth 12 = .ok (.istore_n 3, 1) := by decide +kernel
theorem dX9_countForth_13 : decode cX9_countForth 13 = .ok (.iload_n 3, 1) := by decide +kernel
theorem dX9_countForth_14 : decode cX9_countForth 14 = .ok (.aload_n 0, 1) := by decide +kernel
theorem dX9_countForth_15 : decode cX9_countForth 15 = .ok (.getfield 9, 3) := by decide +kernel
theorem dX9_countForth_18 : decode cX9_countForth 18 = .ok (.if_icmp .ge 73, 3) := by decide +kernel
theorem dX9_countForth_21 : decode cX9_countForth 21 = .ok (.iload_n 1, 1) := by decide +kernel
theorem dX9_countForth_22 : decode cX9_countForth 22 = .ok (.iload_n 3, 1) := by decide +kernel
theorem dX9_countForth_23 : decode cX9_countForth 23 = .ok (.ishr, 1) := by decide +kernel
theorem dX9_countForth_24 : decode cX9_countForth 24 = .ok (.iconst 1, 1) := by decide +kernel
theorem dX9_countForth_25 : decode cX9_countForth 25 = .ok (.iand, 1) := by decide +kernel
theorem dX9_countForth_26 : decode cX9_countForth 26 = .ok (.ifCond .ne 6, 3) := by decide +kernel
theorem dX9_countForth_29 : decode cX9_countForth 29 = .ok (.goto 56, 3) := by decide +kernel
theorem dX9_countForth_32 : decode cX9_countForth 32 = .ok (.iinc 2 1, 3) := by decide +kernel
theorem dX9_countForth_35 : decode cX9_countForth 35 = .ok (.iload_n 3, 1) := by decide +kernel
theorem dX9_countForth_36 : decode cX9_countForth 36 = .ok (.istore 4, 2) := by decide +kernel
theorem dX9_countForth_38 : decode cX9_countForth 38 = .ok (.iconst 0, 1) := by decide +kernel
theorem dX9_countForth_39 : decode cX9_countForth 39 = .ok (.istore 5, 2) := by decide +kernel
theorem dX9_countForth_41 : decode cX9_countForth 41 = .ok (.iload 5, 2) := by decide +kernel
theorem dX9_countForth_43 : decode cX9_countForth 43 = .ok (.aload_n 0, 1) := by decide +kernel
theorem dX9_countForth_44 : decode cX9_countForth 44 = .ok (.getfield 9, 3) := by decide +kernel
theorem dX9_countForth_47 : decode cX9_countForth 47 = .ok (.if_icmp .ge 38, 3) := by decide +kernel
theorem dX9_countForth_50 : decode cX9_countForth 50 = .ok (.iload_n 1, 1) := by decide +kernel
theorem dX9_countForth_51 : decode cX9_countForth 51 = .ok (.iload 4, 2) := by decide +kernel
theorem dX9_countForth_53 : decode cX9_countForth 53 = .ok (.ishr, 1) := by decide +kernel
theorem dX9_countForth_54 : decode cX9_countForth 54 = .ok (.iconst 1, 1) := by decide +kernel
theorem dX9_countForth_55 : decode cX9_countForth 55 = .ok (.iand, 1) := by decide +kernel
theorem dX9_countForth_56 : decode cX9_countForth 56 = .ok (.ifCond .eq 29, 3) := by decide +kernel
theorem dX9_countForth_59 : decode cX9_countForth 59 = .ok (.iload_n 1, 1) := by decide +kernel
theorem dX9_countForth_60 : decode cX9_countForth 60 = .ok (.iconst 1, 1) := by decide +kernel
theorem dX9_countForth_61 : decode cX9_countForth 61 = .ok (.iload 4, 2) := by decide +kernel
theorem dX9_countForth_63 : decode cX9_countForth 63 = .ok (.ishl, 1) := by decide +kernel
theorem dX9_countForth_64 : decode cX9_countForth 64 = .ok (.iconst (-1), 1) := by decide +kernel
theorem dX9_countForth_65 : decode cX9_countForth 65 = .ok (.ixor, 1) := by decide +kernel
theorem dX9_countForth_66 : decode cX9_countForth 66 = .ok (.iand, 1) := by decide +kernel
theorem dX9_countForth_67 : decode cX9_countForth 67 = .ok (.istore_n 1, 1) := by decide +kernel
theorem dX9_countForth_68 : decode cX9_countForth 68 = .ok (.aload_n 0, 1) := by decide +kernel
theorem dX9_countForth_69 : decode cX9_countForth 69 = .ok (.getfield 18, 3) := by decide +kernel
theorem dX9_countForth_72 : decode cX9_countForth 72 = .ok (.iload 4, 2) := by decide +kernel
theorem dX9_countForth_74 : decode cX9_countForth 74 = .ok (.iconst 1, 1) := by decide +kernel
theorem dX9_countForth_75 : decode cX9_countForth 75 = .ok (.ixor, 1) := by decide +kernel
theorem dX9_countForth_76 : decode cX9_countForth 76 = .ok (.iaload, 1) := by decide +kernel
theorem dX9_countForth_77 : decode cX9_countForth 77 = .ok (.istore 4, 2) := by decide +kernel
theorem dX9_countForth_79 : decode cX9_countForth 79 = .ok (.iinc 5 1, 3) := by decide +kernel
theorem dX9_countForth_82 : decode cX9_countForth 82 = .ok (.goto (-41), 3) := by decide +kernel
theorem dX9_countForth_85 : decode cX9_countForth 85 = .ok (.iinc 3 1, 3) := by decide +kernel
theorem dX9_countForth_88 : decode cX9_countForth 88 = .ok (.goto (-75), 3) := by decide +kernel
theorem dX9_countForth_91 : decode cX9_countForth 91 = .ok (.iload_n 2, 1) := by decide +kernel
theorem dX9_countForth_92 : decode cX9_countForth 92 = .ok (.ireturn, 1) := by decide +kernel
theorem dX9_countAll_0 : decode cX9_countAll 0 = .ok (.lconst 1, 1) := by decide +kernel
theorem dX9_countAll_1 : decode cX9_countAll 1 = .ok (.iconst 2, 1) := by decide +kernel
theorem dX9_countAll_2 : decode cX9_countAll 2 = .ok (.aload_n 0, 1) := by decide +kernel
theorem dX9_countAll_3 : decode cX9_countAll 3 = .ok (.getfield 9, 3) := by decide +kernel
theorem dX9_countAll_6 : decode cX9_countAll 6 = .ok (.imul, 1) := by decide +kernel
theorem dX9_countAll_7 : decode cX9_countAll 7 = .ok (.lshl, 1) := by decide +kernel
theorem dX9_countAll_8 : decode cX9_countAll 8 = .ok (.lconst 1, 1) := by decide +kernel
theorem dX9_countAll_9 : decode cX9_countAll 9 = .ok (.lsub, 1) := by decide +kernel
theorem dX9_countAll_10 : decode cX9_countAll 10 = .ok (.lstore_n 1, 1) := by decide +kernel
theorem dX9_countAll_11 : decode cX9_countAll 11 = .ok (.iconst 0, 1) := by decide +kernel
theorem dX9_countAll_12 : decode cX9_countAll 12 = .ok (.istore_n 3, 1) := by decide +kernel
theorem dX9_countAll_13 : decode cX9_countAll 13 = .ok (.iconst 0, 1) := by decide +kernel
theorem dX9_countAll_14 : decode cX9_countAll 14 = .ok (.istore 4, 2) := by decide +kernel
theorem dX9_countAll_16 : decode cX9_countAll 16 = .ok (.iload 4, 2) := by decide +kernel
theorem dX9_countAll_18 : decode cX9_countAll 18 = .ok (.iconst 2, 1) := by decide +kernel
theorem dX9_countAll_19 : decode cX9_countAll 19 = .ok (.aload_n 0, 1) := by decide +kernel
theorem dX9_countAll_20 : decode cX9_countAll 20 = .ok (.getfield 9, 3) := by decide +kernel
theorem dX9_countAll_23 : decode cX9_countAll 23 = .ok (.imul, 1) := by decide +kernel
theorem dX9_countAll_24 : decode cX9_countAll 24 = .ok (.if_icmp .ge 87, 3) := by decide +kernel
theorem dX9_countAll_27 : decode cX9_countAll 27 = .ok (.lload_n 1, 1) := by decide +kernel
theorem dX9_countAll_28 : decode cX9_countAll 28 = .ok (.iload 4, 2) := by decide +kernel
theorem dX9_countAll_30 : decode cX9_countAll 30 = .ok (.lshr, 1) := by decide +kernel
theorem dX9_countAll_31 : decode cX9_countAll 31 = .ok (.lconst 1, 1) := by decide +kernel
theorem dX9_countAll_32 : decode cX9_countAll 32 = .ok (.land, 1) := by decide +kernel
theorem dX9_countAll_33 : decode cX9_countAll 33 = .ok (.lconst 0, 1) := by decide +kernel
theorem dX9_countAll_34 : decode cX9_countAll 34 = .ok (.lcmp, 1) := by decide +kernel
theorem dX9_countAll_35 : decode cX9_countAll 35 = .ok (.ifCond .ne 6, 3) := by decide +kernel
theorem dX9_countAll_38 : decode cX9_countAll 38 = .ok (.goto 67, 3) := by decide +kernel
theorem dX9_countAll_41 : decode cX9_countAll 41 = .ok (.iinc 3 1, 3) := by decide +kernel
theorem dX9_countAll_44 : decode cX9_countAll 44 = .ok (.iload 4, 2) := by decide +kernel
theorem dX9_countAll_46 : decode cX9_countAll 46 = .ok (.istore 5, 2) := by decide +kernel
theorem dX9_countAll_48 : decode cX9_countAll 48 = .ok (.iconst 0, 1) := by decide +kernel
theorem dX9_countAll_49 : decode cX9_countAll 49 = .ok (.istore 6, 2) := by decide +kernel
theorem dX9_countAll_51 : decode cX9_countAll 51 = .ok (.iload 6, 2) := by decide +kernel
theorem dX9_countAll_53 : decode cX9_countAll 53 = .ok (.aload_n 0, 1) := by decide +kernel
theorem dX9_countAll_54 : decode cX9_countAll 54 = .ok (.getfield 9, 3) := by decide +kernel
theorem dX9_countAll_57 : decode cX9_countAll 57 = .ok (.if_icmp .ge 48, 3) := by decide +kernel
theorem dX9_countAll_60 : decode cX9_countAll 60 = .ok (.lload_n 1, 1) := by decide +kernel
theorem dX9_countAll_61 : decode cX9_countAll 61 = .ok (.iload 5, 2) := by decide +kernel
theorem dX9_countAll_63 : decode cX9_countAll 63 = .ok (.lshr, 1) := by decide +kernel
theorem dX9_countAll_64 : decode cX9_countAll 64 = .ok (.lconst 1, 1) := by decide +kernel
theorem dX9_countAll_65 : decode cX9_countAll 65 = .ok (.land, 1) := by decide +kernel
theorem dX9_countAll_66 : decode cX9_countAll 66 = .ok (.lconst 0, 1) := by decide +kernel
theorem dX9_countAll_67 : decode cX9_countAll 67 = .ok (.lcmp, 1) := by decide +kernel
theorem dX9_countAll_68 : decode cX9_countAll 68 = .ok (.ifCond .eq 37, 3) := by decide +kernel
theorem dX9_countAll_71 : decode cX9_countAll 71 = .ok (.lload_n 1, 1) := by decide +kernel
theorem dX9_countAll_72 : decode cX9_countAll 72 = .ok (.lconst 1, 1) := by decide +kernel
theorem dX9_countAll_73 : decode cX9_countAll 73 = .ok (.iload 5, 2) := by decide +kernel
theorem dX9_countAll_75 : decode cX9_countAll 75 = .ok (.lshl, 1) := by decide +kernel
theorem dX9_countAll_76 : decode cX9_countAll 76 = .ok (.lconst 1, 1) := by decide +kernel
theorem dX9_countAll_77 : decode cX9_countAll 77 = .ok (.aload_n 0, 1) := by decide +kernel
theorem dX9_countAll_78 : decode cX9_countAll 78 = .ok (.iload 5, 2) := by decide +kernel
theorem dX9_countAll_80 : decode cX9_countAll 80 = .ok (.invokevirtual 53, 3) := by decide +kernel
theorem dX9_countAll_83 : decode cX9_countAll 83 = .ok (.lshl, 1) := by decide +kernel
theorem dX9_countAll_84 : decode cX9_countAll 84 = .ok (.lor, 1) := by decide +kernel
theorem dX9_countAll_85 : decode cX9_countAll 85 = .ok (.ldc2_w 56, 3) := by decide +kernel
theorem dX9_countAll_88 : decode cX9_countAll 88 = .ok (.lxor, 1) := by decide +kernel
theorem dX9_countAll_89 : decode cX9_countAll 89 = .ok (.land, 1) := by decide +kernel
theorem dX9_countAll_90 : decode cX9_countAll 90 = .ok (.lstore_n 1, 1) := by decide +kernel
theorem dX9_countAll_91 : decode cX9_countAll 91 = .ok (.aload_n 0, 1) := by decide +kernel
theorem dX9_countAll_92 : decode cX9_countAll 92 = .ok (.iload 5, 2) := by decide +kernel
theorem dX9_countAll_94 : decode cX9_countAll 94 = .ok (.invokevirtual 58, 3) := by decide +kernel
theorem dX9_countAll_97 : decode cX9_countAll 97 = .ok (.istore 5, 2) := by decide +kernel
theorem dX9_countAll_99 : decode cX9_countAll 99 = .ok (.iinc 6 1, 3) := by decide +kernel
theorem dX9_countAll_102 : decode cX9_countAll 102 = .ok (.goto (-51), 3) := by decide +kernel
theorem dX9_countAll_105 : decode cX9_countAll 105 = .ok (.iinc 4 1, 3) := by decide +kernel
theorem dX9_countAll_108 : decode cX9_countAll 108 = .ok (.goto (-92), 3) := by decide +kernel
theorem dX9_countAll_111 : decode cX9_countAll 111 = .ok (.iload_n 3, 1) := by decide +kernel
theorem dX9_countAll_112 : decode cX9_countAll 112 = .ok (.ireturn, 1) := by decide +kernel
theorem dX9_straightOnes_0 : decode cX9_straightOnes 0 = .ok (.aload_n 0, 1) := by decide +kernel
theorem dX9_straightOnes_1 : decode cX9_straightOnes 1 = .ok (.iconst 2, 1) := by decide +kernel
theorem dX9_straightOnes_2 : decode cX9_straightOnes 2 = .ok (.aload_n 1, 1) := by decide +kernel
theorem dX9_straightOnes_3 : decode cX9_straightOnes 3 = .ok (.getfield 25, 3) := by decide +kernel
theorem dX9_straightOnes_6 : decode cX9_straightOnes 6 = .ok (.imul, 1) := by decide +kernel
theorem dX9_straightOnes_7 : decode cX9_straightOnes 7 = .ok (.putfield 9, 3) := by decide +kernel
theorem dX9_straightOnes_10 : decode cX9_straightOnes 10 = .ok (.iconst 0, 1) := by decide +kernel
theorem dX9_straightOnes_11 : decode cX9_straightOnes 11 = .ok (.istore_n 2, 1) := by decide +kernel
theorem dX9_straightOnes_12 : decode cX9_straightOnes 12 = .ok (.iload_n 2, 1) := by decide +kernel
theorem dX9_straightOnes_13 : decode cX9_straightOnes 13 = .ok (.aload_n 1, 1) := by decide +kernel
theorem dX9_straightOnes_14 : decode cX9_straightOnes 14 = .ok (.getfield 31, 3) := by decide +kernel
theorem dX9_straightOnes_17 : decode cX9_straightOnes 17 = .ok (.if_icmp .ge 37, 3) := by decide +kernel
theorem dX9_straightOnes_20 : decode cX9_straightOnes 20 = .ok (.aload_n 1, 1) := by decide +kernel
theorem dX9_straightOnes_21 : decode cX9_straightOnes 21 = .ok (.getfield 38, 3) := by decide +kernel
theorem dX9_straightOnes_24 : decode cX9_straightOnes 24 = .ok (.iload_n 2, 1) := by decide +kernel
theorem dX9_straightOnes_25 : decode cX9_straightOnes 25 = .ok (.iaload, 1) := by decide +kernel
theorem dX9_straightOnes_26 : decode cX9_straightOnes 26 = .ok (.iconst 1, 1) := by decide +kernel
theorem dX9_straightOnes_27 : decode cX9_straightOnes 27 = .ok (.iand, 1) := by decide +kernel
theorem dX9_straightOnes_28 : decode cX9_straightOnes 28 = .ok (.ifCond .eq 6, 3) := by decide +kernel
theorem dX9_straightOnes_31 : decode cX9_straightOnes 31 = .ok (.bipush (-2), 2) := by decide +kernel
theorem dX9_straightOnes_33 : decode cX9_straightOnes 33 = .ok (.ireturn, 1) := by decide +kernel
theorem dX9_straightOnes_34 : decode cX9_straightOnes 34 = .ok (.aload_n 0, 1) := by decide +kernel
theorem dX9_straightOnes_35 : decode cX9_straightOnes 35 = .ok (.aload_n 1, 1) := by decide +kernel
theorem dX9_straightOnes_36 : decode cX9_straightOnes 36 = .ok (.iload_n 2, 1) := by decide +kernel
theorem dX9_straightOnes_37 : decode cX9_straightOnes 37 = .ok (.aload_n 1, 1) := by decide +kernel
theorem dX9_straightOnes_38 : decode cX9_straightOnes 38 = .ok (.getfield 38, 3) := by decide +kernel
theorem dX9_straightOnes_41 : decode cX9_straightOnes 41 = .ok (.iload_n 2, 1) := by decide +kernel
theorem dX9_straightOnes_42 : decode cX9_straightOnes 42 = .ok (.iaload, 1) := by decide +kernel
theorem dX9_straightOnes_43 : decode cX9_straightOnes 43 = .ok (.iconst 2, 1) := by decide +kernel
theorem dX9_straightOnes_44 : decode cX9_straightOnes 44 = .ok (.idiv, 1) := by decide +kernel
theorem dX9_straightOnes_45 : decode cX9_straightOnes 45 = .ok (.invokevirtual 34, 3) := by decide +kernel
theorem dX9_straightOnes_48 : decode cX9_straightOnes 48 = .ok (.iinc 2 1, 3) := by decide +kernel
theorem dX9_straightOnes_51 : decode cX9_straightOnes 51 = .ok (.goto (-39), 3) := by decide +kernel
theorem dX9_straightOnes_54 : decode cX9_straightOnes 54 = .ok (.aload_n 0, 1) := by decide +kernel
theorem dX9_straightOnes_55 : decode cX9_straightOnes 55 = .ok (.invokevirtual 61, 3) := by decide +kernel
theorem dX9_straightOnes_58 : decode cX9_straightOnes 58 = .ok (.iconst 2, 1) := by decide +kernel
theorem dX9_straightOnes_59 : decode cX9_straightOnes 59 = .ok (.idiv, 1) := by decide +kernel
theorem dX9_straightOnes_60 : decode cX9_straightOnes 60 = .ok (.ireturn, 1) := by decide +kernel
theorem dJ6_bitCount_0f7a4_0 : decode cJ6_bitCount_0f7a4 0 = .ok (.iload_n 0, 1) := by decide +kernel
theorem dJ6_bitCount_0f7a4_1 : decode cJ6_bitCount_0f7a4 1 = .ok (.iload_n 0, 1) := by decide +kernel
theorem dJ6_bitCount_0f7a4_2 : decode cJ6_bitCount_0f7a4 2 = .ok (.iconst 1, 1) := by decide +kernel
theorem dJ6_bitCount_0f7a4_3 : decode cJ6_bitCount_0f7a4 3 = .ok (.iushr, 1) := by decide +kernel
theorem dJ6_bitCount_0f7a4_4 : decode cJ6_bitCount_0f7a4 4 = .ok (.ldc_w 265, 3) := by decide +kernel
theorem dJ6_bitCount_0f7a4_7 : decode cJ6_bitCount_0f7a4 7 = .ok (.iand, 1) := by decide +kernel
theorem dJ6_bitCount_0f7a4_8 : decode cJ6_bitCount_0f7a4 8 = .ok (.isub, 1) := by decide +kernel
theorem dJ6_bitCount_0f7a4_9 : decode cJ6_bitCount_0f7a4 9 = .ok (.istore_n 0, 1) := by decide +kernel
theorem dJ6_bitCount_0f7a4_10 : decode cJ6_bitCount_0f7a4 10 = .ok (.iload_n 0, 1) := by decide +kernel
theorem dJ6_bitCount_0f7a4_11 : decode cJ6_bitCount_0f7a4 11 = .ok (.ldc_w 266, 3) := by decide +kernel
theorem dJ6_bitCount_0f7a4_14 : decode cJ6_bitCount_0f7a4 14 = .ok (.iand, 1) := by decide +kernel
theorem dJ6_bitCount_0f7a4_15 : decode cJ6_bitCount_0f7a4 15 = .ok (.iload_n 0, 1) := by decide +kernel
theorem dJ6_bitCount_0f7a4_16 : decode cJ6_bitCount_0f7a4 16 = .ok (.iconst 2, 1) := by decide +kernel
theorem dJ6_bitCount_0f7a4_17 : decode cJ6_bitCount_0f7a4 17 = .ok (.iushr, 1) := by decide +kernel
theorem dJ6_bitCount_0f7a4_18 : decode cJ6_bitCount_0f7a4 18 = .ok (.ldc_w 266, 3) := by decide +kernel
theorem dJ6_bitCount_0f7a4_21 : decode cJ6_bitCount_0f7a4 21 = .ok (.iand, 1) := by decide +kernel
theorem dJ6_bitCount_0f7a4_22 : decode cJ6_bitCount_0f7a4 22 = .ok (.iadd, 1) := by decide +kernel
theorem dJ6_bitCount_0f7a4_23 : decode cJ6_bitCount_0f7a4 23 = .ok (.istore_n 0, 1) := by decide +kernel
theorem dJ6_bitCount_0f7a4_24 : decode cJ6_bitCount_0f7a4 24 = .ok (.iload_n 0, 1) := by decide +kernel
theorem dJ6_bitCount_0f7a4_25 : decode cJ6_bitCount_0f7a4 25 = .ok (.iload_n 0, 1) := by decide +kernel
theorem dJ6_bitCount_0f7a4_26 : decode cJ6_bitCount_0f7a4 26 = .ok (.iconst 4, 1) := by decide +kernel
theorem dJ6_bitCount_0f7a4_27 : decode cJ6_bitCount_0f7a4 27 = .ok (.iushr, 1) := by decide +kernel
theorem dJ6_bitCount_0f7a4_28 : decode cJ6_bitCount_0f7a4 28 = .ok (.iadd, 1) := by decide +kernel
theorem dJ6_bitCount_0f7a4_29 : decode cJ6_bitCount_0f7a4 29 = .ok (.ldc_w 267, 3) := by decide +kernel
theorem dJ6_bitCount_0f7a4_32 : decode cJ6_bitCount_0f7a4 32 = .ok (.iand, 1) := by decide +kernel
theorem dJ6_bitCount_0f7a4_33 : decode cJ6_bitCount_0f7a4 33 = .ok (.istore_n 0, 1) := by decide +kernel
theorem dJ6_bitCount_0f7a4_34 : decode cJ6_bitCount_0f7a4 34 = .ok (.iload_n 0, 1) := by decide +kernel
theorem dJ6_bitCount_0f7a4_35 : decode cJ6_bitCount_0f7a4 35 = .ok (.iload_n 0, 1) := by decide +kernel
theorem dJ6_bitCount_0f7a4_36 : decode cJ6_bitCount_0f7a4 36 = .ok (.bipush 8, 2) := by decide +kernel
theorem dJ6_bitCount_0f7a4_38 : decode cJ6_bitCount_0f7a4 38 = .ok (.iushr, 1) := by decide +kernel
theorem dJ6_bitCount_0f7a4_39 : decode cJ6_bitCount_0f7a4 39 = .ok (.iadd, 1) := by decide +kernel
theorem dJ6_bitCount_0f7a4_40 : decode cJ6_bitCount_0f7a4 40 = .ok (.istore_n 0, 1) := by decide +kernel
theorem dJ6_bitCount_0f7a4_41 : decode cJ6_bitCount_0f7a4 41 = .ok (.iload_n 0, 1) := by decide +kernel
theorem dJ6_bitCount_0f7a4_42 : decode cJ6_bitCount_0f7a4 42 = .ok (.iload_n 0, 1) := by decide +kernel
theorem dJ6_bitCount_0f7a4_43 : decode cJ6_bitCount_0f7a4 43 = .ok (.bipush 16, 2) := by decide +kernel
theorem dJ6_bitCount_0f7a4_45 : decode cJ6_bitCount_0f7a4 45 = .ok (.iushr, 1) := by decide +kernel
theorem dJ6_bitCount_0f7a4_46 : decode cJ6_bitCount_0f7a4 46 = .ok (.iadd, 1) := by decide +kernel
theorem dJ6_bitCount_0f7a4_47 : decode cJ6_bitCount_0f7a4 47 = .ok (.istore_n 0, 1) := by decide +kernel
theorem dJ6_bitCount_0f7a4_48 : decode cJ6_bitCount_0f7a4 48 = .ok (.iload_n 0, 1) := by decide +kernel
theorem dJ6_bitCount_0f7a4_49 : decode cJ6_bitCount_0f7a4 49 = .ok (.bipush 63, 2) := by decide +kernel
theorem dJ6_bitCount_0f7a4_51 : decode cJ6_bitCount_0f7a4 51 = .ok (.iand, 1) := by decide +kernel
theorem dJ6_bitCount_0f7a4_52 : decode cJ6_bitCount_0f7a4 52 = .ok (.ireturn, 1) := by decide +kernel
theorem dJ9_max_7cf53_0 : decode cJ9_max_7cf53 0 = .ok (.iload_n 0, 1) := by decide +kernel
theorem dJ9_max_7cf53_1 : decode cJ9_max_7cf53 1 = .ok (.iload_n 1, 1) := by decide +kernel
theorem dJ9_max_7cf53_2 : decode cJ9_max_7cf53 2 = .ok (.if_icmp .lt 7, 3) := by decide +kernel
theorem dJ9_max_7cf53_5 : decode cJ9_max_7cf53 5 = .ok (.iload_n 0, 1) := by decide +kernel
theorem dJ9_max_7cf53_6 : decode cJ9_max_7cf53 6 = .ok (.goto 4, 3) := by decide +kernel
theorem dJ9_max_7cf53_9 : decode cJ9_max_7cf53 9 = .ok (.iload_n 1, 1) := by decide +kernel
theorem dJ9_max_7cf53_10 : decode cJ9_max_7cf53 10 = .ok (.ireturn, 1) := by decide +kernel
theorem dJ9_min_7cf53_0 : decode cJ9_min_7cf53 0 = .ok (.iload_n 0, 1) := by decide +kernel
theorem dJ9_min_7cf53_1 : decode cJ9_min_7cf53 1 = .ok (.iload_n 1, 1) := by decide +kernel
theorem dJ9_min_7cf53_2 : decode cJ9_min_7cf53 2 = .ok (.if_icmp .gt 7, 3) := by decide +kernel
theorem dJ9_min_7cf53_5 : decode cJ9_min_7cf53 5 = .ok (.iload_n 0, 1) := by decide +kernel
theorem dJ9_min_7cf53_6 : decode cJ9_min_7cf53 6 = .ok (.goto 4, 3) := by decide +kernel
theorem dJ9_min_7cf53_9 : decode cJ9_min_7cf53 9 = .ok (.iload_n 1, 1) := by decide +kernel
theorem dJ9_min_7cf53_10 : decode cJ9_min_7cf53 10 = .ok (.ireturn, 1) := by decide +kernel
theorem dJ9_min_f86c9_0 : decode cJ9_min_f86c9 0 = .ok (.lload_n 0, 1) := by decide +kernel
theorem dJ9_min_f86c9_1 : decode cJ9_min_f86c9 1 = .ok (.lload_n 2, 1) := by decide +kernel
theorem dJ9_min_f86c9_2 : decode cJ9_min_f86c9 2 = .ok (.lcmp, 1) := by decide +kernel
theorem dJ9_min_f86c9_3 : decode cJ9_min_f86c9 3 = .ok (.ifCond .gt 7, 3) := by decide +kernel
theorem dJ9_min_f86c9_6 : decode cJ9_min_f86c9 6 = .ok (.lload_n 0, 1) := by decide +kernel
theorem dJ9_min_f86c9_7 : decode cJ9_min_f86c9 7 = .ok (.goto 4, 3) := by decide +kernel
theorem dJ9_min_f86c9_10 : decode cJ9_min_f86c9 10 = .ok (.lload_n 2, 1) := by decide +kernel
theorem dJ9_min_f86c9_11 : decode cJ9_min_f86c9 11 = .ok (.lreturn, 1) := by decide +kernel
theorem dJ0_length_8abf5_0 : decode cJ0_length_8abf5 0 = .ok (.aload_n 0, 1) := by decide +kernel
theorem dJ0_length_8abf5_1 : decode cJ0_length_8abf5 1 = .ok (.getfield 9, 3) := by decide +kernel
theorem dJ0_length_8abf5_4 : decode cJ0_length_8abf5 4 = .ok (.arraylength, 1) := by decide +kernel
theorem dJ0_length_8abf5_5 : decode cJ0_length_8abf5 5 = .ok (.aload_n 0, 1) := by decide +kernel
theorem dJ0_length_8abf5_6 : decode cJ0_length_8abf5 6 = .ok (.invokevirtual 335, 3) := by decide +kernel
theorem dJ0_length_8abf5_9 : decode cJ0_length_8abf5 9 = .ok (.ishr, 1) := by decide +kernel
theorem dJ0_length_8abf5_10 : decode cJ0_length_8abf5 10 = .ok (.ireturn, 1) := by decide +kernel
theorem dJ0_charAt_5068e_0 : decode cJ0_charAt_5068e 0 = .ok (.aload_n 0, 1) := by decide +kernel
theorem dJ0_charAt_5068e_1 : decode cJ0_charAt_5068e 1 = .ok (.invokevirtual 492, 3) := by decide +kernel
theorem dJ0_charAt_5068e_4 : decode cJ0_charAt_5068e 4 = .ok (.ifCond .eq 12, 3) := by decide +kernel
theorem dJ0_charAt_5068e_7 : decode cJ0_charAt_5068e 7 = .ok (.aload_n 0, 1) := by decide +kernel
theorem dJ0_charAt_5068e_8 : decode cJ0_charAt_5068e 8 = .ok (.getfield 9, 3) := by decide +kernel
theorem dJ0_charAt_5068e_11 : decode cJ0_charAt_5068e 11 = .ok (.iload_n 1, 1) := by decide +kernel
theorem dJ0_charAt_5068e_12 : decode cJ0_charAt_5068e 12 = .ok (.invokestatic 495, 3) := by decide +kernel
theorem dJ0_charAt_5068e_15 : decode cJ0_charAt_5068e 15 = .ok (.ireturn, 1) := by decide +kernel
theorem dJ0_charAt_5068e_16 : decode cJ0_charAt_5068e 16 = .ok (.aload_n 0, 1) := by decide +kernel
theorem dJ0_charAt_5068e_17 : decode cJ0_charAt_5068e 17 = .ok (.getfield 9, 3) := by decide +kernel
theorem dJ0_charAt_5068e_20 : decode cJ0_charAt_5068e 20 = .ok (.iload_n 1, 1) := by decide +kernel
theorem dJ0_charAt_5068e_21 : decode cJ0_charAt_5068e 21 = .ok (.invokestatic 498, 3) := by decide +kernel
theorem dJ0_charAt_5068e_24 : decode cJ0_charAt_5068e 24 = .ok (.ireturn, 1) := by decide +kernel
theorem dJ0_coder_7d493_0 : decode cJ0_coder_7d493 0 = .ok (.getstatic 38, 3) := by decide +kernel
theorem dJ0_coder_7d493_3 : decode cJ0_coder_7d493 3 = .ok (.ifCond .eq 10, 3) := by decide +kernel
theorem dJ0_coder_7d493_6 : decode cJ0_coder_7d493 6 = .ok (.aload_n 0, 1) := by decide +kernel
theorem dJ0_coder_7d493_7 : decode cJ0_coder_7d493 7 = .ok (.getfield 15, 3) := by decide +kernel
theorem dJ0_coder_7d493_10 : decode cJ0_coder_7d493 10 = .ok (.goto 4, 3) := by decide +kernel
theorem dJ0_coder_7d493_13 : decode cJ0_coder_7d493 13 = .ok (.iconst 1, 1) := by decide +kernel
theorem dJ0_coder_7d493_14 : decode cJ0_coder_7d493 14 = .ok (.ireturn, 1) := by decide +kernel
theorem dJ0_isLatin1_aae02_0 : decode cJ0_isLatin1_aae02 0 = .ok (.getstatic 38, 3) := by decide +kernel
theorem dJ0_isLatin1_aae02_3 : decode cJ0_isLatin1_aae02 3 = .ok (.ifCond .eq 14, 3) := by decide +kernel
theorem dJ0_isLatin1_aae02_6 : decode cJ0_isLatin1_aae02 6 = .ok (.aload_n 0, 1) := by decide +kernel
theorem dJ0_isLatin1_aae02_7 : decode cJ0_isLatin1_aae02 7 = .ok (.getfield 15, 3) := by decide +kernel
theorem dJ0_isLatin1_aae02_10 : decode cJ0_isLatin1_aae02 10 = .ok (.ifCond .ne 7, 3) := by decide +kernel
theorem dJ0_isLatin1_aae02_13 : decode cJ0_isLatin1_aae02 13 = .ok (.iconst 1, 1) := by decide +kernel
theorem dJ0_isLatin1_aae02_14 : decode cJ0_isLatin1_aae02 14 = .ok (.goto 4, 3) := by decide +kernel
theorem dJ0_isLatin1_aae02_17 : decode cJ0_isLatin1_aae02 17 = .ok (.iconst 0, 1) := by decide +kernel
theorem dJ0_isLatin1_aae02_18 : decode cJ0_isLatin1_aae02 18 = .ok (.ireturn, 1) := by decide +kernel
theorem dJ0_checkIndex_df160_0 : decode cJ0_checkIndex_df160 0 = .ok (.iload_n 0, 1) := by decide +kernel
theorem dJ0_checkIndex_df160_1 : decode cJ0_checkIndex_df160 1 = .ok (.iload_n 1, 1) := by decide +kernel
theorem dJ0_checkIndex_df160_2 : decode cJ0_checkIndex_df160 2 = .ok (.getstatic 1053, 3) := by decide +kernel
theorem dJ0_checkIndex_df160_5 : decode cJ0_checkIndex_df160 5 = .ok (.invokestatic 1059, 3) := by decide +kernel
theorem dJ0_checkIndex_df160_8 : decode cJ0_checkIndex_df160 8 = .ok (.pop, 1) := by decide +kernel
theorem dJ0_checkIndex_df160_9 : decode cJ0_checkIndex_df160 9 = .ok (.return_, 1) := by decide +kernel
theorem dJ1_charAt_3b067_0 : decode cJ1_charAt_3b067 0 = .ok (.iload_n 1, 1) := by decide +kernel
theorem dJ1_charAt_3b067_1 : decode cJ1_charAt_3b067 1 = .ok (.aload_n 0, 1) := by decide +kernel
theorem dJ1_charAt_3b067_2 : decode cJ1_charAt_3b067 2 = .ok (.arraylength, 1) := by decide +kernel
theorem dJ1_charAt_3b067_3 : decode cJ1_charAt_3b067 3 = .ok (.invokestatic 9, 3) := by decide +kernel
theorem dJ1_charAt_3b067_6 : decode cJ1_charAt_3b067 6 = .ok (.aload_n 0, 1) := by decide +kernel
theorem dJ1_charAt_3b067_7 : decode cJ1_charAt_3b067 7 = .ok (.iload_n 1, 1) := by decide +kernel
theorem dJ1_charAt_3b067_8 : decode cJ1_charAt_3b067 8 = .ok (.baload, 1) := by decide +kernel
theorem dJ1_charAt_3b067_9 : decode cJ1_charAt_3b067 9 = .ok (.sipush 255, 3) := by decide +kernel
theorem dJ1_charAt_3b067_12 : decode cJ1_charAt_3b067 12 = .ok (.iand, 1) := by decide +kernel
theorem dJ1_charAt_3b067_13 : decode cJ1_charAt_3b067 13 = .ok (.i2c, 1) := by decide +kernel
theorem dJ1_charAt_3b067_14 : decode cJ1_charAt_3b067 14 = .ok (.ireturn, 1) := by decide +kernel
theorem dJ2_getChar_3b067_0 : decode cJ2_getChar_3b067 0 = .ok (.getstatic 44, 3) := by decide +kernel
theorem dJ2_getChar_3b067_3 : decode cJ2_getChar_3b067 3 = .ok (.ifCond .ne 25, 3) := by decide +kernel
theorem dJ2_getChar_3b067_6 : decode cJ2_getChar_3b067 6 = .ok (.iload_n 1, 1) := by decide +kernel
theorem dJ2_getChar_3b067_7 : decode cJ2_getChar_3b067 7 = .ok (.ifCond .lt 11, 3) := by decide +kernel
theorem dJ2_getChar_3b067_10 : decode cJ2_getChar_3b067 10 = .ok (.iload_n 1, 1) := by decide +kernel
theorem dJ2_getChar_3b067_11 : decode cJ2_getChar_3b067 11 = .ok (.aload_n 0, 1) := by decide +kernel
theorem dJ2_getChar_3b067_12 : decode cJ2_getChar_3b067 12 = .ok (.invokestatic 48, 3) := by decide +kernel
theorem dJ2_getChar_3b067_15 : decode cJ2_getChar_3b067 15 = .ok (.if_icmp .lt 13, 3) := by decide +kernel
theorem dJ2_getChar_3b067_18 : decode cJ2_getChar_3b067 18 = .ok (.new 52, 3) := by decide +kernel
theorem dJ2_getChar_3b067_21 : decode cJ2_getChar_3b067 21 = .ok (.dup, 1) := by decide +kernel
theorem dJ2_getChar_3b067_22 : decode cJ2_getChar_3b067 22 = .ok (.ldc 54, 2) := by decide +kernel
theorem dJ2_getChar_3b067_24 : decode cJ2_getChar_3b067 24 = .ok (.invokespecial 56, 3) := by decide +kernel
theorem dJ2_getChar_3b067_27 : decode cJ2_getChar_3b067 27 = .ok (.athrow, 1) := by decide +kernel
theorem dJ2_getChar_3b067_28 : decode cJ2_getChar_3b067 28 = .ok (.iload_n 1, 1) := by decide +kernel
theorem dJ2_getChar_3b067_29 : decode cJ2_getChar_3b067 29 = .ok (.iconst 1, 1) := by decide +kernel
theorem dJ2_getChar_3b067_30 : decode cJ2_getChar_3b067 30 = .ok (.ishl, 1) := by decide +kernel
theorem dJ2_getChar_3b067_31 : decode cJ2_getChar_3b067 31 = .ok (.istore_n 1, 1) := by decide +kernel
theorem dJ2_getChar_3b067_32 : decode cJ2_getChar_3b067 32 = .ok (.aload_n 0, 1) := by decide +kernel
theorem dJ2_getChar_3b067_33 : decode cJ2_getChar_3b067 33 = .ok (.iload_n 1, 1) := by decide +kernel
theorem dJ2_getChar_3b067_34 : decode cJ2_getChar_3b067 34 = .ok (.iinc 1 1, 3) := by decide +kernel
theorem dJ2_getChar_3b067_37 : decode cJ2_getChar_3b067 37 = .ok (.baload, 1) := by decide +kernel
theorem dJ2_getChar_3b067_38 : decode cJ2_getChar_3b067 38 = .ok (.sipush 255, 3) := by decide +kernel
theorem dJ2_getChar_3b067_41 : decode cJ2_getChar_3b067 41 = .ok (.iand, 1) := by decide +kernel
theorem dJ2_getChar_3b067_42 : decode cJ2_getChar_3b067 42 = .ok (.getstatic 59, 3) := by decide +kernel
theorem dJ2_getChar_3b067_45 : decode cJ2_getChar_3b067 45 = .ok (.ishl, 1) := by decide +kernel
theorem dJ2_getChar_3b067_46 : decode cJ2_getChar_3b067 46 = .ok (.aload_n 0, 1) := by decide +kernel
theorem dJ2_getChar_3b067_47 : decode cJ2_getChar_3b067 47 = .ok (.iload_n 1, 1) := by decide +kernel
theorem dJ2_getChar_3b067_48 : decode cJ2_getChar_3b067 48 = .ok (.baload, 1) := by decide +kernel
theorem dJ2_getChar_3b067_49 : decode cJ2_getChar_3b067 49 = .ok (.sipush 255, 3) := by decide +kernel
theorem dJ2_getChar_3b067_52 : decode cJ2_getChar_3b067 52 = .ok (.iand, 1) := by decide +kernel
theorem dJ2_getChar_3b067_53 : decode cJ2_getChar_3b067 53 = .ok (.getstatic 63, 3) := by decide +kernel
theorem dJ2_getChar_3b067_56 : decode cJ2_getChar_3b067 56 = .ok (.ishl, 1) := by decide +kernel
theorem dJ2_getChar_3b067_57 : decode cJ2_getChar_3b067 57 = .ok (.ior, 1) := by decide +kernel
theorem dJ2_getChar_3b067_58 : decode cJ2_getChar_3b067 58 = .ok (.i2c, 1) := by decide +kernel
theorem dJ2_getChar_3b067_59 : decode cJ2_getChar_3b067 59 = .ok (.ireturn, 1) := by decide +kernel
theorem dJ2_length_9d52b_0 : decode cJ2_length_9d52b 0 = .ok (.aload_n 0, 1) := by decide +kernel
theorem dJ2_length_9d52b_1 : decode cJ2_length_9d52b 1 = .ok (.arraylength, 1) := by decide +kernel
theorem dJ2_length_9d52b_2 : decode cJ2_length_9d52b 2 = .ok (.iconst 1, 1) := by decide +kernel
theorem dJ2_length_9d52b_3 : decode cJ2_length_9d52b 3 = .ok (.ishr, 1) := by decide +kernel
theorem dJ2_length_9d52b_4 : decode cJ2_length_9d52b 4 = .ok (.ireturn, 1) := by decide +kernel
theorem dJ2_charAt_3b067_0 : decode cJ2_charAt_3b067 0 = .ok (.iload_n 1, 1) := by decide +kernel
theorem dJ2_charAt_3b067_1 : decode cJ2_charAt_3b067 1 = .ok (.aload_n 0, 1) := by decide +kernel
theorem dJ2_charAt_3b067_2 : decode cJ2_charAt_3b067 2 = .ok (.invokestatic 67, 3) := by decide +kernel
theorem dJ2_charAt_3b067_5 : decode cJ2_charAt_3b067 5 = .ok (.aload_n 0, 1) := by decide +kernel
theorem dJ2_charAt_3b067_6 : decode cJ2_charAt_3b067 6 = .ok (.iload_n 1, 1) := by decide +kernel
theorem dJ2_charAt_3b067_7 : decode cJ2_charAt_3b067 7 = .ok (.invokestatic 71, 3) := by decide +kernel
theorem dJ2_charAt_3b067_10 : decode cJ2_charAt_3b067 10 = .ok (.ireturn, 1) := by decide +kernel
theorem dJ2_checkIndex_2214a_0 : decode cJ2_checkIndex_2214a 0 = .ok (.iload_n 0, 1) := by decide +kernel
theorem dJ2_checkIndex_2214a_1 : decode cJ2_checkIndex_2214a 1 = .ok (.aload_n 1, 1) := by decide +kernel
theorem dJ2_checkIndex_2214a_2 : decode cJ2_checkIndex_2214a 2 = .ok (.invokestatic 48, 3) := by decide +kernel
theorem dJ2_checkIndex_2214a_5 : decode cJ2_checkIndex_2214a 5 = .ok (.invokestatic 414, 3) := by decide +kernel
theorem dJ2_checkIndex_2214a_8 : decode cJ2_checkIndex_2214a 8 = .ok (.return_, 1) := by decide +kernel
theorem dJ7_fill_53178_0 : decode cJ7_fill_53178 0 = .ok (.iconst 0, 1) := by decide +kernel
theorem dJ7_fill_53178_1 : decode cJ7_fill_53178 1 = .ok (.istore_n 2, 1) := by decide +kernel
theorem dJ7_fill_53178_2 : decode cJ7_fill_53178 2 = .ok (.aload_n 0, 1) := by decide +kernel
theorem dJ7_fill_53178_3 : decode cJ7_fill_53178 3 = .ok (.arraylength, 1) := by decide +kernel
theorem dJ7_fill_53178_4 : decode cJ7_fill_53178 4 = .ok (.istore_n 3, 1) := by decide +kernel
theorem dJ7_fill_53178_5 : decode cJ7_fill_53178 5 = .ok (.iload_n 2, 1) := by decide +kernel
theorem dJ7_fill_53178_6 : decode cJ7_fill_53178 6 = .ok (.iload_n 3, 1) := by decide +kernel
theorem dJ7_fill_53178_7 : decode cJ7_fill_53178 7 = .ok (.if_icmp .ge 13, 3) := by decide +kernel
theorem dJ7_fill_53178_10 : decode cJ7_fill_53178 10 = .ok (.aload_n 0, 1) := by decide +kernel
theorem dJ7_fill_53178_11 : decode cJ7_fill_53178 11 = .ok (.iload_n 2, 1) := by decide +kernel
theorem dJ7_fill_53178_12 : decode cJ7_fill_53178 12 = .ok (.iload_n 1, 1) := by decide +kernel
theorem dJ7_fill_53178_13 : decode cJ7_fill_53178 13 = .ok (.iastore, 1) := by decide +kernel
theorem dJ7_fill_53178_14 : decode cJ7_fill_53178 14 = .ok (.iinc 2 1, 3) := by decide +kernel
theorem dJ7_fill_53178_17 : decode cJ7_fill_53178 17 = .ok (.goto (-12), 3) := by decide +kernel
theorem dJ7_fill_53178_20 : decode cJ7_fill_53178 20 = .ok (.return_, 1) := by decide +kernel
theorem dJ3_checkIndex_8e157_0 : decode cJ3_checkIndex_8e157 0 = .ok (.iload_n 0, 1) := by decide +kernel
theorem dJ3_checkIndex_8e157_1 : decode cJ3_checkIndex_8e157 1 = .ok (.ifCond .lt 8, 3) := by decide +kernel
theorem dJ3_checkIndex_8e157_4 : decode cJ3_checkIndex_8e157 4 = .ok (.iload_n 0, 1) := by decide +kernel
theorem dJ3_checkIndex_8e157_5 : decode cJ3_checkIndex_8e157 5 = .ok (.iload_n 1, 1) := by decide +kernel
theorem dJ3_checkIndex_8e157_6 : decode cJ3_checkIndex_8e157 6 = .ok (.if_icmp .lt 10, 3) := by decide +kernel
theorem dJ3_checkIndex_8e157_9 : decode cJ3_checkIndex_8e157 9 = .ok (.aload_n 2, 1) := by decide +kernel
theorem dJ3_checkIndex_8e157_10 : decode cJ3_checkIndex_8e157 10 = .ok (.iload_n 0, 1) := by decide +kernel
theorem dJ3_checkIndex_8e157_11 : decode cJ3_checkIndex_8e157 11 = .ok (.iload_n 1, 1) := by decide +kernel
theorem dJ3_checkIndex_8e157_12 : decode cJ3_checkIndex_8e157 12 = .ok (.invokestatic 95, 3) := by decide +kernel
theorem dJ3_checkIndex_8e157_15 : decode cJ3_checkIndex_8e157 15 = .ok (.athrow, 1) := by decide +kernel
theorem dJ3_checkIndex_8e157_16 : decode cJ3_checkIndex_8e157 16 = .ok (.iload_n 0, 1) := by decide +kernel
theorem dJ3_checkIndex_8e157_17 : decode cJ3_checkIndex_8e157 17 = .ok (.ireturn, 1) := by decide +kernel
