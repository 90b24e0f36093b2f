theorem dX4_lose_21 : decode cX4_lose 21 = .ok (.ifCond .ne 9, 3) := by decide +kernel
theorem dX4_lose_24 : decode cX4_lose 24 = .ok (.aload_n 0, 1) := by decide +kernel
theorem dX4_lose_25 : decode cX4_lose 25 = .ok (.iconst 0, 1) := by decide +kernel
theorem dX4_lose_26 : decode cX4_lose 26 = .ok (.invokevirtual 88, 3) := by decide +kernel
theorem dX4_lose_29 : decode cX4_lose 29 = .ok (.ireturn, 1) := by decide +kernel
theorem dX4_lose_30 : decode cX4_lose 30 = .ok (.aload_n 0, 1) := by decide +kernel
theorem dX4_lose_31 : decode cX4_lose 31 = .ok (.getfield 15, 3) := by decide +kernel
theorem dX4_lose_34 : decode cX4_lose 34 = .ok (.bipush 13, 2) := by decide +kernel
theorem dX4_lose_36 : decode cX4_lose 36 = .ok (.iload_n 1, 1) := by decide +kernel
theorem dX4_lose_37 : decode cX4_lose 37 = .ok (.iadd, 1) := by decide +kernel
theorem dX4_lose_38 : decode cX4_lose 38 = .ok (.iaload, 1) := by decide +kernel
theorem dX4_lose_39 : decode cX4_lose 39 = .ok (.istore_n 3, 1) := by decide +kernel
theorem dX4_lose_40 : decode cX4_lose 40 = .ok (.aload_n 0, 1) := by decide +kernel
theorem dX4_lose_41 : decode cX4_lose 41 = .ok (.getfield 15, 3) := by decide +kernel
theorem dX4_lose_44 : decode cX4_lose 44 = .ok (.bipush 13, 2) := by decide +kernel
theorem dX4_lose_46 : decode cX4_lose 46 = .ok (.iload_n 1, 1) := by decide +kernel
theorem dX4_lose_47 : decode cX4_lose 47 = .ok (.iadd, 1) := by decide +kernel
theorem dX4_lose_48 : decode cX4_lose 48 = .ok (.iload_n 2, 1) := by decide +kernel
theorem dX4_lose_49 : decode cX4_lose 49 = .ok (.iastore, 1) := by decide +kernel
theorem dX4_lose_50 : decode cX4_lose 50 = .ok (.iload_n 3, 1) := by decide +kernel
theorem dX4_lose_51 : decode cX4_lose 51 = .ok (.ireturn, 1) := by decide +kernel
theorem dX4_elsewhere_0 : decode cX4_elsewhere 0 = .ok (.aload_n 0, 1) := by decide +kernel
theorem dX4_elsewhere_1 : decode cX4_elsewhere 1 = .ok (.getfield 15, 3) := by decide +kernel
theorem dX4_elsewhere_4 : decode cX4_elsewhere 4 = .ok (.sipush 243, 3) := by decide +kernel
theorem dX4_elsewhere_7 : decode cX4_elsewhere 7 = .ok (.bipush 10, 2) := by decide +kernel
theorem dX4_elsewhere_9 : decode cX4_elsewhere 9 = .ok (.iload_n 1, 1) := by decide +kernel
theorem dX4_elsewhere_10 : decode cX4_elsewhere 10 = .ok (.imul, 1) := by decide +kernel
theorem dX4_elsewhere_11 : decode cX4_elsewhere 11 = .ok (.iadd, 1) := by decide +kernel
theorem dX4_elsewhere_12 : decode cX4_elsewhere 12 = .ok (.iload_n 2, 1) := by decide +kernel
theorem dX4_elsewhere_13 : decode cX4_elsewhere 13 = .ok (.iadd, 1) := by decide +kernel
theorem dX4_elsewhere_14 : decode cX4_elsewhere 14 = .ok (.iaload, 1) := by decide +kernel
theorem dX4_elsewhere_15 : decode cX4_elsewhere 15 = .ok (.aload_n 0, 1) := by decide +kernel
theorem dX4_elsewhere_16 : decode cX4_elsewhere 16 = .ok (.getfield 15, 3) := by decide +kernel
theorem dX4_elsewhere_19 : decode cX4_elsewhere 19 = .ok (.sipush 443, 3) := by decide +kernel
theorem dX4_elsewhere_22 : decode cX4_elsewhere 22 = .ok (.bipush 10, 2) := by decide +kernel
theorem dX4_elsewhere_24 : decode cX4_elsewhere 24 = .ok (.iload_n 1, 1) := by decide +kernel
theorem dX4_elsewhere_25 : decode cX4_elsewhere 25 = .ok (.imul, 1) := by decide +kernel
theorem dX4_elsewhere_26 : decode cX4_elsewhere 26 = .ok (.iadd, 1) := by decide +kernel
theorem dX4_elsewhere_27 : decode cX4_elsewhere 27 = .ok (.iload_n 2, 1) := by decide +kernel
theorem dX4_elsewhere_28 : decode cX4_elsewhere 28 = .ok (.iadd, 1) := by decide +kernel
theorem dX4_elsewhere_29 : decode cX4_elsewhere 29 = .ok (.iaload, 1) := by decide +kernel
theorem dX4_elsewhere_30 : decode cX4_elsewhere 30 = .ok (.invokestatic 108, 3) := by decide +kernel
theorem dX4_elsewhere_33 : decode cX4_elsewhere 33 = .ok (.ireturn, 1) := by decide +kernel
theorem dX4_ratesBy_0 : decode cX4_ratesBy 0 = .ok (.lconst 0, 1) := by decide +kernel
theorem dX4_ratesBy_1 : decode cX4_ratesBy 1 = .ok (.lstore_n 3, 1) := by decide +kernel
theorem dX4_ratesBy_2 : decode cX4_ratesBy 2 = .ok (.iconst 0, 1) := by decide +kernel
theorem dX4_ratesBy_3 : decode cX4_ratesBy 3 = .ok (.istore 5, 2) := by decide +kernel
theorem dX4_ratesBy_5 : decode cX4_ratesBy 5 = .ok (.iload 5, 2) := by decide +kernel
theorem dX4_ratesBy_7 : decode cX4_ratesBy 7 = .ok (.bipush 20, 2) := by decide +kernel
theorem dX4_ratesBy_9 : decode cX4_ratesBy 9 = .ok (.if_icmp .ge 44, 3) := by decide +kernel
theorem dX4_ratesBy_12 : decode cX4_ratesBy 12 = .ok (.lload_n 3, 1) := by decide +kernel
theorem dX4_ratesBy_13 : decode cX4_ratesBy 13 = .ok (.aload_n 0, 1) := by decide +kernel
theorem dX4_ratesBy_14 : decode cX4_ratesBy 14 = .ok (.iload 5, 2) := by decide +kernel
theorem dX4_ratesBy_16 : decode cX4_ratesBy 16 = .ok (.iload_n 1, 1) := by decide +kernel
theorem dX4_ratesBy_17 : decode cX4_ratesBy 17 = .ok (.invokevirtual 75, 3) := by decide +kernel
theorem dX4_ratesBy_20 : decode cX4_ratesBy 20 = .ok (.ifCond .eq 24, 3) := by decide +kernel
theorem dX4_ratesBy_23 : decode cX4_ratesBy 23 = .ok (.aload_n 0, 1) := by decide +kernel
theorem dX4_ratesBy_24 : decode cX4_ratesBy 24 = .ok (.iload 5, 2) := by decide +kernel
theorem dX4_ratesBy_26 : decode cX4_ratesBy 26 = .ok (.iload_n 2, 1) := by decide +kernel
theorem dX4_ratesBy_27 : decode cX4_ratesBy 27 = .ok (.aload_n 0, 1) := by decide +kernel
theorem dX4_ratesBy_28 : decode cX4_ratesBy 28 = .ok (.iload 5, 2) := by decide +kernel
theorem dX4_ratesBy_30 : decode cX4_ratesBy 30 = .ok (.iload_n 1, 1) := by decide +kernel
theorem dX4_ratesBy_31 : decode cX4_ratesBy 31 = .ok (.invokevirtual 148, 3) := by decide +kernel
theorem dX4_ratesBy_34 : decode cX4_ratesBy 34 = .ok (.invokestatic 108, 3) := by decide +kernel
theorem dX4_ratesBy_37 : decode cX4_ratesBy 37 = .ok (.invokevirtual 151, 3) := by decide +kernel
theorem dX4_ratesBy_40 : decode cX4_ratesBy 40 = .ok (.i2l, 1) := by decide +kernel
theorem dX4_ratesBy_41 : decode cX4_ratesBy 41 = .ok (.goto 4, 3) := by decide +kernel
theorem dX4_ratesBy_44 : decode cX4_ratesBy 44 = .ok (.lconst 0, 1) := by decide +kernel
theorem dX4_ratesBy_45 : decode cX4_ratesBy 45 = .ok (.ladd, 1) := by decide +kernel
theorem dX4_ratesBy_46 : decode cX4_ratesBy 46 = .ok (.lstore_n 3, 1) := by decide +kernel
theorem dX4_ratesBy_47 : decode cX4_ratesBy 47 = .ok (.iinc 5 1, 3) := by decide +kernel
theorem dX4_ratesBy_50 : decode cX4_ratesBy 50 = .ok (.goto (-45), 3) := by decide +kernel
theorem dX4_ratesBy_53 : decode cX4_ratesBy 53 = .ok (.lload_n 3, 1) := by decide +kernel
theorem dX4_ratesBy_54 : decode cX4_ratesBy 54 = .ok (.lreturn, 1) := by decide +kernel
theorem dX4_advertises_0 : decode cX4_advertises 0 = .ok (.iconst 0, 1) := by decide +kernel
theorem dX4_advertises_1 : decode cX4_advertises 1 = .ok (.istore_n 2, 1) := by decide +kernel
theorem dX4_advertises_2 : decode cX4_advertises 2 = .ok (.ldc 154, 2) := by decide +kernel
theorem dX4_advertises_4 : decode cX4_advertises 4 = .ok (.istore_n 3, 1) := by decide +kernel
theorem dX4_advertises_5 : decode cX4_advertises 5 = .ok (.iload_n 3, 1) := by decide +kernel
theorem dX4_advertises_6 : decode cX4_advertises 6 = .ok (.iload_n 2, 1) := by decide +kernel
theorem dX4_advertises_7 : decode cX4_advertises 7 = .ok (.isub, 1) := by decide +kernel
theorem dX4_advertises_8 : decode cX4_advertises 8 = .ok (.iconst 1, 1) := by decide +kernel
theorem dX4_advertises_9 : decode cX4_advertises 9 = .ok (.if_icmp .le 42, 3) := by decide +kernel
theorem dX4_advertises_12 : decode cX4_advertises 12 = .ok (.iload_n 2, 1) := by decide +kernel
theorem dX4_advertises_13 : decode cX4_advertises 13 = .ok (.iload_n 3, 1) := by decide +kernel
theorem dX4_advertises_14 : decode cX4_advertises 14 = .ok (.iadd, 1) := by decide +kernel
theorem dX4_advertises_15 : decode cX4_advertises 15 = .ok (.iconst 2, 1) := by decide +kernel
theorem dX4_advertises_16 : decode cX4_advertises 16 = .ok (.idiv, 1) := by decide +kernel
theorem dX4_advertises_17 : decode cX4_advertises 17 = .ok (.istore 4, 2) := by decide +kernel
theorem dX4_advertises_19 : decode cX4_advertises 19 = .ok (.aload_n 0, 1) := by decide +kernel
theorem dX4_advertises_20 : decode cX4_advertises 20 = .ok (.iload_n 1, 1) := by decide +kernel
theorem dX4_advertises_21 : decode cX4_advertises 21 = .ok (.iload 4, 2) := by decide +kernel
theorem dX4_advertises_23 : decode cX4_advertises 23 = .ok (.invokevirtual 155, 3) := by decide +kernel
theorem dX4_advertises_26 : decode cX4_advertises 26 = .ok (.aload_n 0, 1) := by decide +kernel
theorem dX4_advertises_27 : decode cX4_advertises 27 = .ok (.getfield 15, 3) := by decide +kernel
theorem dX4_advertises_30 : decode cX4_advertises 30 = .ok (.iconst 3, 1) := by decide +kernel
theorem dX4_advertises_31 : decode cX4_advertises 31 = .ok (.iload_n 1, 1) := by decide +kernel
theorem dX4_advertises_32 : decode cX4_advertises 32 = .ok (.iadd, 1) := by decide +kernel
theorem dX4_advertises_33 : decode cX4_advertises 33 = .ok (.iaload, 1) := by decide +kernel
theorem dX4_advertises_34 : decode cX4_advertises 34 = .ok (.i2l, 1) := by decide +kernel
theorem dX4_advertises_35 : decode cX4_advertises 35 = .ok (.lcmp, 1) := by decide +kernel
theorem dX4_advertises_36 : decode cX4_advertises 36 = .ok (.ifCond .gt 9, 3) := by decide +kernel
theorem dX4_advertises_39 : decode cX4_advertises 39 = .ok (.iload 4, 2) := by decide +kernel
theorem dX4_advertises_41 : decode cX4_advertises 41 = .ok (.istore_n 2, 1) := by decide +kernel
theorem dX4_advertises_42 : decode cX4_advertises 42 = .ok (.goto 6, 3) := by decide +kernel
theorem dX4_advertises_45 : decode cX4_advertises 45 = .ok (.iload 4, 2) := by decide +kernel
theorem dX4_advertises_47 : decode cX4_advertises 47 = .ok (.istore_n 3, 1) := by decide +kernel
theorem dX4_advertises_48 : decode cX4_advertises 48 = .ok (.goto (-43), 3) := by decide +kernel
theorem dX4_advertises_51 : decode cX4_advertises 51 = .ok (.iload_n 2, 1) := by decide +kernel
theorem dX4_advertises_52 : decode cX4_advertises 52 = .ok (.ireturn, 1) := by decide +kernel
theorem dX4_forth_0 : decode cX4_forth 0 = .ok (.aload_n 0, 1) := by decide +kernel
theorem dX4_forth_1 : decode cX4_forth 1 = .ok (.getfield 15, 3) := by decide +kernel
theorem dX4_forth_4 : decode cX4_forth 4 = .ok (.sipush 243, 3) := by decide +kernel
theorem dX4_forth_7 : decode cX4_forth 7 = .ok (.bipush 10, 2) := by decide +kernel
theorem dX4_forth_9 : decode cX4_forth 9 = .ok (.iload_n 1, 1) := by decide +kernel
theorem dX4_forth_10 : decode cX4_forth 10 = .ok (.imul, 1) := by decide +kernel
theorem dX4_forth_11 : decode cX4_forth 11 = .ok (.iadd, 1) := by decide +kernel
theorem dX4_forth_12 : decode cX4_forth 12 = .ok (.iload_n 2, 1) := by decide +kernel
theorem dX4_forth_13 : decode cX4_forth 13 = .ok (.iadd, 1) := by decide +kernel
theorem dX4_forth_14 : decode cX4_forth 14 = .ok (.iload_n 3, 1) := by decide +kernel
theorem dX4_forth_15 : decode cX4_forth 15 = .ok (.iastore, 1) := by decide +kernel
theorem dX4_forth_16 : decode cX4_forth 16 = .ok (.aload_n 0, 1) := by decide +kernel
theorem dX4_forth_17 : decode cX4_forth 17 = .ok (.getfield 15, 3) := by decide +kernel
theorem dX4_forth_20 : decode cX4_forth 20 = .ok (.bipush 13, 2) := by decide +kernel
theorem dX4_forth_22 : decode cX4_forth 22 = .ok (.iload_n 2, 1) := by decide +kernel
theorem dX4_forth_23 : decode cX4_forth 23 = .ok (.iadd, 1) := by decide +kernel
theorem dX4_forth_24 : decode cX4_forth 24 = .ok (.iaload, 1) := by decide +kernel
theorem dX4_forth_25 : decode cX4_forth 25 = .ok (.ifCond .le 28, 3) := by decide +kernel
theorem dX4_forth_28 : decode cX4_forth 28 = .ok (.aload_n 0, 1) := by decide +kernel
theorem dX4_forth_29 : decode cX4_forth 29 = .ok (.getfield 15, 3) := by decide +kernel
theorem dX4_forth_32 : decode cX4_forth 32 = .ok (.bipush 13, 2) := by decide +kernel
theorem dX4_forth_34 : decode cX4_forth 34 = .ok (.iload_n 2, 1) := by decide +kernel
theorem dX4_forth_35 : decode cX4_forth 35 = .ok (.iadd, 1) := by decide +kernel
theorem dX4_forth_36 : decode cX4_forth 36 = .ok (.dup2, 1) := by decide +kernel
theorem dX4_forth_37 : decode cX4_forth 37 = .ok (.iaload, 1) := by decide +kernel
theorem dX4_forth_38 : decode cX4_forth 38 = .ok (.iconst 1, 1) := by decide +kernel
theorem dX4_forth_39 : decode cX4_forth 39 = .ok (.isub, 1) := by decide +kernel
theorem dX4_forth_40 : decode cX4_forth 40 = .ok (.iastore, 1) := by decide +kernel
theorem dX4_forth_41 : decode cX4_forth 41 = .ok (.aload_n 0, 1) := by decide +kernel
theorem dX4_forth_42 : decode cX4_forth 42 = .ok (.getfield 15, 3) := by decide +kernel
theorem dX4_forth_45 : decode cX4_forth 45 = .ok (.iconst 2, 1) := by decide +kernel
theorem dX4_forth_46 : decode cX4_forth 46 = .ok (.dup2, 1) := by decide +kernel
theorem dX4_forth_47 : decode cX4_forth 47 = .ok (.iaload, 1) := by decide +kernel
theorem dX4_forth_48 : decode cX4_forth 48 = .ok (.iconst 1, 1) := by decide +kernel
theorem dX4_forth_49 : decode cX4_forth 49 = .ok (.iadd, 1) := by decide +kernel
theorem dX4_forth_50 : decode cX4_forth 50 = .ok (.iastore, 1) := by decide +kernel
theorem dX4_forth_51 : decode cX4_forth 51 = .ok (.iconst (-1), 1) := by decide +kernel
theorem dX4_forth_52 : decode cX4_forth 52 = .ok (.ireturn, 1) := by decide +kernel
theorem dX4_forth_53 : decode cX4_forth 53 = .ok (.iload_n 3, 1) := by decide +kernel
theorem dX4_forth_54 : decode cX4_forth 54 = .ok (.aload_n 0, 1) := by decide +kernel
theorem dX4_forth_55 : decode cX4_forth 55 = .ok (.iload_n 2, 1) := by decide +kernel
theorem dX4_forth_56 : decode cX4_forth 56 = .ok (.invokevirtual 159, 3) := by decide +kernel
theorem dX4_forth_59 : decode cX4_forth 59 = .ok (.invokestatic 108, 3) := by decide +kernel
theorem dX4_forth_62 : decode cX4_forth 62 = .ok (.ireturn, 1) := by decide +kernel
theorem dX4_backTo_0 : decode cX4_backTo 0 = .ok (.aload_n 0, 1) := by decide +kernel
theorem dX4_backTo_1 : decode cX4_backTo 1 = .ok (.getfield 15, 3) := by decide +kernel
theorem dX4_backTo_4 : decode cX4_backTo 4 = .ok (.sipush 443, 3) := by decide +kernel
theorem dX4_backTo_7 : decode cX4_backTo 7 = .ok (.bipush 10, 2) := by decide +kernel
theorem dX4_backTo_9 : decode cX4_backTo 9 = .ok (.iload_n 1, 1) := by decide +kernel
theorem dX4_backTo_10 : decode cX4_backTo 10 = .ok (.imul, 1) := by decide +kernel
theorem dX4_backTo_11 : decode cX4_backTo 11 = .ok (.iadd, 1) := by decide +kernel
theorem dX4_backTo_12 : decode cX4_backTo 12 = .ok (.iload_n 2, 1) := by decide +kernel
theorem dX4_backTo_13 : decode cX4_backTo 13 = .ok (.iadd, 1) := by decide +kernel
theorem dX4_backTo_14 : decode cX4_backTo 14 = .ok (.iload_n 3, 1) := by decide +kernel
theorem dX4_backTo_15 : decode cX4_backTo 15 = .ok (.iastore, 1) := by decide +kernel
theorem dX4_backTo_16 : decode cX4_backTo 16 = .ok (.iload_n 3, 1) := by decide +kernel
theorem dX4_backTo_17 : decode cX4_backTo 17 = .ok (.aload_n 0, 1) := by decide +kernel
theorem dX4_backTo_18 : decode cX4_backTo 18 = .ok (.iload_n 2, 1) := by decide +kernel
theorem dX4_backTo_19 : decode cX4_backTo 19 = .ok (.invokevirtual 159, 3) := by decide +kernel
theorem dX4_backTo_22 : decode cX4_backTo 22 = .ok (.invokestatic 108, 3) := by decide +kernel
theorem dX4_backTo_25 : decode cX4_backTo 25 = .ok (.ireturn, 1) := by decide +kernel
theorem dX4_sends_0 : decode cX4_sends 0 = .ok (.aload_n 0, 1) := by decide +kernel
theorem dX4_sends_1 : decode cX4_sends 1 = .ok (.getfield 15, 3) := by decide +kernel
theorem dX4_sends_4 : decode cX4_sends 4 = .ok (.iconst 0, 1) := by decide +kernel
theorem dX4_sends_5 : decode cX4_sends 5 = .ok (.dup2, 1) := by decide +kernel
theorem dX4_sends_6 : decode cX4_sends 6 = .ok (.iaload, 1) := by decide +kernel
theorem dX4_sends_7 : decode cX4_sends 7 = .ok (.iconst 1, 1) := by decide +kernel
theorem dX4_sends_8 : decode cX4_sends 8 = .ok (.iadd, 1) := by decide +kernel
theorem dX4_sends_9 : decode cX4_sends 9 = .ok (.iastore, 1) := by decide +kernel
theorem dX4_sends_10 : decode cX4_sends 10 = .ok (.aload_n 0, 1) := by decide +kernel
theorem dX4_sends_11 : decode cX4_sends 11 = .ok (.iload_n 1, 1) := by decide +kernel
theorem dX4_sends_12 : decode cX4_sends 12 = .ok (.invokevirtual 162, 3) := by decide +kernel
theorem dX4_sends_15 : decode cX4_sends 15 = .ok (.istore_n 2, 1) := by decide +kernel
theorem dX4_sends_16 : decode cX4_sends 16 = .ok (.iconst 0, 1) := by decide +kernel
theorem dX4_sends_17 : decode cX4_sends 17 = .ok (.istore_n 3, 1) := by decide +kernel
theorem dX4_sends_18 : decode cX4_sends 18 = .ok (.iload_n 3, 1) := by decide +kernel
theorem dX4_sends_19 : decode cX4_sends 19 = .ok (.bipush 10, 2) := by decide +kernel
theorem dX4_sends_21 : decode cX4_sends 21 = .ok (.if_icmp .ge 32, 3) := by decide +kernel
theorem dX4_sends_24 : decode cX4_sends 24 = .ok (.aload_n 0, 1) := by decide +kernel
theorem dX4_sends_25 : decode cX4_sends 25 = .ok (.iload_n 1, 1) := by decide +kernel
theorem dX4_sends_26 : decode cX4_sends 26 = .ok (.iload_n 3, 1) := by decide +kernel
theorem dX4_sends_27 : decode cX4_sends 27 = .ok (.invokevirtual 75, 3) := by decide +kernel
theorem dX4_sends_30 : decode cX4_sends 30 = .ok (.ifCond .eq 17, 3) := by decide +kernel
theorem dX4_sends_33 : decode cX4_sends 33 = .ok (.aload_n 0, 1) := by decide +kernel
theorem dX4_sends_34 : decode cX4_sends 34 = .ok (.iload_n 1, 1) := by decide +kernel
theorem dX4_sends_35 : decode cX4_sends 35 = .ok (.iload_n 3, 1) := by decide +kernel
theorem dX4_sends_36 : decode cX4_sends 36 = .ok (.iload_n 2, 1) := by decide +kernel
theorem dX4_sends_37 : decode cX4_sends 37 = .ok (.invokevirtual 165, 3) := by decide +kernel
theorem dX4_sends_40 : decode cX4_sends 40 = .ok (.istore_n 2, 1) := by decide +kernel
theorem dX4_sends_41 : decode cX4_sends 41 = .ok (.iload_n 2, 1) := by decide +kernel
theorem dX4_sends_42 : decode cX4_sends 42 = .ok (.iconst (-1), 1) := by decide +kernel
theorem dX4_sends_43 : decode cX4_sends 43 = .ok (.if_icmp .ne 4, 3) := by decide +kernel
theorem dX4_sends_46 : decode cX4_sends 46 = .ok (.return_, 1) := by decide +kernel
theorem dX4_sends_47 : decode cX4_sends 47 = .ok (.iinc 3 1, 3) := by decide +kernel
theorem dX4_sends_50 : decode cX4_sends 50 = .ok (.goto (-32), 3) := by decide +kernel
theorem dX4_sends_53 : decode cX4_sends 53 = .ok (.aload_n 0, 1) := by decide +kernel
theorem dX4_sends_54 : decode cX4_sends 54 = .ok (.getfield 15, 3) := by decide +kernel
theorem dX4_sends_57 : decode cX4_sends 57 = .ok (.iload_n 1, 1) := by decide +kernel
theorem dX4_sends_58 : decode cX4_sends 58 = .ok (.invokestatic 71, 3) := by decide +kernel
theorem dX4_sends_61 : decode cX4_sends 61 = .ok (.bipush 7, 2) := by decide +kernel
theorem dX4_sends_63 : decode cX4_sends 63 = .ok (.iadd, 1) := by decide +kernel
theorem dX4_sends_64 : decode cX4_sends 64 = .ok (.iload_n 2, 1) := by decide +kernel
theorem dX4_sends_65 : decode cX4_sends 65 = .ok (.iastore, 1) := by decide +kernel
theorem dX4_sends_66 : decode cX4_sends 66 = .ok (.ldc 93, 2) := by decide +kernel
theorem dX4_sends_68 : decode cX4_sends 68 = .ok (.istore_n 2, 1) := by decide +kernel
theorem dX4_sends_69 : decode cX4_sends 69 = .ok (.bipush 9, 2) := by decide +kernel
theorem dX4_sends_71 : decode cX4_sends 71 = .ok (.istore_n 3, 1) := by decide +kernel
theorem dX4_sends_72 : decode cX4_sends 72 = .ok (.iload_n 3, 1) := by decide +kernel
theorem dX4_sends_73 : decode cX4_sends 73 = .ok (.ifCond .lt 26, 3) := by decide +kernel
theorem dX4_sends_76 : decode cX4_sends 76 = .ok (.aload_n 0, 1) := by decide +kernel
theorem dX4_sends_77 : decode cX4_sends 77 = .ok (.iload_n 1, 1) := by decide +kernel
theorem dX4_sends_78 : decode cX4_sends 78 = .ok (.iload_n 3, 1) := by decide +kernel
theorem dX4_sends_79 : decode cX4_sends 79 = .ok (.invokevirtual 75, 3) := by decide +kernel
theorem dX4_sends_82 : decode cX4_sends 82 = .ok (.ifCond .eq 11, 3) := by decide +kernel
theorem dX4_sends_85 : decode cX4_sends 85 = .ok (.aload_n 0, 1) := by decide +kernel
theorem dX4_sends_86 : decode cX4_sends 86 = .ok (.iload_n 1, 1) := by decide +kernel
theorem dX4_sends_87 : decode cX4_sends 87 = .ok (.iload_n 3, 1) := by decide +kernel
theorem dX4_sends_88 : decode cX4_sends 88 = .ok (.iload_n 2, 1) := by decide +kernel
theorem dX4_sends_89 : decode cX4_sends 89 = .ok (.invokevirtual 169, 3) := by decide +kernel
theorem dX4_sends_92 : decode cX4_sends 92 = .ok (.istore_n 2, 1) := by decide +kernel
theorem dX4_sends_93 : decode cX4_sends 93 = .ok (.iinc 3 (-1), 3) := by decide +kernel
theorem dX4_sends_96 : decode cX4_sends 96 = .ok (.goto (-24), 3) := by decide +kernel
theorem dX4_sends_99 : decode cX4_sends 99 = .ok (.return_, 1) := by decide +kernel
theorem dX4_letter_0 : decode cX4_letter 0 = .ok (.aload_n 0, 1) := by decide +kernel
theorem dX4_letter_1 : decode cX4_letter 1 = .ok (.iconst 0, 1) := by decide +kernel
theorem dX4_letter_2 : decode cX4_letter 2 = .ok (.putfield 55, 3) := by decide +kernel
theorem dX4_letter_5 : decode cX4_letter 5 = .ok (.aload_n 0, 1) := by decide +kernel
theorem dX4_letter_6 : decode cX4_letter 6 = .ok (.iload_n 1, 1) := by decide +kernel
theorem dX4_letter_7 : decode cX4_letter 7 = .ok (.invokevirtual 125, 3) := by decide +kernel
theorem dX4_letter_10 : decode cX4_letter 10 = .ok (.ifCond .ne 9, 3) := by decide +kernel
theorem dX4_letter_13 : decode cX4_letter 13 = .ok (.aload_n 0, 1) := by decide +kernel
theorem dX4_letter_14 : decode cX4_letter 14 = .ok (.iconst 1, 1) := by decide +kernel
theorem dX4_letter_15 : decode cX4_letter 15 = .ok (.invokevirtual 88, 3) := by decide +kernel
theorem dX4_letter_18 : decode cX4_letter 18 = .ok (.ireturn, 1) := by decide +kernel
theorem dX4_letter_19 : decode cX4_letter 19 = .ok (.aload_n 0, 1) := by decide +kernel
theorem dX4_letter_20 : decode cX4_letter 20 = .ok (.iload_n 1, 1) := by decide +kernel
theorem dX4_letter_21 : decode cX4_letter 21 = .ok (.invokevirtual 172, 3) := by decide +kernel
theorem dX4_letter_24 : decode cX4_letter 24 = .ok (.aload_n 0, 1) := by decide +kernel
theorem dX4_letter_25 : decode cX4_letter 25 = .ok (.getfield 15, 3) := by decide +kernel
theorem dX4_letter_28 : decode cX4_letter 28 = .ok (.iload_n 1, 1) := by decide +kernel
theorem dX4_letter_29 : decode cX4_letter 29 = .ok (.invokestatic 71, 3) := by decide +kernel
theorem dX4_letter_32 : decode cX4_letter 32 = .ok (.bipush 7, 2) := by decide +kernel
theorem dX4_letter_34 : decode cX4_letter 34 = .ok (.iadd, 1) := by decide +kernel
theorem dX4_letter_35 : decode cX4_letter 35 = .ok (.iaload, 1) := by decide +kernel
theorem dX4_letter_36 : decode cX4_letter 36 = .ok (.ireturn, 1) := by decide +kernel
theorem dX4_nextLink_0 : decode cX4_nextLink 0 = .ok (.iload_n 2, 1) := by decide +kernel
theorem dX4_nextLink_1 : decode cX4_nextLink 1 = .ok (.iload_n 3, 1) := by decide +kernel
theorem dX4_nextLink_2 : decode cX4_nextLink 2 = .ok (.iadd, 1) := by decide +kernel
theorem dX4_nextLink_3 : decode cX4_nextLink 3 = .ok (.istore 4, 2) := by decide +kernel
theorem dX4_nextLink_5 : decode cX4_nextLink 5 = .ok (.iload 4, 2) := by decide +kernel
theorem dX4_nextLink_7 : decode cX4_nextLink 7 = .ok (.invokestatic 82, 3) := by decide +kernel
theorem dX4_nextLink_10 : decode cX4_nextLink 10 = .ok (.ifCond .eq 22, 3) := by decide +kernel
theorem dX4_nextLink_13 : decode cX4_nextLink 13 = .ok (.aload_n 0, 1) := by decide +kernel
theorem dX4_nextLink_14 : decode cX4_nextLink 14 = .ok (.iload_n 1, 1) := by decide +kernel
theorem dX4_nextLink_15 : decode cX4_nextLink 15 = .ok (.iload 4, 2) := by decide +kernel
theorem dX4_nextLink_17 : decode cX4_nextLink 17 = .ok (.invokevirtual 75, 3) := by decide +kernel
theorem dX4_nextLink_20 : decode cX4_nextLink 20 = .ok (.ifCond .ne 12, 3) := by decide +kernel
theorem dX4_nextLink_23 : decode cX4_nextLink 23 = .ok (.iload 4, 2) := by decide +kernel
theorem dX4_nextLink_25 : decode cX4_nextLink 25 = .ok (.iload_n 3, 1) := by decide +kernel
theorem dX4_nextLink_26 : decode cX4_nextLink 26 = .ok (.iadd, 1) := by decide +kernel
theorem dX4_nextLink_27 : decode cX4_nextLink 27 = .ok (.istore 4, 2) := by decide +kernel
theorem dX4_nextLink_29 : decode cX4_nextLink 29 = .ok (.goto (-24), 3) := by decide +kernel
theorem dX4_nextLink_32 : decode cX4_nextLink 32 = .ok (.iload 4, 2) := by decide +kernel
theorem dX4_nextLink_34 : decode cX4_nextLink 34 = .ok (.invokestatic 82, 3) := by decide +kernel
theorem dX4_nextLink_37 : decode cX4_nextLink 37 = .ok (.ifCond .eq 8, 3) := by decide +kernel
theorem dX4_nextLink_40 : decode cX4_nextLink 40 = .ok (.iload 4, 2) := by decide +kernel
theorem dX4_nextLink_42 : decode cX4_nextLink 42 = .ok (.goto 4, 3) := by decide +kernel
theorem dX4_nextLink_45 : decode cX4_nextLink 45 = .ok (.iconst (-1), 1) := by decide +kernel
theorem dX4_nextLink_46 : decode cX4_nextLink 46 = .ok (.ireturn, 1) := by decide +kernel
theorem dX4_hop_0 : decode cX4_hop 0 = .ok (.aload_n 0, 1) := by decide +kernel
theorem dX4_hop_1 : decode cX4_hop 1 = .ok (.iconst 0, 1) := by decide +kernel
theorem dX4_hop_2 : decode cX4_hop 2 = .ok (.putfield 55, 3) := by decide +kernel
theorem dX4_hop_5 : decode cX4_hop 5 = .ok (.aload_n 0, 1) := by decide +kernel
theorem dX4_hop_6 : decode cX4_hop 6 = .ok (.iload_n 1, 1) := by decide +kernel
theorem dX4_hop_7 : decode cX4_hop 7 = .ok (.invokevirtual 125, 3) := by decide +kernel
theorem dX4_hop_10 : decode cX4_hop 10 = .ok (.ifCond .ne 9, 3) := by decide +kernel
theorem dX4_hop_13 : decode cX4_hop 13 = .ok (.aload_n 0, 1) := by decide +kernel
theorem dX4_hop_14 : decode cX4_hop 14 = .ok (.iconst 1, 1) := by decide +kernel
theorem dX4_hop_15 : decode cX4_hop 15 = .ok (.invokevirtual 88, 3) := by decide +kernel
theorem dX4_hop_18 : decode cX4_hop 18 = .ok (.ireturn, 1) := by decide +kernel
theorem dX4_hop_19 : decode cX4_hop 19 = .ok (.iload_n 1, 1) := by decide +kernel
theorem dX4_hop_20 : decode cX4_hop 20 = .ok (.invokestatic 71, 3) := by decide +kernel
theorem dX4_hop_23 : decode cX4_hop 23 = .ok (.istore_n 2, 1) := by decide +kernel
theorem dX4_hop_24 : decode cX4_hop 24 = .ok (.aload_n 0, 1) := by decide +kernel
theorem dX4_hop_25 : decode cX4_hop 25 = .ok (.getfield 15, 3) := by decide +kernel
theorem dX4_hop_28 : decode cX4_hop 28 = .ok (.iload_n 2, 1) := by decide +kernel
theorem dX4_hop_29 : decode cX4_hop 29 = .ok (.bipush 8, 2) := by decide +kernel
theorem dX4_hop_31 : decode cX4_hop 31 = .ok (.iadd, 1) := by decide +kernel
theorem dX4_hop_32 : decode cX4_hop 32 = .ok (.iaload, 1) := by decide +kernel
theorem dX4_hop_33 : decode cX4_hop 33 = .ok (.ifCond .ne 53, 3) := by decide +kernel
