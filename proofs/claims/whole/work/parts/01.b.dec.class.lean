theorem dX0_init_0 : decode cX0_init 0 = .ok (.aload_n 0, 1) := by decide +kernel
theorem dX0_init_1 : decode cX0_init 1 = .ok (.iload_n 1, 1) := by decide +kernel
theorem dX0_init_2 : decode cX0_init 2 = .ok (.iload_n 2, 1) := by decide +kernel
theorem dX0_init_3 : decode cX0_init 3 = .ok (.invokespecial 3, 3) := by decide +kernel
theorem dX0_init_6 : decode cX0_init 6 = .ok (.return_, 1) := by decide +kernel
theorem dX0_kindNumber_0 : decode cX0_kindNumber 0 = .ok (.bipush 6, 2) := by decide +kernel
theorem dX0_kindNumber_2 : decode cX0_kindNumber 2 = .ok (.ireturn, 1) := by decide +kernel
theorem dX0_isUnder_0 : decode cX0_isUnder 0 = .ok (.iload_n 1, 1) := by decide +kernel
theorem dX0_isUnder_1 : decode cX0_isUnder 1 = .ok (.bipush 6, 2) := by decide +kernel
theorem dX0_isUnder_3 : decode cX0_isUnder 3 = .ok (.if_icmp .eq 11, 3) := by decide +kernel
theorem dX0_isUnder_6 : decode cX0_isUnder 6 = .ok (.aload_n 0, 1) := by decide +kernel
theorem dX0_isUnder_7 : decode cX0_isUnder 7 = .ok (.iload_n 1, 1) := by decide +kernel
theorem dX0_isUnder_8 : decode cX0_isUnder 8 = .ok (.invokespecial 9, 3) := by decide +kernel
theorem dX0_isUnder_11 : decode cX0_isUnder 11 = .ok (.ifCond .eq 7, 3) := by decide +kernel
theorem dX0_isUnder_14 : decode cX0_isUnder 14 = .ok (.iconst 1, 1) := by decide +kernel
theorem dX0_isUnder_15 : decode cX0_isUnder 15 = .ok (.goto 4, 3) := by decide +kernel
theorem dX0_isUnder_18 : decode cX0_isUnder 18 = .ok (.iconst 0, 1) := by decide +kernel
theorem dX0_isUnder_19 : decode cX0_isUnder 19 = .ok (.ireturn, 1) := by decide +kernel
theorem dX0_reckon_0 : decode cX0_reckon 0 = .ok (.lload_n 1, 1) := by decide +kernel
theorem dX0_reckon_1 : decode cX0_reckon 1 = .ok (.aload_n 3, 1) := by decide +kernel
theorem dX0_reckon_2 : decode cX0_reckon 2 = .ok (.getfield 13, 3) := by decide +kernel
theorem dX0_reckon_5 : decode cX0_reckon 5 = .ok (.iconst 3, 1) := by decide +kernel
theorem dX0_reckon_6 : decode cX0_reckon 6 = .ok (.invokestatic 19, 3) := by decide +kernel
theorem dX0_reckon_9 : decode cX0_reckon 9 = .ok (.lreturn, 1) := by decide +kernel
theorem dX0_turns_0 : decode cX0_turns 0 = .ok (.aload_n 2, 1) := by decide +kernel
theorem dX0_turns_1 : decode cX0_turns 1 = .ok (.iconst 0, 1) := by decide +kernel
theorem dX0_turns_2 : decode cX0_turns 2 = .ok (.dup2, 1) := by decide +kernel
theorem dX0_turns_3 : decode cX0_turns 3 = .ok (.iaload, 1) := by decide +kernel
theorem dX0_turns_4 : decode cX0_turns 4 = .ok (.iconst 1, 1) := by decide +kernel
theorem dX0_turns_5 : decode cX0_turns 5 = .ok (.iadd, 1) := by decide +kernel
theorem dX0_turns_6 : decode cX0_turns 6 = .ok (.dup_x2, 1) := by decide +kernel
theorem dX0_turns_7 : decode cX0_turns 7 = .ok (.iastore, 1) := by decide +kernel
theorem dX0_turns_8 : decode cX0_turns 8 = .ok (.aload_n 2, 1) := by decide +kernel
theorem dX0_turns_9 : decode cX0_turns 9 = .ok (.arraylength, 1) := by decide +kernel
theorem dX0_turns_10 : decode cX0_turns 10 = .ok (.if_icmp .ge 10, 3) := by decide +kernel
theorem dX0_turns_13 : decode cX0_turns 13 = .ok (.aload_n 2, 1) := by decide +kernel
theorem dX0_turns_14 : decode cX0_turns 14 = .ok (.aload_n 2, 1) := by decide +kernel
theorem dX0_turns_15 : decode cX0_turns 15 = .ok (.iconst 0, 1) := by decide +kernel
theorem dX0_turns_16 : decode cX0_turns 16 = .ok (.iaload, 1) := by decide +kernel
theorem dX0_turns_17 : decode cX0_turns 17 = .ok (.bipush 70, 2) := by decide +kernel
theorem dX0_turns_19 : decode cX0_turns 19 = .ok (.iastore, 1) := by decide +kernel
theorem dX0_turns_20 : decode cX0_turns 20 = .ok (.aload_n 0, 1) := by decide +kernel
theorem dX0_turns_21 : decode cX0_turns 21 = .ok (.iload_n 1, 1) := by decide +kernel
theorem dX0_turns_22 : decode cX0_turns 22 = .ok (.aload_n 2, 1) := by decide +kernel
theorem dX0_turns_23 : decode cX0_turns 23 = .ok (.invokespecial 25, 3) := by decide +kernel
theorem dX0_turns_26 : decode cX0_turns 26 = .ok (.iconst 2, 1) := by decide +kernel
theorem dX0_turns_27 : decode cX0_turns 27 = .ok (.imul, 1) := by decide +kernel
theorem dX0_turns_28 : decode cX0_turns 28 = .ok (.ireturn, 1) := by decide +kernel
theorem dX0_adds_0 : decode cX0_adds 0 = .ok (.aload_n 2, 1) := by decide +kernel
theorem dX0_adds_1 : decode cX0_adds 1 = .ok (.iconst 0, 1) := by decide +kernel
theorem dX0_adds_2 : decode cX0_adds 2 = .ok (.dup2, 1) := by decide +kernel
theorem dX0_adds_3 : decode cX0_adds 3 = .ok (.iaload, 1) := by decide +kernel
theorem dX0_adds_4 : decode cX0_adds 4 = .ok (.iconst 1, 1) := by decide +kernel
theorem dX0_adds_5 : decode cX0_adds 5 = .ok (.iadd, 1) := by decide +kernel
theorem dX0_adds_6 : decode cX0_adds 6 = .ok (.dup_x2, 1) := by decide +kernel
theorem dX0_adds_7 : decode cX0_adds 7 = .ok (.iastore, 1) := by decide +kernel
theorem dX0_adds_8 : decode cX0_adds 8 = .ok (.aload_n 2, 1) := by decide +kernel
theorem dX0_adds_9 : decode cX0_adds 9 = .ok (.arraylength, 1) := by decide +kernel
theorem dX0_adds_10 : decode cX0_adds 10 = .ok (.if_icmp .ge 10, 3) := by decide +kernel
theorem dX0_adds_13 : decode cX0_adds 13 = .ok (.aload_n 2, 1) := by decide +kernel
theorem dX0_adds_14 : decode cX0_adds 14 = .ok (.aload_n 2, 1) := by decide +kernel
theorem dX0_adds_15 : decode cX0_adds 15 = .ok (.iconst 0, 1) := by decide +kernel
theorem dX0_adds_16 : decode cX0_adds 16 = .ok (.iaload, 1) := by decide +kernel
theorem dX0_adds_17 : decode cX0_adds 17 = .ok (.bipush 71, 2) := by decide +kernel
theorem dX0_adds_19 : decode cX0_adds 19 = .ok (.iastore, 1) := by decide +kernel
theorem dX0_adds_20 : decode cX0_adds 20 = .ok (.aload_n 0, 1) := by decide +kernel
theorem dX0_adds_21 : decode cX0_adds 21 = .ok (.iload_n 1, 1) := by decide +kernel
theorem dX0_adds_22 : decode cX0_adds 22 = .ok (.aload_n 0, 1) := by decide +kernel
theorem dX0_adds_23 : decode cX0_adds 23 = .ok (.getfield 29, 3) := by decide +kernel
theorem dX0_adds_26 : decode cX0_adds 26 = .ok (.isub, 1) := by decide +kernel
theorem dX0_adds_27 : decode cX0_adds 27 = .ok (.aload_n 2, 1) := by decide +kernel
theorem dX0_adds_28 : decode cX0_adds 28 = .ok (.invokespecial 34, 3) := by decide +kernel
theorem dX0_adds_31 : decode cX0_adds 31 = .ok (.ireturn, 1) := by decide +kernel
theorem dX1_turnedOf_0 : decode cX1_turnedOf 0 = .ok (.iload_n 2, 1) := by decide +kernel
theorem dX1_turnedOf_1 : decode cX1_turnedOf 1 = .ok (.iconst 2, 1) := by decide +kernel
theorem dX1_turnedOf_2 : decode cX1_turnedOf 2 = .ok (.if_icmp .ge 5, 3) := by decide +kernel
theorem dX1_turnedOf_5 : decode cX1_turnedOf 5 = .ok (.lload_n 0, 1) := by decide +kernel
theorem dX1_turnedOf_6 : decode cX1_turnedOf 6 = .ok (.lreturn, 1) := by decide +kernel
theorem dX1_turnedOf_7 : decode cX1_turnedOf 7 = .ok (.lconst 0, 1) := by decide +kernel
theorem dX1_turnedOf_8 : decode cX1_turnedOf 8 = .ok (.lstore_n 3, 1) := by decide +kernel
theorem dX1_turnedOf_9 : decode cX1_turnedOf 9 = .ok (.lload_n 0, 1) := by decide +kernel
theorem dX1_turnedOf_10 : decode cX1_turnedOf 10 = .ok (.lstore 5, 2) := by decide +kernel
theorem dX1_turnedOf_12 : decode cX1_turnedOf 12 = .ok (.iconst 0, 1) := by decide +kernel
theorem dX1_turnedOf_13 : decode cX1_turnedOf 13 = .ok (.istore 7, 2) := by decide +kernel
theorem dX1_turnedOf_15 : decode cX1_turnedOf 15 = .ok (.iload 7, 2) := by decide +kernel
theorem dX1_turnedOf_17 : decode cX1_turnedOf 17 = .ok (.bipush 64, 2) := by decide +kernel
theorem dX1_turnedOf_19 : decode cX1_turnedOf 19 = .ok (.if_icmp .ge 34, 3) := by decide +kernel
theorem dX1_turnedOf_22 : decode cX1_turnedOf 22 = .ok (.lload 5, 2) := by decide +kernel
theorem dX1_turnedOf_24 : decode cX1_turnedOf 24 = .ok (.lconst 0, 1) := by decide +kernel
theorem dX1_turnedOf_25 : decode cX1_turnedOf 25 = .ok (.lcmp, 1) := by decide +kernel
theorem dX1_turnedOf_26 : decode cX1_turnedOf 26 = .ok (.ifCond .le 27, 3) := by decide +kernel
theorem dX1_turnedOf_29 : decode cX1_turnedOf 29 = .ok (.lload_n 3, 1) := by decide +kernel
theorem dX1_turnedOf_30 : decode cX1_turnedOf 30 = .ok (.iload_n 2, 1) := by decide +kernel
theorem dX1_turnedOf_31 : decode cX1_turnedOf 31 = .ok (.i2l, 1) := by decide +kernel
theorem dX1_turnedOf_32 : decode cX1_turnedOf 32 = .ok (.lmul, 1) := by decide +kernel
theorem dX1_turnedOf_33 : decode cX1_turnedOf 33 = .ok (.lload 5, 2) := by decide +kernel
theorem dX1_turnedOf_35 : decode cX1_turnedOf 35 = .ok (.iload_n 2, 1) := by decide +kernel
theorem dX1_turnedOf_36 : decode cX1_turnedOf 36 = .ok (.i2l, 1) := by decide +kernel
theorem dX1_turnedOf_37 : decode cX1_turnedOf 37 = .ok (.lrem, 1) := by decide +kernel
theorem dX1_turnedOf_38 : decode cX1_turnedOf 38 = .ok (.ladd, 1) := by decide +kernel
theorem dX1_turnedOf_39 : decode cX1_turnedOf 39 = .ok (.lstore_n 3, 1) := by decide +kernel
theorem dX1_turnedOf_40 : decode cX1_turnedOf 40 = .ok (.lload 5, 2) := by decide +kernel
theorem dX1_turnedOf_42 : decode cX1_turnedOf 42 = .ok (.iload_n 2, 1) := by decide +kernel
theorem dX1_turnedOf_43 : decode cX1_turnedOf 43 = .ok (.i2l, 1) := by decide +kernel
theorem dX1_turnedOf_44 : decode cX1_turnedOf 44 = .ok (.ldiv, 1) := by decide +kernel
theorem dX1_turnedOf_45 : decode cX1_turnedOf 45 = .ok (.lstore 5, 2) := by decide +kernel
theorem dX1_turnedOf_47 : decode cX1_turnedOf 47 = .ok (.iinc 7 1, 3) := by decide +kernel
theorem dX1_turnedOf_50 : decode cX1_turnedOf 50 = .ok (.goto (-35), 3) := by decide +kernel
theorem dX1_turnedOf_53 : decode cX1_turnedOf 53 = .ok (.lload_n 3, 1) := by decide +kernel
theorem dX1_turnedOf_54 : decode cX1_turnedOf 54 = .ok (.lreturn, 1) := by decide +kernel
theorem dX1_howMany_0 : decode cX1_howMany 0 = .ok (.iload_n 2, 1) := by decide +kernel
theorem dX1_howMany_1 : decode cX1_howMany 1 = .ok (.iconst 2, 1) := by decide +kernel
theorem dX1_howMany_2 : decode cX1_howMany 2 = .ok (.if_icmp .ge 5, 3) := by decide +kernel
theorem dX1_howMany_5 : decode cX1_howMany 5 = .ok (.iconst 1, 1) := by decide +kernel
theorem dX1_howMany_6 : decode cX1_howMany 6 = .ok (.ireturn, 1) := by decide +kernel
theorem dX1_howMany_7 : decode cX1_howMany 7 = .ok (.iconst 1, 1) := by decide +kernel
theorem dX1_howMany_8 : decode cX1_howMany 8 = .ok (.istore_n 3, 1) := by decide +kernel
theorem dX1_howMany_9 : decode cX1_howMany 9 = .ok (.lload_n 0, 1) := by decide +kernel
theorem dX1_howMany_10 : decode cX1_howMany 10 = .ok (.iload_n 2, 1) := by decide +kernel
theorem dX1_howMany_11 : decode cX1_howMany 11 = .ok (.i2l, 1) := by decide +kernel
theorem dX1_howMany_12 : decode cX1_howMany 12 = .ok (.ldiv, 1) := by decide +kernel
theorem dX1_howMany_13 : decode cX1_howMany 13 = .ok (.lstore 4, 2) := by decide +kernel
theorem dX1_howMany_15 : decode cX1_howMany 15 = .ok (.iload_n 3, 1) := by decide +kernel
theorem dX1_howMany_16 : decode cX1_howMany 16 = .ok (.bipush 64, 2) := by decide +kernel
theorem dX1_howMany_18 : decode cX1_howMany 18 = .ok (.if_icmp .ge 23, 3) := by decide +kernel
theorem dX1_howMany_21 : decode cX1_howMany 21 = .ok (.lload 4, 2) := by decide +kernel
theorem dX1_howMany_23 : decode cX1_howMany 23 = .ok (.lconst 0, 1) := by decide +kernel
theorem dX1_howMany_24 : decode cX1_howMany 24 = .ok (.lcmp, 1) := by decide +kernel
theorem dX1_howMany_25 : decode cX1_howMany 25 = .ok (.ifCond .le 16, 3) := by decide +kernel
theorem dX1_howMany_28 : decode cX1_howMany 28 = .ok (.lload 4, 2) := by decide +kernel
theorem dX1_howMany_30 : decode cX1_howMany 30 = .ok (.iload_n 2, 1) := by decide +kernel
theorem dX1_howMany_31 : decode cX1_howMany 31 = .ok (.i2l, 1) := by decide +kernel
theorem dX1_howMany_32 : decode cX1_howMany 32 = .ok (.ldiv, 1) := by decide +kernel
theorem dX1_howMany_33 : decode cX1_howMany 33 = .ok (.lstore 4, 2) := by decide +kernel
theorem dX1_howMany_35 : decode cX1_howMany 35 = .ok (.iinc 3 1, 3) := by decide +kernel
theorem dX1_howMany_38 : decode cX1_howMany 38 = .ok (.goto (-23), 3) := by decide +kernel
theorem dX1_howMany_41 : decode cX1_howMany 41 = .ok (.iload_n 3, 1) := by decide +kernel
theorem dX1_howMany_42 : decode cX1_howMany 42 = .ok (.ireturn, 1) := by decide +kernel
theorem dX1_together_0 : decode cX1_together 0 = .ok (.iload_n 2, 1) := by decide +kernel
theorem dX1_together_1 : decode cX1_together 1 = .ok (.iconst 2, 1) := by decide +kernel
theorem dX1_together_2 : decode cX1_together 2 = .ok (.if_icmp .ge 5, 3) := by decide +kernel
theorem dX1_together_5 : decode cX1_together 5 = .ok (.lconst 0, 1) := by decide +kernel
theorem dX1_together_6 : decode cX1_together 6 = .ok (.lreturn, 1) := by decide +kernel
theorem dX1_together_7 : decode cX1_together 7 = .ok (.lconst 0, 1) := by decide +kernel
theorem dX1_together_8 : decode cX1_together 8 = .ok (.lstore 4, 2) := by decide +kernel
theorem dX1_together_10 : decode cX1_together 10 = .ok (.lload_n 0, 1) := by decide +kernel
theorem dX1_together_11 : decode cX1_together 11 = .ok (.lstore 6, 2) := by decide +kernel
theorem dX1_together_13 : decode cX1_together 13 = .ok (.iconst 0, 1) := by decide +kernel
theorem dX1_together_14 : decode cX1_together 14 = .ok (.istore 8, 2) := by decide +kernel
theorem dX1_together_16 : decode cX1_together 16 = .ok (.iload 8, 2) := by decide +kernel
theorem dX1_together_18 : decode cX1_together 18 = .ok (.bipush 64, 2) := by decide +kernel
theorem dX1_together_20 : decode cX1_together 20 = .ok (.if_icmp .ge 63, 3) := by decide +kernel
theorem dX1_together_23 : decode cX1_together 23 = .ok (.lload 6, 2) := by decide +kernel
theorem dX1_together_25 : decode cX1_together 25 = .ok (.lconst 0, 1) := by decide +kernel
theorem dX1_together_26 : decode cX1_together 26 = .ok (.lcmp, 1) := by decide +kernel
theorem dX1_together_27 : decode cX1_together 27 = .ok (.ifCond .le 56, 3) := by decide +kernel
theorem dX1_together_30 : decode cX1_together 30 = .ok (.lload 6, 2) := by decide +kernel
theorem dX1_together_32 : decode cX1_together 32 = .ok (.iload_n 2, 1) := by decide +kernel
theorem dX1_together_33 : decode cX1_together 33 = .ok (.i2l, 1) := by decide +kernel
theorem dX1_together_34 : decode cX1_together 34 = .ok (.lrem, 1) := by decide +kernel
theorem dX1_together_35 : decode cX1_together 35 = .ok (.lstore 9, 2) := by decide +kernel
theorem dX1_together_37 : decode cX1_together 37 = .ok (.lload 9, 2) := by decide +kernel
theorem dX1_together_39 : decode cX1_together 39 = .ok (.lstore 11, 2) := by decide +kernel
theorem dX1_together_41 : decode cX1_together 41 = .ok (.iconst 1, 1) := by decide +kernel
theorem dX1_together_42 : decode cX1_together 42 = .ok (.istore 13, 2) := by decide +kernel
theorem dX1_together_44 : decode cX1_together 44 = .ok (.iload 13, 2) := by decide +kernel
theorem dX1_together_46 : decode cX1_together 46 = .ok (.iload_n 3, 1) := by decide +kernel
theorem dX1_together_47 : decode cX1_together 47 = .ok (.if_icmp .ge 16, 3) := by decide +kernel
theorem dX1_together_50 : decode cX1_together 50 = .ok (.lload 11, 2) := by decide +kernel
theorem dX1_together_52 : decode cX1_together 52 = .ok (.lload 9, 2) := by decide +kernel
theorem dX1_together_54 : decode cX1_together 54 = .ok (.lmul, 1) := by decide +kernel
theorem dX1_together_55 : decode cX1_together 55 = .ok (.lstore 11, 2) := by decide +kernel
theorem dX1_together_57 : decode cX1_together 57 = .ok (.iinc 13 1, 3) := by decide +kernel
theorem dX1_together_60 : decode cX1_together 60 = .ok (.goto (-16), 3) := by decide +kernel
theorem dX1_together_63 : decode cX1_together 63 = .ok (.lload 4, 2) := by decide +kernel
theorem dX1_together_65 : decode cX1_together 65 = .ok (.lload 11, 2) := by decide +kernel
theorem dX1_together_67 : decode cX1_together 67 = .ok (.ladd, 1) := by decide +kernel
theorem dX1_together_68 : decode cX1_together 68 = .ok (.lstore 4, 2) := by decide +kernel
theorem dX1_together_70 : decode cX1_together 70 = .ok (.lload 6, 2) := by decide +kernel
theorem dX1_together_72 : decode cX1_together 72 = .ok (.iload_n 2, 1) := by decide +kernel
theorem dX1_together_73 : decode cX1_together 73 = .ok (.i2l, 1) := by decide +kernel
theorem dX1_together_74 : decode cX1_together 74 = .ok (.ldiv, 1) := by decide +kernel
theorem dX1_together_75 : decode cX1_together 75 = .ok (.lstore 6, 2) := by decide +kernel
theorem dX1_together_77 : decode cX1_together 77 = .ok (.iinc 8 1, 3) := by decide +kernel
theorem dX1_together_80 : decode cX1_together 80 = .ok (.goto (-64), 3) := by decide +kernel
theorem dX1_together_83 : decode cX1_together 83 = .ok (.lload 4, 2) := by decide +kernel
theorem dX1_together_85 : decode cX1_together 85 = .ok (.lreturn, 1) := by decide +kernel
theorem dX1_multiplied_0 : decode cX1_multiplied 0 = .ok (.iload_n 2, 1) := by decide +kernel
theorem dX1_multiplied_1 : decode cX1_multiplied 1 = .ok (.iconst 2, 1) := by decide +kernel
theorem dX1_multiplied_2 : decode cX1_multiplied 2 = .ok (.if_icmp .lt 9, 3) := by decide +kernel
theorem dX1_multiplied_5 : decode cX1_multiplied 5 = .ok (.lload_n 0, 1) := by decide +kernel
theorem dX1_multiplied_6 : decode cX1_multiplied 6 = .ok (.lconst 0, 1) := by decide +kernel
theorem dX1_multiplied_7 : decode cX1_multiplied 7 = .ok (.lcmp, 1) := by decide +kernel
theorem dX1_multiplied_8 : decode cX1_multiplied 8 = .ok (.ifCond .ne 5, 3) := by decide +kernel
theorem dX1_multiplied_11 : decode cX1_multiplied 11 = .ok (.lconst 0, 1) := by decide +kernel
theorem dX1_multiplied_12 : decode cX1_multiplied 12 = .ok (.lreturn, 1) := by decide +kernel
theorem dX1_multiplied_13 : decode cX1_multiplied 13 = .ok (.lconst 1, 1) := by decide +kernel
theorem dX1_multiplied_14 : decode cX1_multiplied 14 = .ok (.lstore_n 3, 1) := by decide +kernel
theorem dX1_multiplied_15 : decode cX1_multiplied 15 = .ok (.lload_n 0, 1) := by decide +kernel
theorem dX1_multiplied_16 : decode cX1_multiplied 16 = .ok (.lstore 5, 2) := by decide +kernel
theorem dX1_multiplied_18 : decode cX1_multiplied 18 = .ok (.iconst 0, 1) := by decide +kernel
theorem dX1_multiplied_19 : decode cX1_multiplied 19 = .ok (.istore 7, 2) := by decide +kernel
theorem dX1_multiplied_21 : decode cX1_multiplied 21 = .ok (.iload 7, 2) := by decide +kernel
theorem dX1_multiplied_23 : decode cX1_multiplied 23 = .ok (.bipush 64, 2) := by decide +kernel
theorem dX1_multiplied_25 : decode cX1_multiplied 25 = .ok (.if_icmp .ge 31, 3) := by decide +kernel
theorem dX1_multiplied_28 : decode cX1_multiplied 28 = .ok (.lload 5, 2) := by decide +kernel
theorem dX1_multiplied_30 : decode cX1_multiplied 30 = .ok (.lconst 0, 1) := by decide +kernel
theorem dX1_multiplied_31 : decode cX1_multiplied 31 = .ok (.lcmp, 1) := by decide +kernel
theorem dX1_multiplied_32 : decode cX1_multiplied 32 = .ok (.ifCond .le 24, 3) := by decide +kernel
theorem dX1_multiplied_35 : decode cX1_multiplied 35 = .ok (.lload_n 3, 1) := by decide +kernel
theorem dX1_multiplied_36 : decode cX1_multiplied 36 = .ok (.lload 5, 2) := by decide +kernel
theorem dX1_multiplied_38 : decode cX1_multiplied 38 = .ok (.iload_n 2, 1) := by decide +kernel
theorem dX1_multiplied_39 : decode cX1_multiplied 39 = .ok (.i2l, 1) := by decide +kernel
theorem dX1_multiplied_40 : decode cX1_multiplied 40 = .ok (.lrem, 1) := by decide +kernel
theorem dX1_multiplied_41 : decode cX1_multiplied 41 = .ok (.lmul, 1) := by decide +kernel
theorem dX1_multiplied_42 : decode cX1_multiplied 42 = .ok (.lstore_n 3, 1) := by decide +kernel
theorem dX1_multiplied_43 : decode cX1_multiplied 43 = .ok (.lload 5, 2) := by decide +kernel
theorem dX1_multiplied_45 : decode cX1_multiplied 45 = .ok (.iload_n 2, 1) := by decide +kernel
theorem dX1_multiplied_46 : decode cX1_multiplied 46 = .ok (.i2l, 1) := by decide +kernel
theorem dX1_multiplied_47 : decode cX1_multiplied 47 = .ok (.ldiv, 1) := by decide +kernel
theorem dX1_multiplied_48 : decode cX1_multiplied 48 = .ok (.lstore 5, 2) := by decide +kernel
theorem dX1_multiplied_50 : decode cX1_multiplied 50 = .ok (.iinc 7 1, 3) := by decide +kernel
theorem dX1_multiplied_53 : decode cX1_multiplied 53 = .ok (.goto (-32), 3) := by decide +kernel
theorem dX1_multiplied_56 : decode cX1_multiplied 56 = .ok (.lload_n 3, 1) := by decide +kernel
theorem dX1_multiplied_57 : decode cX1_multiplied 57 = .ok (.lreturn, 1) := by decide +kernel
theorem dX1_checkOf_0 : decode cX1_checkOf 0 = .ok (.iload_n 2, 1) := by decide +kernel
theorem dX1_checkOf_1 : decode cX1_checkOf 1 = .ok (.iconst 2, 1) := by decide +kernel
theorem dX1_checkOf_2 : decode cX1_checkOf 2 = .ok (.if_icmp .ge 5, 3) := by decide +kernel
theorem dX1_checkOf_5 : decode cX1_checkOf 5 = .ok (.iconst 0, 1) := by decide +kernel
theorem dX1_checkOf_6 : decode cX1_checkOf 6 = .ok (.ireturn, 1) := by decide +kernel
theorem dX1_checkOf_7 : decode cX1_checkOf 7 = .ok (.lconst 0, 1) := by decide +kernel
theorem dX1_checkOf_8 : decode cX1_checkOf 8 = .ok (.lstore_n 3, 1) := by decide +kernel
theorem dX1_checkOf_9 : decode cX1_checkOf 9 = .ok (.lload_n 0, 1) := by decide +kernel
theorem dX1_checkOf_10 : decode cX1_checkOf 10 = .ok (.lstore 5, 2) := by decide +kernel
theorem dX1_checkOf_12 : decode cX1_checkOf 12 = .ok (.iconst 1, 1) := by decide +kernel
theorem dX1_checkOf_13 : decode cX1_checkOf 13 = .ok (.istore 7, 2) := by decide +kernel
theorem dX1_checkOf_15 : decode cX1_checkOf 15 = .ok (.iload 7, 2) := by decide +kernel
theorem dX1_checkOf_17 : decode cX1_checkOf 17 = .ok (.bipush 64, 2) := by decide +kernel
theorem dX1_checkOf_19 : decode cX1_checkOf 19 = .ok (.if_icmp .gt 35, 3) := by decide +kernel
theorem dX1_checkOf_22 : decode cX1_checkOf 22 = .ok (.lload 5, 2) := by decide +kernel
theorem dX1_checkOf_24 : decode cX1_checkOf 24 = .ok (.lconst 0, 1) := by decide +kernel
theorem dX1_checkOf_25 : decode cX1_checkOf 25 = .ok (.lcmp, 1) := by decide +kernel
theorem dX1_checkOf_26 : decode cX1_checkOf 26 = .ok (.ifCond .le 28, 3) := by decide +kernel
theorem dX1_checkOf_29 : decode cX1_checkOf 29 = .ok (.lload_n 3, 1) := by decide +kernel
theorem dX1_checkOf_30 : decode cX1_checkOf 30 = .ok (.iload 7, 2) := by decide +kernel
theorem dX1_checkOf_32 : decode cX1_checkOf 32 = .ok (.i2l, 1) := by decide +kernel
theorem dX1_checkOf_33 : decode cX1_checkOf 33 = .ok (.lload 5, 2) := by decide +kernel
theorem dX1_checkOf_35 : decode cX1_checkOf 35 = .ok (.iload_n 2, 1) := by decide +kernel
theorem dX1_checkOf_36 : decode cX1_checkOf 36 = .ok (.i2l, 1) := by decide +kernel
theorem dX1_checkOf_37 : decode cX1_checkOf 37 = .ok (.lrem, 1) := by decide +kernel
theorem dX1_checkOf_38 : decode cX1_checkOf 38 = .ok (.lmul, 1) := by decide +kernel
theorem dX1_checkOf_39 : decode cX1_checkOf 39 = .ok (.ladd, 1) := by decide +kernel
theorem dX1_checkOf_40 : decode cX1_checkOf 40 = .ok (.lstore_n 3, 1) := by decide +kernel
theorem dX1_checkOf_41 : decode cX1_checkOf 41 = .ok (.lload 5, 2) := by decide +kernel
theorem dX1_checkOf_43 : decode cX1_checkOf 43 = .ok (.iload_n 2, 1) := by decide +kernel
theorem dX1_checkOf_44 : decode cX1_checkOf 44 = .ok (.i2l, 1) := by decide +kernel
theorem dX1_checkOf_45 : decode cX1_checkOf 45 = .ok (.ldiv, 1) := by decide +kernel
theorem dX1_checkOf_46 : decode cX1_checkOf 46 = .ok (.lstore 5, 2) := by decide +kernel
theorem dX1_checkOf_48 : decode cX1_checkOf 48 = .ok (.iinc 7 1, 3) := by decide +kernel
theorem dX1_checkOf_51 : decode cX1_checkOf 51 = .ok (.goto (-36), 3) := by decide +kernel
theorem dX1_checkOf_54 : decode cX1_checkOf 54 = .ok (.lload_n 3, 1) := by decide +kernel
theorem dX1_checkOf_55 : decode cX1_checkOf 55 = .ok (.iload_n 2, 1) := by decide +kernel
theorem dX1_checkOf_56 : decode cX1_checkOf 56 = .ok (.i2l, 1) := by decide +kernel
theorem dX1_checkOf_57 : decode cX1_checkOf 57 = .ok (.lrem, 1) := by decide +kernel
theorem dX1_checkOf_58 : decode cX1_checkOf 58 = .ok (.l2i, 1) := by decide +kernel
theorem dX1_checkOf_59 : decode cX1_checkOf 59 = .ok (.ireturn, 1) := by decide +kernel
theorem dX1_spread_0 : decode cX1_spread 0 = .ok (.iload_n 2, 1) := by decide +kernel
theorem dX1_spread_1 : decode cX1_spread 1 = .ok (.iconst 2, 1) := by decide +kernel
theorem dX1_spread_2 : decode cX1_spread 2 = .ok (.if_icmp .ge 5, 3) := by decide +kernel
theorem dX1_spread_5 : decode cX1_spread 5 = .ok (.lconst 0, 1) := by decide +kernel
theorem dX1_spread_6 : decode cX1_spread 6 = .ok (.lreturn, 1) := by decide +kernel
theorem dX1_spread_7 : decode cX1_spread 7 = .ok (.lconst 0, 1) := by decide +kernel
theorem dX1_spread_8 : decode cX1_spread 8 = .ok (.lstore_n 3, 1) := by decide +kernel
theorem dX1_spread_9 : decode cX1_spread 9 = .ok (.lload_n 0, 1) := by decide +kernel
theorem dX1_spread_10 : decode cX1_spread 10 = .ok (.lstore 5, 2) := by decide +kernel
theorem dX1_spread_12 : decode cX1_spread 12 = .ok (.iconst 0, 1) := by decide +kernel
theorem dX1_spread_13 : decode cX1_spread 13 = .ok (.istore 7, 2) := by decide +kernel
theorem dX1_spread_15 : decode cX1_spread 15 = .ok (.iload 7, 2) := by decide +kernel
theorem dX1_spread_17 : decode cX1_spread 17 = .ok (.bipush 64, 2) := by decide +kernel
theorem dX1_spread_19 : decode cX1_spread 19 = .ok (.if_icmp .ge 38, 3) := by decide +kernel
theorem dX1_spread_22 : decode cX1_spread 22 = .ok (.lload 5, 2) := by decide +kernel
theorem dX1_spread_24 : decode cX1_spread 24 = .ok (.lconst 0, 1) := by decide +kernel
theorem dX1_spread_25 : decode cX1_spread 25 = .ok (.lcmp, 1) := by decide +kernel
theorem dX1_spread_26 : decode cX1_spread 26 = .ok (.ifCond .le 31, 3) := by decide +kernel
theorem dX1_spread_29 : decode cX1_spread 29 = .ok (.lload_n 3, 1) := by decide +kernel
theorem dX1_spread_30 : decode cX1_spread 30 = .ok (.lconst 1, 1) := by decide +kernel
theorem dX1_spread_31 : decode cX1_spread 31 = .ok (.ldc2_w 9, 3) := by decide +kernel
theorem dX1_spread_34 : decode cX1_spread 34 = .ok (.lload 5, 2) := by decide +kernel
theorem dX1_spread_36 : decode cX1_spread 36 = .ok (.iload_n 2, 1) := by decide +kernel
theorem dX1_spread_37 : decode cX1_spread 37 = .ok (.i2l, 1) := by decide +kernel
theorem dX1_spread_38 : decode cX1_spread 38 = .ok (.lrem, 1) := by decide +kernel
theorem dX1_spread_39 : decode cX1_spread 39 = .ok (.lmul, 1) := by decide +kernel
theorem dX1_spread_40 : decode cX1_spread 40 = .ok (.l2i, 1) := by decide +kernel
theorem dX1_spread_41 : decode cX1_spread 41 = .ok (.lshl, 1) := by decide +kernel
theorem dX1_spread_42 : decode cX1_spread 42 = .ok (.ladd, 1) := by decide +kernel
theorem dX1_spread_43 : decode cX1_spread 43 = .ok (.lstore_n 3, 1) := by decide +kernel
theorem dX1_spread_44 : decode cX1_spread 44 = .ok (.lload 5, 2) := by decide +kernel
theorem dX1_spread_46 : decode cX1_spread 46 = .ok (.iload_n 2, 1) := by decide +kernel
theorem dX1_spread_47 : decode cX1_spread 47 = .ok (.i2l, 1) := by decide +kernel
theorem dX1_spread_48 : decode cX1_spread 48 = .ok (.ldiv, 1) := by decide +kernel
theorem dX1_spread_49 : decode cX1_spread 49 = .ok (.lstore 5, 2) := by decide +kernel
theorem dX1_spread_51 : decode cX1_spread 51 = .ok (.iinc 7 1, 3) := by decide +kernel
theorem dX1_spread_54 : decode cX1_spread 54 = .ok (.goto (-39), 3) := by decide +kernel
theorem dX1_spread_57 : decode cX1_spread 57 = .ok (.lconst 0, 1) := by decide +kernel
theorem dX1_spread_58 : decode cX1_spread 58 = .ok (.lstore 7, 2) := by decide +kernel
theorem dX1_spread_60 : decode cX1_spread 60 = .ok (.lconst 0, 1) := by decide +kernel
theorem dX1_spread_61 : decode cX1_spread 61 = .ok (.lstore 9, 2) := by decide +kernel
theorem dX1_spread_63 : decode cX1_spread 63 = .ok (.iconst 0, 1) := by decide +kernel
theorem dX1_spread_64 : decode cX1_spread 64 = .ok (.istore 11, 2) := by decide +kernel
theorem dX1_spread_66 : decode cX1_spread 66 = .ok (.iload 11, 2) := by decide +kernel
theorem dX1_spread_68 : decode cX1_spread 68 = .ok (.iload_n 2, 1) := by decide +kernel
theorem dX1_spread_69 : decode cX1_spread 69 = .ok (.if_icmp .ge 106, 3) := by decide +kernel
theorem dX1_spread_72 : decode cX1_spread 72 = .ok (.lload_n 3, 1) := by decide +kernel
theorem dX1_spread_73 : decode cX1_spread 73 = .ok (.bipush 6, 2) := by decide +kernel
theorem dX1_spread_75 : decode cX1_spread 75 = .ok (.iload 11, 2) := by decide +kernel
theorem dX1_spread_77 : decode cX1_spread 77 = .ok (.imul, 1) := by decide +kernel
theorem dX1_spread_78 : decode cX1_spread 78 = .ok (.lushr, 1) := by decide +kernel
theorem dX1_spread_79 : decode cX1_spread 79 = .ok (.ldc2_w 11, 3) := by decide +kernel
theorem dX1_spread_82 : decode cX1_spread 82 = .ok (.land, 1) := by decide +kernel
theorem dX1_spread_83 : decode cX1_spread 83 = .ok (.lstore 12, 2) := by decide +kernel
theorem dX1_spread_85 : decode cX1_spread 85 = .ok (.lload_n 3, 1) := by decide +kernel
theorem dX1_spread_86 : decode cX1_spread 86 = .ok (.bipush 6, 2) := by decide +kernel
theorem dX1_spread_88 : decode cX1_spread 88 = .ok (.iload_n 2, 1) := by decide +kernel
theorem dX1_spread_89 : decode cX1_spread 89 = .ok (.iconst 1, 1) := by decide +kernel
theorem dX1_spread_90 : decode cX1_spread 90 = .ok (.isub, 1) := by decide +kernel
theorem dX1_spread_91 : decode cX1_spread 91 = .ok (.iload 11, 2) := by decide +kernel
theorem dX1_spread_93 : decode cX1_spread 93 = .ok (.isub, 1) := by decide +kernel
theorem dX1_spread_94 : decode cX1_spread 94 = .ok (.imul, 1) := by decide +kernel
theorem dX1_spread_95 : decode cX1_spread 95 = .ok (.lushr, 1) := by decide +kernel
theorem dX1_spread_96 : decode cX1_spread 96 = .ok (.ldc2_w 11, 3) := by decide +kernel
theorem dX1_spread_99 : decode cX1_spread 99 = .ok (.land, 1) := by decide +kernel
theorem dX1_spread_100 : decode cX1_spread 100 = .ok (.lstore 14, 2) := by decide +kernel
theorem dX1_spread_102 : decode cX1_spread 102 = .ok (.lconst 0, 1) := by decide +kernel
theorem dX1_spread_103 : decode cX1_spread 103 = .ok (.lstore 16, 2) := by decide +kernel
theorem dX1_spread_105 : decode cX1_spread 105 = .ok (.lload 16, 2) := by decide +kernel
theorem dX1_spread_107 : decode cX1_spread 107 = .ok (.lload 12, 2) := by decide +kernel
theorem dX1_spread_109 : decode cX1_spread 109 = .ok (.lcmp, 1) := by decide +kernel
theorem dX1_spread_110 : decode cX1_spread 110 = .ok (.ifCond .ge 23, 3) := by decide +kernel
theorem dX1_spread_113 : decode cX1_spread 113 = .ok (.lload 9, 2) := by decide +kernel
theorem dX1_spread_115 : decode cX1_spread 115 = .ok (.iload_n 2, 1) := by decide +kernel
theorem dX1_spread_116 : decode cX1_spread 116 = .ok (.i2l, 1) := by decide +kernel
theorem dX1_spread_117 : decode cX1_spread 117 = .ok (.lmul, 1) := by decide +kernel
theorem dX1_spread_118 : decode cX1_spread 118 = .ok (.iload 11, 2) := by decide +kernel
theorem dX1_spread_120 : decode cX1_spread 120 = .ok (.i2l, 1) := by decide +kernel
theorem dX1_spread_121 : decode cX1_spread 121 = .ok (.ladd, 1) := by decide +kernel
theorem dX1_spread_122 : decode cX1_spread 122 = .ok (.lstore 9, 2) := by decide +kernel
theorem dX1_spread_124 : decode cX1_spread 124 = .ok (.lload 16, 2) := by decide +kernel
theorem dX1_spread_126 : decode cX1_spread 126 = .ok (.lconst 1, 1) := by decide +kernel
theorem dX1_spread_127 : decode cX1_spread 127 = .ok (.ladd, 1) := by decide +kernel
theorem dX1_spread_128 : decode cX1_spread 128 = .ok (.lstore 16, 2) := by decide +kernel
theorem dX1_spread_130 : decode cX1_spread 130 = .ok (.goto (-25), 3) := by decide +kernel
theorem dX1_spread_133 : decode cX1_spread 133 = .ok (.lconst 0, 1) := by decide +kernel
theorem dX1_spread_134 : decode cX1_spread 134 = .ok (.lstore 16, 2) := by decide +kernel
theorem dX1_spread_136 : decode cX1_spread 136 = .ok (.lload 16, 2) := by decide +kernel
theorem dX1_spread_138 : decode cX1_spread 138 = .ok (.lload 14, 2) := by decide +kernel
theorem dX1_spread_140 : decode cX1_spread 140 = .ok (.lcmp, 1) := by decide +kernel
theorem dX1_spread_141 : decode cX1_spread 141 = .ok (.ifCond .ge 28, 3) := by decide +kernel
theorem dX1_spread_144 : decode cX1_spread 144 = .ok (.lload 7, 2) := by decide +kernel
theorem dX1_spread_146 : decode cX1_spread 146 = .ok (.iload_n 2, 1) := by decide +kernel
theorem dX1_spread_147 : decode cX1_spread 147 = .ok (.i2l, 1) := by decide +kernel
theorem dX1_spread_148 : decode cX1_spread 148 = .ok (.lmul, 1) := by decide +kernel
theorem dX1_spread_149 : decode cX1_spread 149 = .ok (.iload_n 2, 1) := by decide +kernel
theorem dX1_spread_150 : decode cX1_spread 150 = .ok (.i2l, 1) := by decide +kernel
theorem dX1_spread_151 : decode cX1_spread 151 = .ok (.ladd, 1) := by decide +kernel
theorem dX1_spread_152 : decode cX1_spread 152 = .ok (.lconst 1, 1) := by decide +kernel
theorem dX1_spread_153 : decode cX1_spread 153 = .ok (.lsub, 1) := by decide +kernel
theorem dX1_spread_154 : decode cX1_spread 154 = .ok (.iload 11, 2) := by decide +kernel
theorem dX1_spread_156 : decode cX1_spread 156 = .ok (.i2l, 1) := by decide +kernel
theorem dX1_spread_157 : decode cX1_spread 157 = .ok (.lsub, 1) := by decide +kernel
theorem dX1_spread_158 : decode cX1_spread 158 = .ok (.lstore 7, 2) := by decide +kernel
theorem dX1_spread_160 : decode cX1_spread 160 = .ok (.lload 16, 2) := by decide +kernel
theorem dX1_spread_162 : decode cX1_spread 162 = .ok (.lconst 1, 1) := by decide +kernel
theorem dX1_spread_163 : decode cX1_spread 163 = .ok (.ladd, 1) := by decide +kernel
theorem dX1_spread_164 : decode cX1_spread 164 = .ok (.lstore 16, 2) := by decide +kernel
theorem dX1_spread_166 : decode cX1_spread 166 = .ok (.goto (-30), 3) := by decide +kernel
theorem dX1_spread_169 : decode cX1_spread 169 = .ok (.iinc 11 1, 3) := by decide +kernel
theorem dX1_spread_172 : decode cX1_spread 172 = .ok (.goto (-106), 3) := by decide +kernel
theorem dX1_spread_175 : decode cX1_spread 175 = .ok (.lload 7, 2) := by decide +kernel
theorem dX1_spread_177 : decode cX1_spread 177 = .ok (.lload 9, 2) := by decide +kernel
theorem dX1_spread_179 : decode cX1_spread 179 = .ok (.lsub, 1) := by decide +kernel
theorem dX1_spread_180 : decode cX1_spread 180 = .ok (.lreturn, 1) := by decide +kernel
theorem dX1_alikeFrom_0 : decode cX1_alikeFrom 0 = .ok (.iload_n 2, 1) := by decide +kernel
theorem dX1_alikeFrom_1 : decode cX1_alikeFrom 1 = .ok (.iconst 2, 1) := by decide +kernel
theorem dX1_alikeFrom_2 : decode cX1_alikeFrom 2 = .ok (.if_icmp .ge 5, 3) := by decide +kernel
theorem dX1_alikeFrom_5 : decode cX1_alikeFrom 5 = .ok (.lload_n 0, 1) := by decide +kernel
theorem dX1_alikeFrom_6 : decode cX1_alikeFrom 6 = .ok (.lreturn, 1) := by decide +kernel
theorem dX1_alikeFrom_7 : decode cX1_alikeFrom 7 = .ok (.lload_n 0, 1) := by decide +kernel
theorem dX1_alikeFrom_8 : decode cX1_alikeFrom 8 = .ok (.iload_n 2, 1) := by decide +kernel
theorem dX1_alikeFrom_9 : decode cX1_alikeFrom 9 = .ok (.invokestatic 13, 3) := by decide +kernel
theorem dX1_alikeFrom_12 : decode cX1_alikeFrom 12 = .ok (.istore_n 3, 1) := by decide +kernel
theorem dX1_alikeFrom_13 : decode cX1_alikeFrom 13 = .ok (.lload_n 0, 1) := by decide +kernel
theorem dX1_alikeFrom_14 : decode cX1_alikeFrom 14 = .ok (.lstore 4, 2) := by decide +kernel
theorem dX1_alikeFrom_16 : decode cX1_alikeFrom 16 = .ok (.iconst 0, 1) := by decide +kernel
theorem dX1_alikeFrom_17 : decode cX1_alikeFrom 17 = .ok (.istore 6, 2) := by decide +kernel
theorem dX1_alikeFrom_19 : decode cX1_alikeFrom 19 = .ok (.iload 6, 2) := by decide +kernel
theorem dX1_alikeFrom_21 : decode cX1_alikeFrom 21 = .ok (.iload_n 3, 1) := by decide +kernel
theorem dX1_alikeFrom_22 : decode cX1_alikeFrom 22 = .ok (.iconst 2, 1) := by decide +kernel
theorem dX1_alikeFrom_23 : decode cX1_alikeFrom 23 = .ok (.idiv, 1) := by decide +kernel
theorem dX1_alikeFrom_24 : decode cX1_alikeFrom 24 = .ok (.if_icmp .ge 16, 3) := by decide +kernel
theorem dX1_alikeFrom_27 : decode cX1_alikeFrom 27 = .ok (.lload 4, 2) := by decide +kernel
theorem dX1_alikeFrom_29 : decode cX1_alikeFrom 29 = .ok (.iload_n 2, 1) := by decide +kernel
theorem dX1_alikeFrom_30 : decode cX1_alikeFrom 30 = .ok (.i2l, 1) := by decide +kernel
theorem dX1_alikeFrom_31 : decode cX1_alikeFrom 31 = .ok (.ldiv, 1) := by decide +kernel
theorem dX1_alikeFrom_32 : decode cX1_alikeFrom 32 = .ok (.lstore 4, 2) := by decide +kernel
theorem dX1_alikeFrom_34 : decode cX1_alikeFrom 34 = .ok (.iinc 6 1, 3) := by decide +kernel
theorem dX1_alikeFrom_37 : decode cX1_alikeFrom 37 = .ok (.goto (-18), 3) := by decide +kernel
theorem dX1_alikeFrom_40 : decode cX1_alikeFrom 40 = .ok (.lload 4, 2) := by decide +kernel
theorem dX1_alikeFrom_42 : decode cX1_alikeFrom 42 = .ok (.iload_n 3, 1) := by decide +kernel
theorem dX1_alikeFrom_43 : decode cX1_alikeFrom 43 = .ok (.iload_n 2, 1) := by decide +kernel
theorem dX1_alikeFrom_44 : decode cX1_alikeFrom 44 = .ok (.invokestatic 19, 3) := by decide +kernel
theorem dX1_alikeFrom_47 : decode cX1_alikeFrom 47 = .ok (.lstore 6, 2) := by decide +kernel
theorem dX1_alikeFrom_49 : decode cX1_alikeFrom 49 = .ok (.lload 6, 2) := by decide +kernel
theorem dX1_alikeFrom_51 : decode cX1_alikeFrom 51 = .ok (.lload_n 0, 1) := by decide +kernel
theorem dX1_alikeFrom_52 : decode cX1_alikeFrom 52 = .ok (.lcmp, 1) := by decide +kernel
theorem dX1_alikeFrom_53 : decode cX1_alikeFrom 53 = .ok (.ifCond .lt 8, 3) := by decide +kernel
theorem dX1_alikeFrom_56 : decode cX1_alikeFrom 56 = .ok (.lload 6, 2) := by decide +kernel
theorem dX1_alikeFrom_58 : decode cX1_alikeFrom 58 = .ok (.goto 12, 3) := by decide +kernel
theorem dX1_alikeFrom_61 : decode cX1_alikeFrom 61 = .ok (.lload 4, 2) := by decide +kernel
theorem dX1_alikeFrom_63 : decode cX1_alikeFrom 63 = .ok (.lconst 1, 1) := by decide +kernel
theorem dX1_alikeFrom_64 : decode cX1_alikeFrom 64 = .ok (.ladd, 1) := by decide +kernel
theorem dX1_alikeFrom_65 : decode cX1_alikeFrom 65 = .ok (.iload_n 3, 1) := by decide +kernel
theorem dX1_alikeFrom_66 : decode cX1_alikeFrom 66 = .ok (.iload_n 2, 1) := by decide +kernel
theorem dX1_alikeFrom_67 : decode cX1_alikeFrom 67 = .ok (.invokestatic 19, 3) := by decide +kernel
theorem dX1_alikeFrom_70 : decode cX1_alikeFrom 70 = .ok (.lreturn, 1) := by decide +kernel
theorem dX1_mirrored_0 : decode cX1_mirrored 0 = .ok (.iload_n 3, 1) := by decide +kernel
theorem dX1_mirrored_1 : decode cX1_mirrored 1 = .ok (.iconst 2, 1) := by decide +kernel
theorem dX1_mirrored_2 : decode cX1_mirrored 2 = .ok (.if_icmp .ge 5, 3) := by decide +kernel
theorem dX1_mirrored_5 : decode cX1_mirrored 5 = .ok (.lload_n 0, 1) := by decide +kernel
theorem dX1_mirrored_6 : decode cX1_mirrored 6 = .ok (.lreturn, 1) := by decide +kernel
theorem dX1_mirrored_7 : decode cX1_mirrored 7 = .ok (.lload_n 0, 1) := by decide +kernel
theorem dX1_mirrored_8 : decode cX1_mirrored 8 = .ok (.lstore 4, 2) := by decide +kernel
theorem dX1_mirrored_10 : decode cX1_mirrored 10 = .ok (.iload_n 2, 1) := by decide +kernel
theorem dX1_mirrored_11 : decode cX1_mirrored 11 = .ok (.iconst 2, 1) := by decide +kernel
theorem dX1_mirrored_12 : decode cX1_mirrored 12 = .ok (.irem, 1) := by decide +kernel
theorem dX1_mirrored_13 : decode cX1_mirrored 13 = .ok (.iconst 1, 1) := by decide +kernel
theorem dX1_mirrored_14 : decode cX1_mirrored 14 = .ok (.if_icmp .ne 10, 3) := by decide +kernel
theorem dX1_mirrored_17 : decode cX1_mirrored 17 = .ok (.lload_n 0, 1) := by decide +kernel
theorem dX1_mirrored_18 : decode cX1_mirrored 18 = .ok (.iload_n 3, 1) := by decide +kernel
theorem dX1_mirrored_19 : decode cX1_mirrored 19 = .ok (.i2l, 1) := by decide +kernel
theorem dX1_mirrored_20 : decode cX1_mirrored 20 = .ok (.ldiv, 1) := by decide +kernel
theorem dX1_mirrored_21 : decode cX1_mirrored 21 = .ok (.goto 4, 3) := by decide +kernel
theorem dX1_mirrored_24 : decode cX1_mirrored 24 = .ok (.lload_n 0, 1) := by decide +kernel
theorem dX1_mirrored_25 : decode cX1_mirrored 25 = .ok (.lstore 6, 2) := by decide +kernel
theorem dX1_mirrored_27 : decode cX1_mirrored 27 = .ok (.iconst 0, 1) := by decide +kernel
theorem dX1_mirrored_28 : decode cX1_mirrored 28 = .ok (.istore 8, 2) := by decide +kernel
theorem dX1_mirrored_30 : decode cX1_mirrored 30 = .ok (.iload 8, 2) := by decide +kernel
theorem dX1_mirrored_32 : decode cX1_mirrored 32 = .ok (.iload_n 2, 1) := by decide +kernel
theorem dX1_mirrored_33 : decode cX1_mirrored 33 = .ok (.iconst 2, 1) := by decide +kernel
theorem dX1_mirrored_34 : decode cX1_mirrored 34 = .ok (.idiv, 1) := by decide +kernel
theorem dX1_mirrored_35 : decode cX1_mirrored 35 = .ok (.if_icmp .ge 29, 3) := by decide +kernel
theorem dX1_mirrored_38 : decode cX1_mirrored 38 = .ok (.lload 4, 2) := by decide +kernel
theorem dX1_mirrored_40 : decode cX1_mirrored 40 = .ok (.iload_n 3, 1) := by decide +kernel
theorem dX1_mirrored_41 : decode cX1_mirrored 41 = .ok (.i2l, 1) := by decide +kernel
theorem dX1_mirrored_42 : decode cX1_mirrored 42 = .ok (.lmul, 1) := by decide +kernel
theorem dX1_mirrored_43 : decode cX1_mirrored 43 = .ok (.lload 6, 2) := by decide +kernel
theorem dX1_mirrored_45 : decode cX1_mirrored 45 = .ok (.iload_n 3, 1) := by decide +kernel
theorem dX1_mirrored_46 : decode cX1_mirrored 46 = .ok (.i2l, 1) := by decide +kernel
theorem dX1_mirrored_47 : decode cX1_mirrored 47 = .ok (.lrem, 1) := by decide +kernel
theorem dX1_mirrored_48 : decode cX1_mirrored 48 = .ok (.ladd, 1) := by decide +kernel
theorem dX1_mirrored_49 : decode cX1_mirrored 49 = .ok (.lstore 4, 2) := by decide +kernel
theorem dX1_mirrored_51 : decode cX1_mirrored 51 = .ok (.lload 6, 2) := by decide +kernel
theorem dX1_mirrored_53 : decode cX1_mirrored 53 = .ok (.iload_n 3, 1) := by decide +kernel
theorem dX1_mirrored_54 : decode cX1_mirrored 54 = .ok (.i2l, 1) := by decide +kernel
theorem dX1_mirrored_55 : decode cX1_mirrored 55 = .ok (.ldiv, 1) := by decide +kernel
theorem dX1_mirrored_56 : decode cX1_mirrored 56 = .ok (.lstore 6, 2) := by decide +kernel
theorem dX1_mirrored_58 : decode cX1_mirrored 58 = .ok (.iinc 8 1, 3) := by decide +kernel
theorem dX1_mirrored_61 : decode cX1_mirrored 61 = .ok (.goto (-31), 3) := by decide +kernel
theorem dX1_mirrored_64 : decode cX1_mirrored 64 = .ok (.lload 4, 2) := by decide +kernel
theorem dX1_mirrored_66 : decode cX1_mirrored 66 = .ok (.lreturn, 1) := by decide +kernel
theorem dX1_firstUnlike_0 : decode cX1_firstUnlike 0 = .ok (.iload 4, 2) := by decide +kernel
theorem dX1_firstUnlike_2 : decode cX1_firstUnlike 2 = .ok (.iconst 2, 1) := by decide +kernel
theorem dX1_firstUnlike_3 : decode cX1_firstUnlike 3 = .ok (.if_icmp .ge 5, 3) := by decide +kernel
theorem dX1_firstUnlike_6 : decode cX1_firstUnlike 6 = .ok (.iconst (-1), 1) := by decide +kernel
theorem dX1_firstUnlike_7 : decode cX1_firstUnlike 7 = .ok (.ireturn, 1) := by decide +kernel
theorem dX1_firstUnlike_8 : decode cX1_firstUnlike 8 = .ok (.lload_n 0, 1) := by decide +kernel
theorem dX1_firstUnlike_9 : decode cX1_firstUnlike 9 = .ok (.lstore 5, 2) := by decide +kernel
theorem dX1_firstUnlike_11 : decode cX1_firstUnlike 11 = .ok (.lload_n 2, 1) := by decide +kernel
theorem dX1_firstUnlike_12 : decode cX1_firstUnlike 12 = .ok (.lstore 7, 2) := by decide +kernel
theorem dX1_firstUnlike_14 : decode cX1_firstUnlike 14 = .ok (.iconst 0, 1) := by decide +kernel
theorem dX1_firstUnlike_15 : decode cX1_firstUnlike 15 = .ok (.istore 9, 2) := by decide +kernel
theorem dX1_firstUnlike_17 : decode cX1_firstUnlike 17 = .ok (.iload 9, 2) := by decide +kernel
theorem dX1_firstUnlike_19 : decode cX1_firstUnlike 19 = .ok (.bipush 64, 2) := by decide +kernel
theorem dX1_firstUnlike_21 : decode cX1_firstUnlike 21 = .ok (.if_icmp .ge 52, 3) := by decide +kernel
theorem dX1_firstUnlike_24 : decode cX1_firstUnlike 24 = .ok (.lload 5, 2) := by decide +kernel
theorem dX1_firstUnlike_26 : decode cX1_firstUnlike 26 = .ok (.lload 7, 2) := by decide +kernel
theorem dX1_firstUnlike_28 : decode cX1_firstUnlike 28 = .ok (.lcmp, 1) := by decide +kernel
theorem dX1_firstUnlike_29 : decode cX1_firstUnlike 29 = .ok (.ifCond .eq 44, 3) := by decide +kernel
theorem dX1_firstUnlike_32 : decode cX1_firstUnlike 32 = .ok (.lload 5, 2) := by decide +kernel
theorem dX1_firstUnlike_34 : decode cX1_firstUnlike 34 = .ok (.iload 4, 2) := by decide +kernel
theorem dX1_firstUnlike_36 : decode cX1_firstUnlike 36 = .ok (.i2l, 1) := by decide +kernel
theorem dX1_firstUnlike_37 : decode cX1_firstUnlike 37 = .ok (.lrem, 1) := by decide +kernel
theorem dX1_firstUnlike_38 : decode cX1_firstUnlike 38 = .ok (.lload 7, 2) := by decide +kernel
theorem dX1_firstUnlike_40 : decode cX1_firstUnlike 40 = .ok (.iload 4, 2) := by decide +kernel
theorem dX1_firstUnlike_42 : decode cX1_firstUnlike 42 = .ok (.i2l, 1) := by decide +kernel
theorem dX1_firstUnlike_43 : decode cX1_firstUnlike 43 = .ok (.lrem, 1) := by decide +kernel
theorem dX1_firstUnlike_44 : decode cX1_firstUnlike 44 = .ok (.lcmp, 1) := by decide +kernel
theorem dX1_firstUnlike_45 : decode cX1_firstUnlike 45 = .ok (.ifCond .eq 6, 3) := by decide +kernel
theorem dX1_firstUnlike_48 : decode cX1_firstUnlike 48 = .ok (.iload 9, 2) := by decide +kernel
theorem dX1_firstUnlike_50 : decode cX1_firstUnlike 50 = .ok (.ireturn, 1) := by decide +kernel
theorem dX1_firstUnlike_51 : decode cX1_firstUnlike 51 = .ok (.lload 5, 2) := by decide +kernel
theorem dX1_firstUnlike_53 : decode cX1_firstUnlike 53 = .ok (.iload 4, 2) := by decide +kernel
theorem dX1_firstUnlike_55 : decode cX1_firstUnlike 55 = .ok (.i2l, 1) := by decide +kernel
theorem dX1_firstUnlike_56 : decode cX1_firstUnlike 56 = .ok (.ldiv, 1) := by decide +kernel
theorem dX1_firstUnlike_57 : decode cX1_firstUnlike 57 = .ok (.lstore 5, 2) := by decide +kernel
theorem dX1_firstUnlike_59 : decode cX1_firstUnlike 59 = .ok (.lload 7, 2) := by decide +kernel
theorem dX1_firstUnlike_61 : decode cX1_firstUnlike 61 = .ok (.iload 4, 2) := by decide +kernel
theorem dX1_firstUnlike_63 : decode cX1_firstUnlike 63 = .ok (.i2l, 1) := by decide +kernel
theorem dX1_firstUnlike_64 : decode cX1_firstUnlike 64 = .ok (.ldiv, 1) := by decide +kernel
theorem dX1_firstUnlike_65 : decode cX1_firstUnlike 65 = .ok (.lstore 7, 2) := by decide +kernel
theorem dX1_firstUnlike_67 : decode cX1_firstUnlike 67 = .ok (.iinc 9 1, 3) := by decide +kernel
theorem dX1_firstUnlike_70 : decode cX1_firstUnlike 70 = .ok (.goto (-53), 3) := by decide +kernel
theorem dX1_firstUnlike_73 : decode cX1_firstUnlike 73 = .ok (.iconst (-1), 1) := by decide +kernel
theorem dX1_firstUnlike_74 : decode cX1_firstUnlike 74 = .ok (.ireturn, 1) := by decide +kernel
theorem dX1_missedSlips_0 : decode cX1_missedSlips 0 = .ok (.iload_n 2, 1) := by decide +kernel
theorem dX1_missedSlips_1 : decode cX1_missedSlips 1 = .ok (.iconst 2, 1) := by decide +kernel
theorem dX1_missedSlips_2 : decode cX1_missedSlips 2 = .ok (.if_icmp .ge 5, 3) := by decide +kernel
theorem dX1_missedSlips_5 : decode cX1_missedSlips 5 = .ok (.iconst 0, 1) := by decide +kernel
theorem dX1_missedSlips_6 : decode cX1_missedSlips 6 = .ok (.ireturn, 1) := by decide +kernel
theorem dX1_missedSlips_7 : decode cX1_missedSlips 7 = .ok (.lload_n 0, 1) := by decide +kernel
theorem dX1_missedSlips_8 : decode cX1_missedSlips 8 = .ok (.iload_n 2, 1) := by decide +kernel
theorem dX1_missedSlips_9 : decode cX1_missedSlips 9 = .ok (.invokestatic 13, 3) := by decide +kernel
theorem dX1_missedSlips_12 : decode cX1_missedSlips 12 = .ok (.istore_n 3, 1) := by decide +kernel
theorem dX1_missedSlips_13 : decode cX1_missedSlips 13 = .ok (.iconst 0, 1) := by decide +kernel
theorem dX1_missedSlips_14 : decode cX1_missedSlips 14 = .ok (.istore 4, 2) := by decide +kernel
theorem dX1_missedSlips_16 : decode cX1_missedSlips 16 = .ok (.lconst 1, 1) := by decide +kernel
theorem dX1_missedSlips_17 : decode cX1_missedSlips 17 = .ok (.lstore 5, 2) := by decide +kernel
theorem dX1_missedSlips_19 : decode cX1_missedSlips 19 = .ok (.lload_n 0, 1) := by decide +kernel
theorem dX1_missedSlips_20 : decode cX1_missedSlips 20 = .ok (.lstore 7, 2) := by decide +kernel
theorem dX1_missedSlips_22 : decode cX1_missedSlips 22 = .ok (.iconst 0, 1) := by decide +kernel
theorem dX1_missedSlips_23 : decode cX1_missedSlips 23 = .ok (.istore 9, 2) := by decide +kernel
theorem dX1_missedSlips_25 : decode cX1_missedSlips 25 = .ok (.iload 9, 2) := by decide +kernel
theorem dX1_missedSlips_27 : decode cX1_missedSlips 27 = .ok (.iload_n 3, 1) := by decide +kernel
theorem dX1_missedSlips_28 : decode cX1_missedSlips 28 = .ok (.if_icmp .ge 133, 3) := by decide +kernel
theorem dX1_missedSlips_31 : decode cX1_missedSlips 31 = .ok (.lload 7, 2) := by decide +kernel
theorem dX1_missedSlips_33 : decode cX1_missedSlips 33 = .ok (.iload_n 2, 1) := by decide +kernel
theorem dX1_missedSlips_34 : decode cX1_missedSlips 34 = .ok (.i2l, 1) := by decide +kernel
theorem dX1_missedSlips_35 : decode cX1_missedSlips 35 = .ok (.lrem, 1) := by decide +kernel
theorem dX1_missedSlips_36 : decode cX1_missedSlips 36 = .ok (.lstore 10, 2) := by decide +kernel
theorem dX1_missedSlips_38 : decode cX1_missedSlips 38 = .ok (.iload_n 3, 1) := by decide +kernel
theorem dX1_missedSlips_39 : decode cX1_missedSlips 39 = .ok (.iconst 1, 1) := by decide +kernel
theorem dX1_missedSlips_40 : decode cX1_missedSlips 40 = .ok (.if_icmp .le 15, 3) := by decide +kernel
theorem dX1_missedSlips_43 : decode cX1_missedSlips 43 = .ok (.iload 9, 2) := by decide +kernel
theorem dX1_missedSlips_45 : decode cX1_missedSlips 45 = .ok (.iload_n 3, 1) := by decide +kernel
theorem dX1_missedSlips_46 : decode cX1_missedSlips 46 = .ok (.iconst 1, 1) := by decide +kernel
theorem dX1_missedSlips_47 : decode cX1_missedSlips 47 = .ok (.isub, 1) := by decide +kernel
theorem dX1_missedSlips_48 : decode cX1_missedSlips 48 = .ok (.if_icmp .ne 7, 3) := by decide +kernel
theorem dX1_missedSlips_51 : decode cX1_missedSlips 51 = .ok (.iconst 1, 1) := by decide +kernel
theorem dX1_missedSlips_52 : decode cX1_missedSlips 52 = .ok (.goto 4, 3) := by decide +kernel
theorem dX1_missedSlips_55 : decode cX1_missedSlips 55 = .ok (.iconst 0, 1) := by decide +kernel
theorem dX1_missedSlips_56 : decode cX1_missedSlips 56 = .ok (.istore 12, 2) := by decide +kernel
theorem dX1_missedSlips_58 : decode cX1_missedSlips 58 = .ok (.iload 12, 2) := by decide +kernel
theorem dX1_missedSlips_60 : decode cX1_missedSlips 60 = .ok (.ifCond .eq 7, 3) := by decide +kernel
theorem dX1_missedSlips_63 : decode cX1_missedSlips 63 = .ok (.iconst 1, 1) := by decide +kernel
theorem dX1_missedSlips_64 : decode cX1_missedSlips 64 = .ok (.goto 4, 3) := by decide +kernel
theorem dX1_missedSlips_67 : decode cX1_missedSlips 67 = .ok (.iconst 0, 1) := by decide +kernel
theorem dX1_missedSlips_68 : decode cX1_missedSlips 68 = .ok (.istore 13, 2) := by decide +kernel
theorem dX1_missedSlips_70 : decode cX1_missedSlips 70 = .ok (.iload 13, 2) := by decide +kernel
theorem dX1_missedSlips_72 : decode cX1_missedSlips 72 = .ok (.iload_n 2, 1) := by decide +kernel
theorem dX1_missedSlips_73 : decode cX1_missedSlips 73 = .ok (.if_icmp .ge 68, 3) := by decide +kernel
theorem dX1_missedSlips_76 : decode cX1_missedSlips 76 = .ok (.iload 13, 2) := by decide +kernel
theorem dX1_missedSlips_78 : decode cX1_missedSlips 78 = .ok (.i2l, 1) := by decide +kernel
theorem dX1_missedSlips_79 : decode cX1_missedSlips 79 = .ok (.lload 10, 2) := by decide +kernel
theorem dX1_missedSlips_81 : decode cX1_missedSlips 81 = .ok (.lsub, 1) := by decide +kernel
theorem dX1_missedSlips_82 : decode cX1_missedSlips 82 = .ok (.lstore 14, 2) := by decide +kernel
theorem dX1_missedSlips_84 : decode cX1_missedSlips 84 = .ok (.lload 14, 2) := by decide +kernel
theorem dX1_missedSlips_86 : decode cX1_missedSlips 86 = .ok (.lconst 0, 1) := by decide +kernel
theorem dX1_missedSlips_87 : decode cX1_missedSlips 87 = .ok (.lcmp, 1) := by decide +kernel
theorem dX1_missedSlips_88 : decode cX1_missedSlips 88 = .ok (.ifCond .eq 20, 3) := by decide +kernel
theorem dX1_missedSlips_91 : decode cX1_missedSlips 91 = .ok (.lload_n 0, 1) := by decide +kernel
theorem dX1_missedSlips_92 : decode cX1_missedSlips 92 = .ok (.lload 14, 2) := by decide +kernel
theorem dX1_missedSlips_94 : decode cX1_missedSlips 94 = .ok (.lload 5, 2) := by decide +kernel
theorem dX1_missedSlips_96 : decode cX1_missedSlips 96 = .ok (.lmul, 1) := by decide +kernel
theorem dX1_missedSlips_97 : decode cX1_missedSlips 97 = .ok (.ladd, 1) := by decide +kernel
theorem dX1_missedSlips_98 : decode cX1_missedSlips 98 = .ok (.invokestatic 23, 3) := by decide +kernel
theorem dX1_missedSlips_101 : decode cX1_missedSlips 101 = .ok (.ifCond .eq 7, 3) := by decide +kernel
theorem dX1_missedSlips_104 : decode cX1_missedSlips 104 = .ok (.iconst 1, 1) := by decide +kernel
theorem dX1_missedSlips_105 : decode cX1_missedSlips 105 = .ok (.goto 4, 3) := by decide +kernel
theorem dX1_missedSlips_108 : decode cX1_missedSlips 108 = .ok (.iconst 0, 1) := by decide +kernel
theorem dX1_missedSlips_109 : decode cX1_missedSlips 109 = .ok (.istore 16, 2) := by decide +kernel
theorem dX1_missedSlips_111 : decode cX1_missedSlips 111 = .ok (.iload 16, 2) := by decide +kernel
theorem dX1_missedSlips_113 : decode cX1_missedSlips 113 = .ok (.ifCond .eq 22, 3) := by decide +kernel
theorem dX1_missedSlips_116 : decode cX1_missedSlips 116 = .ok (.iload 9, 2) := by decide +kernel
theorem dX1_missedSlips_118 : decode cX1_missedSlips 118 = .ok (.iconst 1, 1) := by decide +kernel
theorem dX1_missedSlips_119 : decode cX1_missedSlips 119 = .ok (.iadd, 1) := by decide +kernel
theorem dX1_missedSlips_120 : decode cX1_missedSlips 120 = .ok (.i2l, 1) := by decide +kernel
theorem dX1_missedSlips_121 : decode cX1_missedSlips 121 = .ok (.lload 14, 2) := by decide +kernel
theorem dX1_missedSlips_123 : decode cX1_missedSlips 123 = .ok (.lmul, 1) := by decide +kernel
theorem dX1_missedSlips_124 : decode cX1_missedSlips 124 = .ok (.iload_n 2, 1) := by decide +kernel
theorem dX1_missedSlips_125 : decode cX1_missedSlips 125 = .ok (.i2l, 1) := by decide +kernel
theorem dX1_missedSlips_126 : decode cX1_missedSlips 126 = .ok (.lrem, 1) := by decide +kernel
theorem dX1_missedSlips_127 : decode cX1_missedSlips 127 = .ok (.lconst 0, 1) := by decide +kernel
theorem dX1_missedSlips_128 : decode cX1_missedSlips 128 = .ok (.lcmp, 1) := by decide +kernel
theorem dX1_missedSlips_129 : decode cX1_missedSlips 129 = .ok (.ifCond .ne 6, 3) := by decide +kernel
theorem dX1_missedSlips_132 : decode cX1_missedSlips 132 = .ok (.iinc 4 1, 3) := by decide +kernel
theorem dX1_missedSlips_135 : decode cX1_missedSlips 135 = .ok (.iinc 13 1, 3) := by decide +kernel
theorem dX1_missedSlips_138 : decode cX1_missedSlips 138 = .ok (.goto (-68), 3) := by decide +kernel
theorem dX1_missedSlips_141 : decode cX1_missedSlips 141 = .ok (.lload 7, 2) := by decide +kernel
theorem dX1_missedSlips_143 : decode cX1_missedSlips 143 = .ok (.iload_n 2, 1) := by decide +kernel
theorem dX1_missedSlips_144 : decode cX1_missedSlips 144 = .ok (.i2l, 1) := by decide +kernel
theorem dX1_missedSlips_145 : decode cX1_missedSlips 145 = .ok (.ldiv, 1) := by decide +kernel
theorem dX1_missedSlips_146 : decode cX1_missedSlips 146 = .ok (.lstore 7, 2) := by decide +kernel
theorem dX1_missedSlips_148 : decode cX1_missedSlips 148 = .ok (.lload 5, 2) := by decide +kernel
theorem dX1_missedSlips_150 : decode cX1_missedSlips 150 = .ok (.iload_n 2, 1) := by decide +kernel
theorem dX1_missedSlips_151 : decode cX1_missedSlips 151 = .ok (.i2l, 1) := by decide +kernel
theorem dX1_missedSlips_152 : decode cX1_missedSlips 152 = .ok (.lmul, 1) := by decide +kernel
theorem dX1_missedSlips_153 : decode cX1_missedSlips 153 = .ok (.lstore 5, 2) := by decide +kernel
theorem dX1_missedSlips_155 : decode cX1_missedSlips 155 = .ok (.iinc 9 1, 3) := by decide +kernel
theorem dX1_missedSlips_158 : decode cX1_missedSlips 158 = .ok (.goto (-133), 3) := by decide +kernel
theorem dX1_missedSlips_161 : decode cX1_missedSlips 161 = .ok (.iload 4, 2) := by decide +kernel
theorem dX1_missedSlips_163 : decode cX1_missedSlips 163 = .ok (.ireturn, 1) := by decide +kernel
theorem dX2_init_0 : decode cX2_init 0 = .ok (.aload_n 0, 1) := by decide +kernel
theorem dX2_init_1 : decode cX2_init 1 = .ok (.invokespecial 3, 3) := by decide +kernel
theorem dX2_init_4 : decode cX2_init 4 = .ok (.aload_n 0, 1) := by decide +kernel
theorem dX2_init_5 : decode cX2_init 5 = .ok (.iload_n 1, 1) := by decide +kernel
theorem dX2_init_6 : decode cX2_init 6 = .ok (.putfield 9, 3) := by decide +kernel
theorem dX2_init_9 : decode cX2_init 9 = .ok (.aload_n 0, 1) := by decide +kernel
theorem dX2_init_10 : decode cX2_init 10 = .ok (.iload_n 2, 1) := by decide +kernel
theorem dX2_init_11 : decode cX2_init 11 = .ok (.putfield 15, 3) := by decide +kernel
theorem dX2_init_14 : decode cX2_init 14 = .ok (.return_, 1) := by decide +kernel
theorem dX2_kindNumber_0 : decode cX2_kindNumber 0 = .ok (.iconst 0, 1) := by decide +kernel
theorem dX2_kindNumber_1 : decode cX2_kindNumber 1 = .ok (.ireturn, 1) := by decide +kernel
theorem dX2_isUnder_0 : decode cX2_isUnder 0 = .ok (.iload_n 1, 1) := by decide +kernel
theorem dX2_isUnder_1 : decode cX2_isUnder 1 = .ok (.ifCond .ne 7, 3) := by decide +kernel
theorem dX2_isUnder_4 : decode cX2_isUnder 4 = .ok (.iconst 1, 1) := by decide +kernel
theorem dX2_isUnder_5 : decode cX2_isUnder 5 = .ok (.goto 4, 3) := by decide +kernel
theorem dX2_isUnder_8 : decode cX2_isUnder 8 = .ok (.iconst 0, 1) := by decide +kernel
theorem dX2_isUnder_9 : decode cX2_isUnder 9 = .ok (.ireturn, 1) := by decide +kernel
theorem dX2_reckon_0 : decode cX2_reckon 0 = .ok (.lload_n 1, 1) := by decide +kernel
theorem dX2_reckon_1 : decode cX2_reckon 1 = .ok (.lload_n 1, 1) := by decide +kernel
theorem dX2_reckon_2 : decode cX2_reckon 2 = .ok (.aload_n 3, 1) := by decide +kernel
theorem dX2_reckon_3 : decode cX2_reckon 3 = .ok (.getfield 18, 3) := by decide +kernel
theorem dX2_reckon_6 : decode cX2_reckon 6 = .ok (.invokestatic 23, 3) := by decide +kernel
theorem dX2_reckon_9 : decode cX2_reckon 9 = .ok (.ladd, 1) := by decide +kernel
theorem dX2_reckon_10 : decode cX2_reckon 10 = .ok (.aload_n 0, 1) := by decide +kernel
theorem dX2_reckon_11 : decode cX2_reckon 11 = .ok (.getfield 15, 3) := by decide +kernel
theorem dX2_reckon_14 : decode cX2_reckon 14 = .ok (.i2l, 1) := by decide +kernel
theorem dX2_reckon_15 : decode cX2_reckon 15 = .ok (.ladd, 1) := by decide +kernel
theorem dX2_reckon_16 : decode cX2_reckon 16 = .ok (.lreturn, 1) := by decide +kernel
theorem dX2_onward_0 : decode cX2_onward 0 = .ok (.aload_n 0, 1) := by decide +kernel
theorem dX2_onward_1 : decode cX2_onward 1 = .ok (.lload_n 1, 1) := by decide +kernel
theorem dX2_onward_2 : decode cX2_onward 2 = .ok (.aload_n 3, 1) := by decide +kernel
theorem dX2_onward_3 : decode cX2_onward 3 = .ok (.invokevirtual 29, 3) := by decide +kernel
theorem dX2_onward_6 : decode cX2_onward 6 = .ok (.lstore 4, 2) := by decide +kernel
theorem dX2_onward_8 : decode cX2_onward 8 = .ok (.lload 4, 2) := by decide +kernel
theorem dX2_onward_10 : decode cX2_onward 10 = .ok (.ldc2_w 33, 3) := by decide +kernel
theorem dX2_onward_13 : decode cX2_onward 13 = .ok (.lcmp, 1) := by decide +kernel
theorem dX2_onward_14 : decode cX2_onward 14 = .ok (.ifCond .le 9, 3) := by decide +kernel
theorem dX2_onward_17 : decode cX2_onward 17 = .ok (.ldc2_w 35, 3) := by decide +kernel
theorem dX2_onward_20 : decode cX2_onward 20 = .ok (.goto 5, 3) := by decide +kernel
theorem dX2_onward_23 : decode cX2_onward 23 = .ok (.lload 4, 2) := by decide +kernel
theorem dX2_onward_25 : decode cX2_onward 25 = .ok (.lreturn, 1) := by decide +kernel
theorem dX2_turns_0 : decode cX2_turns 0 = .ok (.aload_n 2, 1) := by decide +kernel
theorem dX2_turns_1 : decode cX2_turns 1 = .ok (.iconst 0, 1) := by decide +kernel
theorem dX2_turns_2 : decode cX2_turns 2 = .ok (.dup2, 1) := by decide +kernel
theorem dX2_turns_3 : decode cX2_turns 3 = .ok (.iaload, 1) := by decide +kernel
theorem dX2_turns_4 : decode cX2_turns 4 = .ok (.iconst 1, 1) := by decide +kernel
theorem dX2_turns_5 : decode cX2_turns 5 = .ok (.iadd, 1) := by decide +kernel
theorem dX2_turns_6 : decode cX2_turns 6 = .ok (.dup_x2, 1) := by decide +kernel
theorem dX2_turns_7 : decode cX2_turns 7 = .ok (.iastore, 1) := by decide +kernel
theorem dX2_turns_8 : decode cX2_turns 8 = .ok (.aload_n 2, 1) := by decide +kernel
theorem dX2_turns_9 : decode cX2_turns 9 = .ok (.arraylength, 1) := by decide +kernel
theorem dX2_turns_10 : decode cX2_turns 10 = .ok (.if_icmp .ge 10, 3) := by decide +kernel
theorem dX2_turns_13 : decode cX2_turns 13 = .ok (.aload_n 2, 1) := by decide +kernel
theorem dX2_turns_14 : decode cX2_turns 14 = .ok (.aload_n 2, 1) := by decide +kernel
theorem dX2_turns_15 : decode cX2_turns 15 = .ok (.iconst 0, 1) := by decide +kernel
theorem dX2_turns_16 : decode cX2_turns 16 = .ok (.iaload, 1) := by decide +kernel
theorem dX2_turns_17 : decode cX2_turns 17 = .ok (.bipush 10, 2) := by decide +kernel
theorem dX2_turns_19 : decode cX2_turns 19 = .ok (.iastore, 1) := by decide +kernel
theorem dX2_turns_20 : decode cX2_turns 20 = .ok (.iload_n 1, 1) := by decide +kernel
theorem dX2_turns_21 : decode cX2_turns 21 = .ok (.aload_n 0, 1) := by decide +kernel
theorem dX2_turns_22 : decode cX2_turns 22 = .ok (.getfield 9, 3) := by decide +kernel
theorem dX2_turns_25 : decode cX2_turns 25 = .ok (.iadd, 1) := by decide +kernel
theorem dX2_turns_26 : decode cX2_turns 26 = .ok (.ireturn, 1) := by decide +kernel
theorem dX2_adds_0 : decode cX2_adds 0 = .ok (.aload_n 2, 1) := by decide +kernel
theorem dX2_adds_1 : decode cX2_adds 1 = .ok (.iconst 0, 1) := by decide +kernel
theorem dX2_adds_2 : decode cX2_adds 2 = .ok (.dup2, 1) := by decide +kernel
theorem dX2_adds_3 : decode cX2_adds 3 = .ok (.iaload, 1) := by decide +kernel
theorem dX2_adds_4 : decode cX2_adds 4 = .ok (.iconst 1, 1) := by decide +kernel
theorem dX2_adds_5 : decode cX2_adds 5 = .ok (.iadd, 1) := by decide +kernel
theorem dX2_adds_6 : decode cX2_adds 6 = .ok (.dup_x2, 1) := by decide +kernel
theorem dX2_adds_7 : decode cX2_adds 7 = .ok (.iastore, 1) := by decide +kernel
theorem dX2_adds_8 : decode cX2_adds 8 = .ok (.aload_n 2, 1) := by decide +kernel
theorem dX2_adds_9 : decode cX2_adds 9 = .ok (.arraylength, 1) := by decide +kernel
theorem dX2_adds_10 : decode cX2_adds 10 = .ok (.if_icmp .ge 10, 3) := by decide +kernel
theorem dX2_adds_13 : decode cX2_adds 13 = .ok (.aload_n 2, 1) := by decide +kernel
theorem dX2_adds_14 : decode cX2_adds 14 = .ok (.aload_n 2, 1) := by decide +kernel
theorem dX2_adds_15 : decode cX2_adds 15 = .ok (.iconst 0, 1) := by decide +kernel
theorem dX2_adds_16 : decode cX2_adds 16 = .ok (.iaload, 1) := by decide +kernel
theorem dX2_adds_17 : decode cX2_adds 17 = .ok (.bipush 11, 2) := by decide +kernel
theorem dX2_adds_19 : decode cX2_adds 19 = .ok (.iastore, 1) := by decide +kernel
theorem dX2_adds_20 : decode cX2_adds 20 = .ok (.aload_n 0, 1) := by decide +kernel
theorem dX2_adds_21 : decode cX2_adds 21 = .ok (.iload_n 1, 1) := by decide +kernel
theorem dX2_adds_22 : decode cX2_adds 22 = .ok (.aload_n 2, 1) := by decide +kernel
theorem dX2_adds_23 : decode cX2_adds 23 = .ok (.invokevirtual 37, 3) := by decide +kernel
theorem dX2_adds_26 : decode cX2_adds 26 = .ok (.iconst 2, 1) := by decide +kernel
theorem dX2_adds_27 : decode cX2_adds 27 = .ok (.imul, 1) := by decide +kernel
theorem dX2_adds_28 : decode cX2_adds 28 = .ok (.ireturn, 1) := by decide +kernel
theorem dX2_reads_0 : decode cX2_reads 0 = .ok (.aload_n 2, 1) := by decide +kernel
theorem dX2_reads_1 : decode cX2_reads 1 = .ok (.iconst 0, 1) := by decide +kernel
theorem dX2_reads_2 : decode cX2_reads 2 = .ok (.dup2, 1) := by decide +kernel
theorem dX2_reads_3 : decode cX2_reads 3 = .ok (.iaload, 1) := by decide +kernel
theorem dX2_reads_4 : decode cX2_reads 4 = .ok (.iconst 1, 1) := by decide +kernel
theorem dX2_reads_5 : decode cX2_reads 5 = .ok (.iadd, 1) := by decide +kernel
theorem dX2_reads_6 : decode cX2_reads 6 = .ok (.dup_x2, 1) := by decide +kernel
theorem dX2_reads_7 : decode cX2_reads 7 = .ok (.iastore, 1) := by decide +kernel
theorem dX2_reads_8 : decode cX2_reads 8 = .ok (.aload_n 2, 1) := by decide +kernel
theorem dX2_reads_9 : decode cX2_reads 9 = .ok (.arraylength, 1) := by decide +kernel
theorem dX2_reads_10 : decode cX2_reads 10 = .ok (.if_icmp .ge 10, 3) := by decide +kernel
theorem dX2_reads_13 : decode cX2_reads 13 = .ok (.aload_n 2, 1) := by decide +kernel
theorem dX2_reads_14 : decode cX2_reads 14 = .ok (.aload_n 2, 1) := by decide +kernel
theorem dX2_reads_15 : decode cX2_reads 15 = .ok (.iconst 0, 1) := by decide +kernel
theorem dX2_reads_16 : decode cX2_reads 16 = .ok (.iaload, 1) := by decide +kernel
theorem dX2_reads_17 : decode cX2_reads 17 = .ok (.bipush 12, 2) := by decide +kernel
theorem dX2_reads_19 : decode cX2_reads 19 = .ok (.iastore, 1) := by decide +kernel
theorem dX2_reads_20 : decode cX2_reads 20 = .ok (.aload_n 0, 1) := by decide +kernel
theorem dX2_reads_21 : decode cX2_reads 21 = .ok (.iload_n 1, 1) := by decide +kernel
theorem dX2_reads_22 : decode cX2_reads 22 = .ok (.aload_n 2, 1) := by decide +kernel
theorem dX2_reads_23 : decode cX2_reads 23 = .ok (.invokevirtual 41, 3) := by decide +kernel
theorem dX2_reads_26 : decode cX2_reads 26 = .ok (.istore_n 3, 1) := by decide +kernel
theorem dX2_reads_27 : decode cX2_reads 27 = .ok (.iload_n 3, 1) := by decide +kernel
theorem dX2_reads_28 : decode cX2_reads 28 = .ok (.aload_n 0, 1) := by decide +kernel
theorem dX2_reads_29 : decode cX2_reads 29 = .ok (.iload_n 1, 1) := by decide +kernel
theorem dX2_reads_30 : decode cX2_reads 30 = .ok (.aload_n 0, 1) := by decide +kernel
theorem dX2_reads_31 : decode cX2_reads 31 = .ok (.getfield 15, 3) := by decide +kernel
theorem dX2_reads_34 : decode cX2_reads 34 = .ok (.isub, 1) := by decide +kernel
theorem dX2_reads_35 : decode cX2_reads 35 = .ok (.aload_n 2, 1) := by decide +kernel
theorem dX2_reads_36 : decode cX2_reads 36 = .ok (.invokevirtual 37, 3) := by decide +kernel
theorem dX2_reads_39 : decode cX2_reads 39 = .ok (.ixor, 1) := by decide +kernel
theorem dX2_reads_40 : decode cX2_reads 40 = .ok (.ireturn, 1) := by decide +kernel
theorem dX3_init_0 : decode cX3_init 0 = .ok (.aload_n 0, 1) := by decide +kernel
theorem dX3_init_1 : decode cX3_init 1 = .ok (.iload_n 1, 1) := by decide +kernel
theorem dX3_init_2 : decode cX3_init 2 = .ok (.iload_n 2, 1) := by decide +kernel
theorem dX3_init_3 : decode cX3_init 3 = .ok (.invokespecial 3, 3) := by decide +kernel
theorem dX3_init_6 : decode cX3_init 6 = .ok (.return_, 1) := by decide +kernel
theorem dX3_kindNumber_0 : decode cX3_kindNumber 0 = .ok (.iconst 3, 1) := by decide +kernel
theorem dX3_kindNumber_1 : decode cX3_kindNumber 1 = .ok (.ireturn, 1) := by decide +kernel
theorem dX3_isUnder_0 : decode cX3_isUnder 0 = .ok (.iload_n 1, 1) := by decide +kernel
theorem dX3_isUnder_1 : decode cX3_isUnder 1 = .ok (.iconst 3, 1) := by decide +kernel
theorem dX3_isUnder_2 : decode cX3_isUnder 2 = .ok (.if_icmp .eq 11, 3) := by decide +kernel
theorem dX3_isUnder_5 : decode cX3_isUnder 5 = .ok (.aload_n 0, 1) := by decide +kernel
theorem dX3_isUnder_6 : decode cX3_isUnder 6 = .ok (.iload_n 1, 1) := by decide +kernel
theorem dX3_isUnder_7 : decode cX3_isUnder 7 = .ok (.invokespecial 9, 3) := by decide +kernel
theorem dX3_isUnder_10 : decode cX3_isUnder 10 = .ok (.ifCond .eq 7, 3) := by decide +kernel
theorem dX3_isUnder_13 : decode cX3_isUnder 13 = .ok (.iconst 1, 1) := by decide +kernel
theorem dX3_isUnder_14 : decode cX3_isUnder 14 = .ok (.goto 4, 3) := by decide +kernel
theorem dX3_isUnder_17 : decode cX3_isUnder 17 = .ok (.iconst 0, 1) := by decide +kernel
theorem dX3_isUnder_18 : decode cX3_isUnder 18 = .ok (.ireturn, 1) := by decide +kernel
theorem dX3_reckon_0 : decode cX3_reckon 0 = .ok (.lload_n 1, 1) := by decide +kernel
theorem dX3_reckon_1 : decode cX3_reckon 1 = .ok (.aload_n 3, 1) := by decide +kernel
theorem dX3_reckon_2 : decode cX3_reckon 2 = .ok (.getfield 13, 3) := by decide +kernel
theorem dX3_reckon_5 : decode cX3_reckon 5 = .ok (.invokestatic 19, 3) := by decide +kernel
theorem dX3_reckon_8 : decode cX3_reckon 8 = .ok (.lreturn, 1) := by decide +kernel
theorem dX3_adds_0 : decode cX3_adds 0 = .ok (.aload_n 2, 1) := by decide +kernel
theorem dX3_adds_1 : decode cX3_adds 1 = .ok (.iconst 0, 1) := by decide +kernel
theorem dX3_adds_2 : decode cX3_adds 2 = .ok (.dup2, 1) := by decide +kernel
theorem dX3_adds_3 : decode cX3_adds 3 = .ok (.iaload, 1) := by decide +kernel
theorem dX3_adds_4 : decode cX3_adds 4 = .ok (.iconst 1, 1) := by decide +kernel
theorem dX3_adds_5 : decode cX3_adds 5 = .ok (.iadd, 1) := by decide +kernel
theorem dX3_adds_6 : decode cX3_adds 6 = .ok (.dup_x2, 1) := by decide +kernel
theorem dX3_adds_7 : decode cX3_adds 7 = .ok (.iastore, 1) := by decide +kernel
theorem dX3_adds_8 : decode cX3_adds 8 = .ok (.aload_n 2, 1) := by decide +kernel
theorem dX3_adds_9 : decode cX3_adds 9 = .ok (.arraylength, 1) := by decide +kernel
theorem dX3_adds_10 : decode cX3_adds 10 = .ok (.if_icmp .ge 10, 3) := by decide +kernel
theorem dX3_adds_13 : decode cX3_adds 13 = .ok (.aload_n 2, 1) := by decide +kernel
theorem dX3_adds_14 : decode cX3_adds 14 = .ok (.aload_n 2, 1) := by decide +kernel
theorem dX3_adds_15 : decode cX3_adds 15 = .ok (.iconst 0, 1) := by decide +kernel
theorem dX3_adds_16 : decode cX3_adds 16 = .ok (.iaload, 1) := by decide +kernel
theorem dX3_adds_17 : decode cX3_adds 17 = .ok (.bipush 40, 2) := by decide +kernel
theorem dX3_adds_19 : decode cX3_adds 19 = .ok (.iastore, 1) := by decide +kernel
theorem dX3_adds_20 : decode cX3_adds 20 = .ok (.aload_n 0, 1) := by decide +kernel
theorem dX3_adds_21 : decode cX3_adds 21 = .ok (.iload_n 1, 1) := by decide +kernel
theorem dX3_adds_22 : decode cX3_adds 22 = .ok (.iconst 1, 1) := by decide +kernel
theorem dX3_adds_23 : decode cX3_adds 23 = .ok (.iadd, 1) := by decide +kernel
theorem dX3_adds_24 : decode cX3_adds 24 = .ok (.aload_n 2, 1) := by decide +kernel
theorem dX3_adds_25 : decode cX3_adds 25 = .ok (.invokespecial 25, 3) := by decide +kernel
theorem dX3_adds_28 : decode cX3_adds 28 = .ok (.ireturn, 1) := by decide +kernel
theorem dX4_init_0 : decode cX4_init 0 = .ok (.aload_n 0, 1) := by decide +kernel
theorem dX4_init_1 : decode cX4_init 1 = .ok (.invokespecial 3, 3) := by decide +kernel
theorem dX4_init_4 : decode cX4_init 4 = .ok (.aload_n 0, 1) := by decide +kernel
theorem dX4_init_5 : decode cX4_init 5 = .ok (.new 9, 3) := by decide +kernel
theorem dX4_init_8 : decode cX4_init 8 = .ok (.dup, 1) := by decide +kernel
theorem dX4_init_9 : decode cX4_init 9 = .ok (.invokespecial 11, 3) := by decide +kernel
theorem dX4_init_12 : decode cX4_init 12 = .ok (.putfield 12, 3) := by decide +kernel
theorem dX4_init_15 : decode cX4_init 15 = .ok (.aload_n 0, 1) := by decide +kernel
theorem dX4_init_16 : decode cX4_init 16 = .ok (.iconst (-1), 1) := by decide +kernel
theorem dX4_init_17 : decode cX4_init 17 = .ok (.putfield 18, 3) := by decide +kernel
theorem dX4_init_20 : decode cX4_init 20 = .ok (.return_, 1) := by decide +kernel
theorem dX4_read_0 : decode cX4_read 0 = .ok (.aload_n 0, 1) := by decide +kernel
theorem dX4_read_1 : decode cX4_read 1 = .ok (.getfield 12, 3) := by decide +kernel
theorem dX4_read_4 : decode cX4_read 4 = .ok (.aload_n 2, 1) := by decide +kernel
theorem dX4_read_5 : decode cX4_read 5 = .ok (.invokevirtual 22, 3) := by decide +kernel
theorem dX4_read_8 : decode cX4_read 8 = .ok (.aload_n 0, 1) := by decide +kernel
theorem dX4_read_9 : decode cX4_read 9 = .ok (.aload_n 1, 1) := by decide +kernel
theorem dX4_read_10 : decode cX4_read 10 = .ok (.putfield 26, 3) := by decide +kernel
theorem dX4_read_13 : decode cX4_read 13 = .ok (.aload_n 0, 1) := by decide +kernel
theorem dX4_read_14 : decode cX4_read 14 = .ok (.iconst 0, 1) := by decide +kernel
theorem dX4_read_15 : decode cX4_read 15 = .ok (.putfield 30, 3) := by decide +kernel
theorem dX4_read_18 : decode cX4_read 18 = .ok (.aload_n 0, 1) := by decide +kernel
theorem dX4_read_19 : decode cX4_read 19 = .ok (.iconst (-1), 1) := by decide +kernel
theorem dX4_read_20 : decode cX4_read 20 = .ok (.putfield 18, 3) := by decide +kernel
theorem dX4_read_23 : decode cX4_read 23 = .ok (.iconst 0, 1) := by decide +kernel
theorem dX4_read_24 : decode cX4_read 24 = .ok (.istore_n 3, 1) := by decide +kernel
theorem dX4_read_25 : decode cX4_read 25 = .ok (.iload_n 3, 1) := by decide +kernel
theorem dX4_read_26 : decode cX4_read 26 = .ok (.sipush 160, 3) := by decide +kernel
theorem dX4_read_29 : decode cX4_read 29 = .ok (.if_icmp .gt 38, 3) := by decide +kernel
theorem dX4_read_32 : decode cX4_read 32 = .ok (.aload_n 0, 1) := by decide +kernel
theorem dX4_read_33 : decode cX4_read 33 = .ok (.invokevirtual 33, 3) := by decide +kernel
theorem dX4_read_36 : decode cX4_read 36 = .ok (.ifCond .eq 31, 3) := by decide +kernel
theorem dX4_read_39 : decode cX4_read 39 = .ok (.iinc 3 1, 3) := by decide +kernel
theorem dX4_read_42 : decode cX4_read 42 = .ok (.aload_n 0, 1) := by decide +kernel
theorem dX4_read_43 : decode cX4_read 43 = .ok (.getfield 30, 3) := by decide +kernel
theorem dX4_read_46 : decode cX4_read 46 = .ok (.aload_n 0, 1) := by decide +kernel
theorem dX4_read_47 : decode cX4_read 47 = .ok (.getfield 26, 3) := by decide +kernel
theorem dX4_read_50 : decode cX4_read 50 = .ok (.getfield 37, 3) := by decide +kernel
theorem dX4_read_53 : decode cX4_read 53 = .ok (.if_icmp .ge 12, 3) := by decide +kernel
theorem dX4_read_56 : decode cX4_read 56 = .ok (.aload_n 0, 1) := by decide +kernel
theorem dX4_read_57 : decode cX4_read 57 = .ok (.bipush 59, 2) := by decide +kernel
theorem dX4_read_59 : decode cX4_read 59 = .ok (.invokevirtual 42, 3) := by decide +kernel
theorem dX4_read_62 : decode cX4_read 62 = .ok (.ifCond .ne (-37), 3) := by decide +kernel
theorem dX4_read_65 : decode cX4_read 65 = .ok (.iload_n 3, 1) := by decide +kernel
theorem dX4_read_66 : decode cX4_read 66 = .ok (.ireturn, 1) := by decide +kernel
theorem dX4_read_67 : decode cX4_read 67 = .ok (.iload_n 3, 1) := by decide +kernel
theorem dX4_read_68 : decode cX4_read 68 = .ok (.ireturn, 1) := by decide +kernel
theorem dX4_readItem_0 : decode cX4_readItem 0 = .ok (.aload_n 0, 1) := by decide +kernel
theorem dX4_readItem_1 : decode cX4_readItem 1 = .ok (.getfield 26, 3) := by decide +kernel
theorem dX4_readItem_4 : decode cX4_readItem 4 = .ok (.aload_n 0, 1) := by decide +kernel
theorem dX4_readItem_5 : decode cX4_readItem 5 = .ok (.getfield 30, 3) := by decide +kernel
theorem dX4_readItem_8 : decode cX4_readItem 8 = .ok (.invokevirtual 46, 3) := by decide +kernel
theorem dX4_readItem_11 : decode cX4_readItem 11 = .ok (.lookupswitch 74 #[(98, 49), (103, 69), (108, 54), (118, 59), (119, 64)], 49) := by decide +kernel
theorem dX4_readItem_60 : decode cX4_readItem 60 = .ok (.aload_n 0, 1) := by decide +kernel
theorem dX4_readItem_61 : decode cX4_readItem 61 = .ok (.invokevirtual 50, 3) := by decide +kernel
theorem dX4_readItem_64 : decode cX4_readItem 64 = .ok (.ireturn, 1) := by decide +kernel
theorem dX4_readItem_65 : decode cX4_readItem 65 = .ok (.aload_n 0, 1) := by decide +kernel
theorem dX4_readItem_66 : decode cX4_readItem 66 = .ok (.invokevirtual 53, 3) := by decide +kernel
theorem dX4_readItem_69 : decode cX4_readItem 69 = .ok (.ireturn, 1) := by decide +kernel
theorem dX4_readItem_70 : decode cX4_readItem 70 = .ok (.aload_n 0, 1) := by decide +kernel
theorem dX4_readItem_71 : decode cX4_readItem 71 = .ok (.invokevirtual 56, 3) := by decide +kernel
theorem dX4_readItem_74 : decode cX4_readItem 74 = .ok (.ireturn, 1) := by decide +kernel
theorem dX4_readItem_75 : decode cX4_readItem 75 = .ok (.aload_n 0, 1) := by decide +kernel
theorem dX4_readItem_76 : decode cX4_readItem 76 = .ok (.invokevirtual 59, 3) := by decide +kernel
theorem dX4_readItem_79 : decode cX4_readItem 79 = .ok (.ireturn, 1) := by decide +kernel
theorem dX4_readItem_80 : decode cX4_readItem 80 = .ok (.aload_n 0, 1) := by decide +kernel
theorem dX4_readItem_81 : decode cX4_readItem 81 = .ok (.invokevirtual 62, 3) := by decide +kernel
theorem dX4_readItem_84 : decode cX4_readItem 84 = .ok (.ireturn, 1) := by decide +kernel
theorem dX4_readItem_85 : decode cX4_readItem 85 = .ok (.aload_n 0, 1) := by decide +kernel
theorem dX4_readItem_86 : decode cX4_readItem 86 = .ok (.aload_n 0, 1) := by decide +kernel
theorem dX4_readItem_87 : decode cX4_readItem 87 = .ok (.getfield 30, 3) := by decide +kernel
theorem dX4_readItem_90 : decode cX4_readItem 90 = .ok (.invokevirtual 65, 3) := by decide +kernel
theorem dX4_readItem_93 : decode cX4_readItem 93 = .ok (.ireturn, 1) := by decide +kernel
theorem dX4_readBase_0 : decode cX4_readBase 0 = .ok (.aload_n 0, 1) := by decide +kernel
theorem dX4_readBase_1 : decode cX4_readBase 1 = .ok (.ldc 68, 2) := by decide +kernel
theorem dX4_readBase_3 : decode cX4_readBase 3 = .ok (.invokevirtual 70, 3) := by decide +kernel
theorem dX4_readBase_6 : decode cX4_readBase 6 = .ok (.ifCond .eq 13, 3) := by decide +kernel
theorem dX4_readBase_9 : decode cX4_readBase 9 = .ok (.aload_n 0, 1) := by decide +kernel
theorem dX4_readBase_10 : decode cX4_readBase 10 = .ok (.iconst 2, 1) := by decide +kernel
theorem dX4_readBase_11 : decode cX4_readBase 11 = .ok (.bipush 10, 2) := by decide +kernel
theorem dX4_readBase_13 : decode cX4_readBase 13 = .ok (.invokevirtual 74, 3) := by decide +kernel
theorem dX4_readBase_16 : decode cX4_readBase 16 = .ok (.ifCond .ne 5, 3) := by decide +kernel
theorem dX4_readBase_19 : decode cX4_readBase 19 = .ok (.iconst 0, 1) := by decide +kernel
theorem dX4_readBase_20 : decode cX4_readBase 20 = .ok (.ireturn, 1) := by decide +kernel
theorem dX4_readBase_21 : decode cX4_readBase 21 = .ok (.aload_n 0, 1) := by decide +kernel
theorem dX4_readBase_22 : decode cX4_readBase 22 = .ok (.getfield 12, 3) := by decide +kernel
theorem dX4_readBase_25 : decode cX4_readBase 25 = .ok (.aload_n 0, 1) := by decide +kernel
theorem dX4_readBase_26 : decode cX4_readBase 26 = .ok (.getfield 78, 3) := by decide +kernel
theorem dX4_readBase_29 : decode cX4_readBase 29 = .ok (.putfield 81, 3) := by decide +kernel
theorem dX4_readBase_32 : decode cX4_readBase 32 = .ok (.iconst 1, 1) := by decide +kernel
theorem dX4_readBase_33 : decode cX4_readBase 33 = .ok (.ireturn, 1) := by decide +kernel
theorem dX4_readLaw_0 : decode cX4_readLaw 0 = .ok (.aload_n 0, 1) := by decide +kernel
theorem dX4_readLaw_1 : decode cX4_readLaw 1 = .ok (.getfield 30, 3) := by decide +kernel
theorem dX4_readLaw_4 : decode cX4_readLaw 4 = .ok (.istore_n 1, 1) := by decide +kernel
theorem dX4_readLaw_5 : decode cX4_readLaw 5 = .ok (.aload_n 0, 1) := by decide +kernel
theorem dX4_readLaw_6 : decode cX4_readLaw 6 = .ok (.ldc 83, 2) := by decide +kernel
theorem dX4_readLaw_8 : decode cX4_readLaw 8 = .ok (.invokevirtual 70, 3) := by decide +kernel
theorem dX4_readLaw_11 : decode cX4_readLaw 11 = .ok (.ifCond .ne 5, 3) := by decide +kernel
theorem dX4_readLaw_14 : decode cX4_readLaw 14 = .ok (.iconst 0, 1) := by decide +kernel
theorem dX4_readLaw_15 : decode cX4_readLaw 15 = .ok (.ireturn, 1) := by decide +kernel
theorem dX4_readLaw_16 : decode cX4_readLaw 16 = .ok (.aload_n 0, 1) := by decide +kernel
theorem dX4_readLaw_17 : decode cX4_readLaw 17 = .ok (.getfield 12, 3) := by decide +kernel
theorem dX4_readLaw_20 : decode cX4_readLaw 20 = .ok (.invokevirtual 85, 3) := by decide +kernel
theorem dX4_readLaw_23 : decode cX4_readLaw 23 = .ok (.ifCond .eq 9, 3) := by decide +kernel
theorem dX4_readLaw_26 : decode cX4_readLaw 26 = .ok (.aload_n 0, 1) := by decide +kernel
theorem dX4_readLaw_27 : decode cX4_readLaw 27 = .ok (.iload_n 1, 1) := by decide +kernel
theorem dX4_readLaw_28 : decode cX4_readLaw 28 = .ok (.invokevirtual 65, 3) := by decide +kernel
theorem dX4_readLaw_31 : decode cX4_readLaw 31 = .ok (.ireturn, 1) := by decide +kernel
theorem dX4_readLaw_32 : decode cX4_readLaw 32 = .ok (.aload_n 0, 1) := by decide +kernel
theorem dX4_readLaw_33 : decode cX4_readLaw 33 = .ok (.iconst 0, 1) := by decide +kernel
theorem dX4_readLaw_34 : decode cX4_readLaw 34 = .ok (.bipush 6, 2) := by decide +kernel
theorem dX4_readLaw_36 : decode cX4_readLaw 36 = .ok (.invokevirtual 74, 3) := by decide +kernel
theorem dX4_readLaw_39 : decode cX4_readLaw 39 = .ok (.ifCond .ne 5, 3) := by decide +kernel
theorem dX4_readLaw_42 : decode cX4_readLaw 42 = .ok (.iconst 0, 1) := by decide +kernel
theorem dX4_readLaw_43 : decode cX4_readLaw 43 = .ok (.ireturn, 1) := by decide +kernel
theorem dX4_readLaw_44 : decode cX4_readLaw 44 = .ok (.aload_n 0, 1) := by decide +kernel
theorem dX4_readLaw_45 : decode cX4_readLaw 45 = .ok (.getfield 78, 3) := by decide +kernel
theorem dX4_readLaw_48 : decode cX4_readLaw 48 = .ok (.istore_n 2, 1) := by decide +kernel
theorem dX4_readLaw_49 : decode cX4_readLaw 49 = .ok (.aload_n 0, 1) := by decide +kernel
theorem dX4_readLaw_50 : decode cX4_readLaw 50 = .ok (.iconst 0, 1) := by decide +kernel
theorem dX4_readLaw_51 : decode cX4_readLaw 51 = .ok (.bipush 9, 2) := by decide +kernel
theorem dX4_readLaw_53 : decode cX4_readLaw 53 = .ok (.invokevirtual 74, 3) := by decide +kernel
theorem dX4_readLaw_56 : decode cX4_readLaw 56 = .ok (.ifCond .ne 5, 3) := by decide +kernel
theorem dX4_readLaw_59 : decode cX4_readLaw 59 = .ok (.iconst 0, 1) := by decide +kernel
theorem dX4_readLaw_60 : decode cX4_readLaw 60 = .ok (.ireturn, 1) := by decide +kernel
theorem dX4_readLaw_61 : decode cX4_readLaw 61 = .ok (.aload_n 0, 1) := by decide +kernel
theorem dX4_readLaw_62 : decode cX4_readLaw 62 = .ok (.getfield 12, 3) := by decide +kernel
theorem dX4_readLaw_65 : decode cX4_readLaw 65 = .ok (.iload_n 2, 1) := by decide +kernel
theorem dX4_readLaw_66 : decode cX4_readLaw 66 = .ok (.aload_n 0, 1) := by decide +kernel
theorem dX4_readLaw_67 : decode cX4_readLaw 67 = .ok (.getfield 78, 3) := by decide +kernel
theorem dX4_readLaw_70 : decode cX4_readLaw 70 = .ok (.invokevirtual 88, 3) := by decide +kernel
theorem dX4_readLaw_73 : decode cX4_readLaw 73 = .ok (.pop, 1) := by decide +kernel
theorem dX4_readLaw_74 : decode cX4_readLaw 74 = .ok (.iconst 1, 1) := by decide +kernel
theorem dX4_readLaw_75 : decode cX4_readLaw 75 = .ok (.ireturn, 1) := by decide +kernel
theorem dX4_readValue_0 : decode cX4_readValue 0 = .ok (.aload_n 0, 1) := by decide +kernel
theorem dX4_readValue_1 : decode cX4_readValue 1 = .ok (.ldc 92, 2) := by decide +kernel
theorem dX4_readValue_3 : decode cX4_readValue 3 = .ok (.invokevirtual 70, 3) := by decide +kernel
theorem dX4_readValue_6 : decode cX4_readValue 6 = .ok (.ifCond .eq 20, 3) := by decide +kernel
theorem dX4_readValue_9 : decode cX4_readValue 9 = .ok (.aload_n 0, 1) := by decide +kernel
theorem dX4_readValue_10 : decode cX4_readValue 10 = .ok (.iconst 0, 1) := by decide +kernel
theorem dX4_readValue_11 : decode cX4_readValue 11 = .ok (.aload_n 0, 1) := by decide +kernel
theorem dX4_readValue_12 : decode cX4_readValue 12 = .ok (.getfield 12, 3) := by decide +kernel
theorem dX4_readValue_15 : decode cX4_readValue 15 = .ok (.getfield 94, 3) := by decide +kernel
theorem dX4_readValue_18 : decode cX4_readValue 18 = .ok (.iconst 1, 1) := by decide +kernel
theorem dX4_readValue_19 : decode cX4_readValue 19 = .ok (.isub, 1) := by decide +kernel
theorem dX4_readValue_20 : decode cX4_readValue 20 = .ok (.invokevirtual 74, 3) := by decide +kernel
theorem dX4_readValue_23 : decode cX4_readValue 23 = .ok (.ifCond .ne 5, 3) := by decide +kernel
theorem dX4_readValue_26 : decode cX4_readValue 26 = .ok (.iconst 0, 1) := by decide +kernel
theorem dX4_readValue_27 : decode cX4_readValue 27 = .ok (.ireturn, 1) := by decide +kernel
theorem dX4_readValue_28 : decode cX4_readValue 28 = .ok (.aload_n 0, 1) := by decide +kernel
theorem dX4_readValue_29 : decode cX4_readValue 29 = .ok (.getfield 78, 3) := by decide +kernel
theorem dX4_readValue_32 : decode cX4_readValue 32 = .ok (.istore_n 1, 1) := by decide +kernel
theorem dX4_readValue_33 : decode cX4_readValue 33 = .ok (.aload_n 0, 1) := by decide +kernel
theorem dX4_readValue_34 : decode cX4_readValue 34 = .ok (.getfield 12, 3) := by decide +kernel
theorem dX4_readValue_37 : decode cX4_readValue 37 = .ok (.iload_n 1, 1) := by decide +kernel
theorem dX4_readValue_38 : decode cX4_readValue 38 = .ok (.invokevirtual 97, 3) := by decide +kernel
theorem dX4_readValue_41 : decode cX4_readValue 41 = .ok (.astore_n 2, 1) := by decide +kernel
theorem dX4_readValue_42 : decode cX4_readValue 42 = .ok (.aload_n 2, 1) := by decide +kernel
theorem dX4_readValue_43 : decode cX4_readValue 43 = .ok (.ifnull 11, 3) := by decide +kernel
theorem dX4_readValue_46 : decode cX4_readValue 46 = .ok (.aload_n 2, 1) := by decide +kernel
theorem dX4_readValue_47 : decode cX4_readValue 47 = .ok (.iconst 5, 1) := by decide +kernel
theorem dX4_readValue_48 : decode cX4_readValue 48 = .ok (.invokevirtual 101, 3) := by decide +kernel
theorem dX4_readValue_51 : decode cX4_readValue 51 = .ok (.ifCond .ne 12, 3) := by decide +kernel
theorem dX4_readValue_54 : decode cX4_readValue 54 = .ok (.aload_n 0, 1) := by decide +kernel
theorem dX4_readValue_55 : decode cX4_readValue 55 = .ok (.aload_n 0, 1) := by decide +kernel
theorem dX4_readValue_56 : decode cX4_readValue 56 = .ok (.getfield 106, 3) := by decide +kernel
theorem dX4_readValue_59 : decode cX4_readValue 59 = .ok (.invokevirtual 65, 3) := by decide +kernel
theorem dX4_readValue_62 : decode cX4_readValue 62 = .ok (.ireturn, 1) := by decide +kernel
theorem dX4_readValue_63 : decode cX4_readValue 63 = .ok (.aload_n 0, 1) := by decide +kernel
theorem dX4_readValue_64 : decode cX4_readValue 64 = .ok (.iconst 0, 1) := by decide +kernel
theorem dX4_readValue_65 : decode cX4_readValue 65 = .ok (.bipush 9, 2) := by decide +kernel
theorem dX4_readValue_67 : decode cX4_readValue 67 = .ok (.invokevirtual 74, 3) := by decide +kernel
theorem dX4_readValue_70 : decode cX4_readValue 70 = .ok (.ifCond .ne 5, 3) := by decide +kernel
theorem dX4_readValue_73 : decode cX4_readValue 73 = .ok (.iconst 0, 1) := by decide +kernel
theorem dX4_readValue_74 : decode cX4_readValue 74 = .ok (.ireturn, 1) := by decide +kernel
theorem dX4_readValue_75 : decode cX4_readValue 75 = .ok (.aload_n 0, 1) := by decide +kernel
theorem dX4_readValue_76 : decode cX4_readValue 76 = .ok (.getfield 78, 3) := by decide +kernel
theorem dX4_readValue_79 : decode cX4_readValue 79 = .ok (.istore_n 3, 1) := by decide +kernel
theorem dX4_readValue_80 : decode cX4_readValue 80 = .ok (.aload_n 0, 1) := by decide +kernel
theorem dX4_readValue_81 : decode cX4_readValue 81 = .ok (.iconst 0, 1) := by decide +kernel
theorem dX4_readValue_82 : decode cX4_readValue 82 = .ok (.sipush 999, 3) := by decide +kernel
theorem dX4_readValue_85 : decode cX4_readValue 85 = .ok (.invokevirtual 74, 3) := by decide +kernel
theorem dX4_readValue_88 : decode cX4_readValue 88 = .ok (.ifCond .ne 5, 3) := by decide +kernel
theorem dX4_readValue_91 : decode cX4_readValue 91 = .ok (.iconst 0, 1) := by decide +kernel
theorem dX4_readValue_92 : decode cX4_readValue 92 = .ok (.ireturn, 1) := by decide +kernel
theorem dX4_readValue_93 : decode cX4_readValue 93 = .ok (.aload_n 0, 1) := by decide +kernel
theorem dX4_readValue_94 : decode cX4_readValue 94 = .ok (.getfield 12, 3) := by decide +kernel
theorem dX4_readValue_97 : decode cX4_readValue 97 = .ok (.iload_n 1, 1) := by decide +kernel
theorem dX4_readValue_98 : decode cX4_readValue 98 = .ok (.iload_n 3, 1) := by decide +kernel
theorem dX4_readValue_99 : decode cX4_readValue 99 = .ok (.aload_n 0, 1) := by decide +kernel
theorem dX4_readValue_100 : decode cX4_readValue 100 = .ok (.getfield 78, 3) := by decide +kernel
theorem dX4_readValue_103 : decode cX4_readValue 103 = .ok (.invokevirtual 109, 3) := by decide +kernel
theorem dX4_readValue_106 : decode cX4_readValue 106 = .ok (.iconst 1, 1) := by decide +kernel
theorem dX4_readValue_107 : decode cX4_readValue 107 = .ok (.ireturn, 1) := by decide +kernel
theorem dX4_readWrite_0 : decode cX4_readWrite 0 = .ok (.aload_n 0, 1) := by decide +kernel
theorem dX4_readWrite_1 : decode cX4_readWrite 1 = .ok (.getfield 30, 3) := by decide +kernel
theorem dX4_readWrite_4 : decode cX4_readWrite 4 = .ok (.istore_n 1, 1) := by decide +kernel
theorem dX4_readWrite_5 : decode cX4_readWrite 5 = .ok (.aload_n 0, 1) := by decide +kernel
theorem dX4_readWrite_6 : decode cX4_readWrite 6 = .ok (.ldc 113, 2) := by decide +kernel
theorem dX4_readWrite_8 : decode cX4_readWrite 8 = .ok (.invokevirtual 70, 3) := by decide +kernel
theorem dX4_readWrite_11 : decode cX4_readWrite 11 = .ok (.ifCond .ne 5, 3) := by decide +kernel
theorem dX4_readWrite_14 : decode cX4_readWrite 14 = .ok (.iconst 0, 1) := by decide +kernel
theorem dX4_readWrite_15 : decode cX4_readWrite 15 = .ok (.ireturn, 1) := by decide +kernel
theorem dX4_readWrite_16 : decode cX4_readWrite 16 = .ok (.aload_n 0, 1) := by decide +kernel
theorem dX4_readWrite_17 : decode cX4_readWrite 17 = .ok (.getfield 12, 3) := by decide +kernel
theorem dX4_readWrite_20 : decode cX4_readWrite 20 = .ok (.invokevirtual 115, 3) := by decide +kernel
theorem dX4_readWrite_23 : decode cX4_readWrite 23 = .ok (.ifCond .eq 9, 3) := by decide +kernel
theorem dX4_readWrite_26 : decode cX4_readWrite 26 = .ok (.aload_n 0, 1) := by decide +kernel
theorem dX4_readWrite_27 : decode cX4_readWrite 27 = .ok (.iload_n 1, 1) := by decide +kernel
theorem dX4_readWrite_28 : decode cX4_readWrite 28 = .ok (.invokevirtual 65, 3) := by decide +kernel
theorem dX4_readWrite_31 : decode cX4_readWrite 31 = .ok (.ireturn, 1) := by decide +kernel
theorem dX4_readWrite_32 : decode cX4_readWrite 32 = .ok (.aload_n 0, 1) := by decide +kernel
theorem dX4_readWrite_33 : decode cX4_readWrite 33 = .ok (.iconst 0, 1) := by decide +kernel
theorem dX4_readWrite_34 : decode cX4_readWrite 34 = .ok (.ldc 118, 2) := by decide +kernel
theorem dX4_readWrite_36 : decode cX4_readWrite 36 = .ok (.invokevirtual 74, 3) := by decide +kernel
theorem dX4_readWrite_39 : decode cX4_readWrite 39 = .ok (.ifCond .ne 5, 3) := by decide +kernel
theorem dX4_readWrite_42 : decode cX4_readWrite 42 = .ok (.iconst 0, 1) := by decide +kernel
theorem dX4_readWrite_43 : decode cX4_readWrite 43 = .ok (.ireturn, 1) := by decide +kernel
theorem dX4_readWrite_44 : decode cX4_readWrite 44 = .ok (.aload_n 0, 1) := by decide +kernel
theorem dX4_readWrite_45 : decode cX4_readWrite 45 = .ok (.getfield 12, 3) := by decide +kernel
theorem dX4_readWrite_48 : decode cX4_readWrite 48 = .ok (.aload_n 0, 1) := by decide +kernel
theorem dX4_readWrite_49 : decode cX4_readWrite 49 = .ok (.getfield 78, 3) := by decide +kernel
theorem dX4_readWrite_52 : decode cX4_readWrite 52 = .ok (.i2l, 1) := by decide +kernel
theorem dX4_readWrite_53 : decode cX4_readWrite 53 = .ok (.invokevirtual 119, 3) := by decide +kernel
theorem dX4_readWrite_56 : decode cX4_readWrite 56 = .ok (.iconst 1, 1) := by decide +kernel
theorem dX4_readWrite_57 : decode cX4_readWrite 57 = .ok (.ireturn, 1) := by decide +kernel
theorem dX4_readGo_0 : decode cX4_readGo 0 = .ok (.aload_n 0, 1) := by decide +kernel
theorem dX4_readGo_1 : decode cX4_readGo 1 = .ok (.getfield 30, 3) := by decide +kernel
theorem dX4_readGo_4 : decode cX4_readGo 4 = .ok (.istore_n 1, 1) := by decide +kernel
theorem dX4_readGo_5 : decode cX4_readGo 5 = .ok (.aload_n 0, 1) := by decide +kernel
theorem dX4_readGo_6 : decode cX4_readGo 6 = .ok (.ldc 123, 2) := by decide +kernel
theorem dX4_readGo_8 : decode cX4_readGo 8 = .ok (.invokevirtual 70, 3) := by decide +kernel
theorem dX4_readGo_11 : decode cX4_readGo 11 = .ok (.ifCond .ne 5, 3) := by decide +kernel
theorem dX4_readGo_14 : decode cX4_readGo 14 = .ok (.iconst 0, 1) := by decide +kernel
theorem dX4_readGo_15 : decode cX4_readGo 15 = .ok (.ireturn, 1) := by decide +kernel
theorem dX4_readGo_16 : decode cX4_readGo 16 = .ok (.aload_n 0, 1) := by decide +kernel
theorem dX4_readGo_17 : decode cX4_readGo 17 = .ok (.getfield 12, 3) := by decide +kernel
theorem dX4_readGo_20 : decode cX4_readGo 20 = .ok (.getfield 125, 3) := by decide +kernel
theorem dX4_readGo_23 : decode cX4_readGo 23 = .ok (.ifCond .eq 13, 3) := by decide +kernel
theorem dX4_readGo_26 : decode cX4_readGo 26 = .ok (.aload_n 0, 1) := by decide +kernel
theorem dX4_readGo_27 : decode cX4_readGo 27 = .ok (.getfield 12, 3) := by decide +kernel
theorem dX4_readGo_30 : decode cX4_readGo 30 = .ok (.invokevirtual 115, 3) := by decide +kernel
theorem dX4_readGo_33 : decode cX4_readGo 33 = .ok (.ifCond .eq 9, 3) := by decide +kernel
theorem dX4_readGo_36 : decode cX4_readGo 36 = .ok (.aload_n 0, 1) := by decide +kernel
theorem dX4_readGo_37 : decode cX4_readGo 37 = .ok (.iload_n 1, 1) := by decide +kernel
theorem dX4_readGo_38 : decode cX4_readGo 38 = .ok (.invokevirtual 65, 3) := by decide +kernel
theorem dX4_readGo_41 : decode cX4_readGo 41 = .ok (.ireturn, 1) := by decide +kernel
theorem dX4_readGo_42 : decode cX4_readGo 42 = .ok (.aload_n 0, 1) := by decide +kernel
theorem dX4_readGo_43 : decode cX4_readGo 43 = .ok (.iconst 0, 1) := by decide +kernel
theorem dX4_readGo_44 : decode cX4_readGo 44 = .ok (.aload_n 0, 1) := by decide +kernel
theorem dX4_readGo_45 : decode cX4_readGo 45 = .ok (.getfield 12, 3) := by decide +kernel
theorem dX4_readGo_48 : decode cX4_readGo 48 = .ok (.getfield 94, 3) := by decide +kernel
theorem dX4_readGo_51 : decode cX4_readGo 51 = .ok (.iconst 1, 1) := by decide +kernel
theorem dX4_readGo_52 : decode cX4_readGo 52 = .ok (.isub, 1) := by decide +kernel
theorem dX4_readGo_53 : decode cX4_readGo 53 = .ok (.invokevirtual 74, 3) := by decide +kernel
theorem dX4_readGo_56 : decode cX4_readGo 56 = .ok (.ifCond .ne 5, 3) := by decide +kernel
theorem dX4_readGo_59 : decode cX4_readGo 59 = .ok (.iconst 0, 1) := by decide +kernel
theorem dX4_readGo_60 : decode cX4_readGo 60 = .ok (.ireturn, 1) := by decide +kernel
theorem dX4_readGo_61 : decode cX4_readGo 61 = .ok (.aload_n 0, 1) := by decide +kernel
theorem dX4_readGo_62 : decode cX4_readGo 62 = .ok (.getfield 12, 3) := by decide +kernel
theorem dX4_readGo_65 : decode cX4_readGo 65 = .ok (.aload_n 0, 1) := by decide +kernel
theorem dX4_readGo_66 : decode cX4_readGo 66 = .ok (.getfield 78, 3) := by decide +kernel
theorem dX4_readGo_69 : decode cX4_readGo 69 = .ok (.invokevirtual 97, 3) := by decide +kernel
theorem dX4_readGo_72 : decode cX4_readGo 72 = .ok (.astore_n 2, 1) := by decide +kernel
theorem dX4_readGo_73 : decode cX4_readGo 73 = .ok (.aload_n 2, 1) := by decide +kernel
theorem dX4_readGo_74 : decode cX4_readGo 74 = .ok (.ifnonnull 9, 3) := by decide +kernel
theorem dX4_readGo_77 : decode cX4_readGo 77 = .ok (.ldc2_w 128, 3) := by decide +kernel
theorem dX4_readGo_80 : decode cX4_readGo 80 = .ok (.goto 18, 3) := by decide +kernel
theorem dX4_readGo_83 : decode cX4_readGo 83 = .ok (.aload_n 2, 1) := by decide +kernel
theorem dX4_readGo_84 : decode cX4_readGo 84 = .ok (.aload_n 0, 1) := by decide +kernel
theorem dX4_readGo_85 : decode cX4_readGo 85 = .ok (.getfield 12, 3) := by decide +kernel
theorem dX4_readGo_88 : decode cX4_readGo 88 = .ok (.invokevirtual 130, 3) := by decide +kernel
theorem dX4_readGo_91 : decode cX4_readGo 91 = .ok (.aload_n 0, 1) := by decide +kernel
theorem dX4_readGo_92 : decode cX4_readGo 92 = .ok (.getfield 12, 3) := by decide +kernel
theorem dX4_readGo_95 : decode cX4_readGo 95 = .ok (.invokevirtual 134, 3) := by decide +kernel
theorem dX4_readGo_98 : decode cX4_readGo 98 = .ok (.lstore_n 3, 1) := by decide +kernel
theorem dX4_readGo_99 : decode cX4_readGo 99 = .ok (.lload_n 3, 1) := by decide +kernel
theorem dX4_readGo_100 : decode cX4_readGo 100 = .ok (.ldc2_w 128, 3) := by decide +kernel
theorem dX4_readGo_103 : decode cX4_readGo 103 = .ok (.lcmp, 1) := by decide +kernel
theorem dX4_readGo_104 : decode cX4_readGo 104 = .ok (.ifCond .ne 9, 3) := by decide +kernel
theorem dX4_readGo_107 : decode cX4_readGo 107 = .ok (.aload_n 0, 1) := by decide +kernel
theorem dX4_readGo_108 : decode cX4_readGo 108 = .ok (.iload_n 1, 1) := by decide +kernel
theorem dX4_readGo_109 : decode cX4_readGo 109 = .ok (.invokevirtual 65, 3) := by decide +kernel
theorem dX4_readGo_112 : decode cX4_readGo 112 = .ok (.ireturn, 1) := by decide +kernel
theorem dX4_readGo_113 : decode cX4_readGo 113 = .ok (.aload_n 0, 1) := by decide +kernel
theorem dX4_readGo_114 : decode cX4_readGo 114 = .ok (.getfield 12, 3) := by decide +kernel
theorem dX4_readGo_117 : decode cX4_readGo 117 = .ok (.lload_n 3, 1) := by decide +kernel
theorem dX4_readGo_118 : decode cX4_readGo 118 = .ok (.invokevirtual 119, 3) := by decide +kernel
theorem dX4_readGo_121 : decode cX4_readGo 121 = .ok (.iconst 1, 1) := by decide +kernel
theorem dX4_readGo_122 : decode cX4_readGo 122 = .ok (.ireturn, 1) := by decide +kernel
theorem dX4_readWord_0 : decode cX4_readWord 0 = .ok (.iconst 0, 1) := by decide +kernel
theorem dX4_readWord_1 : decode cX4_readWord 1 = .ok (.istore_n 2, 1) := by decide +kernel
theorem dX4_readWord_2 : decode cX4_readWord 2 = .ok (.iload_n 2, 1) := by decide +kernel
theorem dX4_readWord_3 : decode cX4_readWord 3 = .ok (.aload_n 1, 1) := by decide +kernel
theorem dX4_readWord_4 : decode cX4_readWord 4 = .ok (.invokevirtual 138, 3) := by decide +kernel
theorem dX4_readWord_7 : decode cX4_readWord 7 = .ok (.if_icmp .ge 23, 3) := by decide +kernel
theorem dX4_readWord_10 : decode cX4_readWord 10 = .ok (.aload_n 0, 1) := by decide +kernel
theorem dX4_readWord_11 : decode cX4_readWord 11 = .ok (.aload_n 1, 1) := by decide +kernel
theorem dX4_readWord_12 : decode cX4_readWord 12 = .ok (.iload_n 2, 1) := by decide +kernel
theorem dX4_readWord_13 : decode cX4_readWord 13 = .ok (.invokevirtual 143, 3) := by decide +kernel
theorem dX4_readWord_16 : decode cX4_readWord 16 = .ok (.invokevirtual 42, 3) := by decide +kernel
theorem dX4_readWord_19 : decode cX4_readWord 19 = .ok (.ifCond .ne 5, 3) := by decide +kernel
theorem dX4_readWord_22 : decode cX4_readWord 22 = .ok (.iconst 0, 1) := by decide +kernel
theorem dX4_readWord_23 : decode cX4_readWord 23 = .ok (.ireturn, 1) := by decide +kernel
theorem dX4_readWord_24 : decode cX4_readWord 24 = .ok (.iinc 2 1, 3) := by decide +kernel
theorem dX4_readWord_27 : decode cX4_readWord 27 = .ok (.goto (-25), 3) := by decide +kernel
theorem dX4_readWord_30 : decode cX4_readWord 30 = .ok (.iconst 1, 1) := by decide +kernel
theorem dX4_readWord_31 : decode cX4_readWord 31 = .ok (.ireturn, 1) := by decide +kernel
theorem dX4_readSign_0 : decode cX4_readSign 0 = .ok (.aload_n 0, 1) := by decide +kernel
theorem dX4_readSign_1 : decode cX4_readSign 1 = .ok (.getfield 26, 3) := by decide +kernel
theorem dX4_readSign_4 : decode cX4_readSign 4 = .ok (.aload_n 0, 1) := by decide +kernel
theorem dX4_readSign_5 : decode cX4_readSign 5 = .ok (.getfield 30, 3) := by decide +kernel
theorem dX4_readSign_8 : decode cX4_readSign 8 = .ok (.invokevirtual 46, 3) := by decide +kernel
theorem dX4_readSign_11 : decode cX4_readSign 11 = .ok (.iload_n 1, 1) := by decide +kernel
theorem dX4_readSign_12 : decode cX4_readSign 12 = .ok (.if_icmp .eq 12, 3) := by decide +kernel
theorem dX4_readSign_15 : decode cX4_readSign 15 = .ok (.aload_n 0, 1) := by decide +kernel
theorem dX4_readSign_16 : decode cX4_readSign 16 = .ok (.aload_n 0, 1) := by decide +kernel
theorem dX4_readSign_17 : decode cX4_readSign 17 = .ok (.getfield 30, 3) := by decide +kernel
theorem dX4_readSign_20 : decode cX4_readSign 20 = .ok (.invokevirtual 65, 3) := by decide +kernel
theorem dX4_readSign_23 : decode cX4_readSign 23 = .ok (.ireturn, 1) := by decide +kernel
theorem dX4_readSign_24 : decode cX4_readSign 24 = .ok (.aload_n 0, 1) := by decide +kernel
theorem dX4_readSign_25 : decode cX4_readSign 25 = .ok (.dup, 1) := by decide +kernel
theorem dX4_readSign_26 : decode cX4_readSign 26 = .ok (.getfield 30, 3) := by decide +kernel
theorem dX4_readSign_29 : decode cX4_readSign 29 = .ok (.iconst 1, 1) := by decide +kernel
theorem dX4_readSign_30 : decode cX4_readSign 30 = .ok (.iadd, 1) := by decide +kernel
theorem dX4_readSign_31 : decode cX4_readSign 31 = .ok (.putfield 30, 3) := by decide +kernel
theorem dX4_readSign_34 : decode cX4_readSign 34 = .ok (.iconst 1, 1) := by decide +kernel
theorem dX4_readSign_35 : decode cX4_readSign 35 = .ok (.ireturn, 1) := by decide +kernel
theorem dX4_readNumber_0 : decode cX4_readNumber 0 = .ok (.aload_n 0, 1) := by decide +kernel
theorem dX4_readNumber_1 : decode cX4_readNumber 1 = .ok (.bipush 32, 2) := by decide +kernel
theorem dX4_readNumber_3 : decode cX4_readNumber 3 = .ok (.invokevirtual 42, 3) := by decide +kernel
theorem dX4_readNumber_6 : decode cX4_readNumber 6 = .ok (.ifCond .ne 5, 3) := by decide +kernel
theorem dX4_readNumber_9 : decode cX4_readNumber 9 = .ok (.iconst 0, 1) := by decide +kernel
theorem dX4_readNumber_10 : decode cX4_readNumber 10 = .ok (.ireturn, 1) := by decide +kernel
theorem dX4_readNumber_11 : decode cX4_readNumber 11 = .ok (.aload_n 0, 1) := by decide +kernel
theorem dX4_readNumber_12 : decode cX4_readNumber 12 = .ok (.aload_n 0, 1) := by decide +kernel
theorem dX4_readNumber_13 : decode cX4_readNumber 13 = .ok (.getfield 30, 3) := by decide +kernel
theorem dX4_readNumber_16 : decode cX4_readNumber 16 = .ok (.putfield 106, 3) := by decide +kernel
theorem dX4_readNumber_19 : decode cX4_readNumber 19 = .ok (.aload_n 0, 1) := by decide +kernel
theorem dX4_readNumber_20 : decode cX4_readNumber 20 = .ok (.iconst 0, 1) := by decide +kernel
theorem dX4_readNumber_21 : decode cX4_readNumber 21 = .ok (.putfield 78, 3) := by decide +kernel
theorem dX4_readNumber_24 : decode cX4_readNumber 24 = .ok (.iconst 0, 1) := by decide +kernel
theorem dX4_readNumber_25 : decode cX4_readNumber 25 = .ok (.istore_n 3, 1) := by decide +kernel
theorem dX4_readNumber_26 : decode cX4_readNumber 26 = .ok (.iload_n 3, 1) := by decide +kernel
theorem dX4_readNumber_27 : decode cX4_readNumber 27 = .ok (.bipush 6, 2) := by decide +kernel
theorem dX4_readNumber_29 : decode cX4_readNumber 29 = .ok (.if_icmp .ge 62, 3) := by decide +kernel
theorem dX4_readNumber_32 : decode cX4_readNumber 32 = .ok (.aload_n 0, 1) := by decide +kernel
theorem dX4_readNumber_33 : decode cX4_readNumber 33 = .ok (.getfield 26, 3) := by decide +kernel
theorem dX4_readNumber_36 : decode cX4_readNumber 36 = .ok (.aload_n 0, 1) := by decide +kernel
theorem dX4_readNumber_37 : decode cX4_readNumber 37 = .ok (.getfield 30, 3) := by decide +kernel
theorem dX4_readNumber_40 : decode cX4_readNumber 40 = .ok (.invokevirtual 46, 3) := by decide +kernel
theorem dX4_readNumber_43 : decode cX4_readNumber 43 = .ok (.invokestatic 147, 3) := by decide +kernel
theorem dX4_readNumber_46 : decode cX4_readNumber 46 = .ok (.ifCond .eq 45, 3) := by decide +kernel
theorem dX4_readNumber_49 : decode cX4_readNumber 49 = .ok (.aload_n 0, 1) := by decide +kernel
theorem dX4_readNumber_50 : decode cX4_readNumber 50 = .ok (.aload_n 0, 1) := by decide +kernel
theorem dX4_readNumber_51 : decode cX4_readNumber 51 = .ok (.getfield 78, 3) := by decide +kernel
theorem dX4_readNumber_54 : decode cX4_readNumber 54 = .ok (.bipush 10, 2) := by decide +kernel
theorem dX4_readNumber_56 : decode cX4_readNumber 56 = .ok (.imul, 1) := by decide +kernel
theorem dX4_readNumber_57 : decode cX4_readNumber 57 = .ok (.aload_n 0, 1) := by decide +kernel
theorem dX4_readNumber_58 : decode cX4_readNumber 58 = .ok (.getfield 26, 3) := by decide +kernel
theorem dX4_readNumber_61 : decode cX4_readNumber 61 = .ok (.aload_n 0, 1) := by decide +kernel
theorem dX4_readNumber_62 : decode cX4_readNumber 62 = .ok (.getfield 30, 3) := by decide +kernel
theorem dX4_readNumber_65 : decode cX4_readNumber 65 = .ok (.invokevirtual 46, 3) := by decide +kernel
theorem dX4_readNumber_68 : decode cX4_readNumber 68 = .ok (.iadd, 1) := by decide +kernel
theorem dX4_readNumber_69 : decode cX4_readNumber 69 = .ok (.bipush 48, 2) := by decide +kernel
theorem dX4_readNumber_71 : decode cX4_readNumber 71 = .ok (.isub, 1) := by decide +kernel
theorem dX4_readNumber_72 : decode cX4_readNumber 72 = .ok (.putfield 78, 3) := by decide +kernel
theorem dX4_readNumber_75 : decode cX4_readNumber 75 = .ok (.aload_n 0, 1) := by decide +kernel
theorem dX4_readNumber_76 : decode cX4_readNumber 76 = .ok (.dup, 1) := by decide +kernel
theorem dX4_readNumber_77 : decode cX4_readNumber 77 = .ok (.getfield 30, 3) := by decide +kernel
theorem dX4_readNumber_80 : decode cX4_readNumber 80 = .ok (.iconst 1, 1) := by decide +kernel
theorem dX4_readNumber_81 : decode cX4_readNumber 81 = .ok (.iadd, 1) := by decide +kernel
theorem dX4_readNumber_82 : decode cX4_readNumber 82 = .ok (.putfield 30, 3) := by decide +kernel
theorem dX4_readNumber_85 : decode cX4_readNumber 85 = .ok (.iinc 3 1, 3) := by decide +kernel
theorem dX4_readNumber_88 : decode cX4_readNumber 88 = .ok (.goto (-62), 3) := by decide +kernel
theorem dX4_readNumber_91 : decode cX4_readNumber 91 = .ok (.aload_n 0, 1) := by decide +kernel
theorem dX4_readNumber_92 : decode cX4_readNumber 92 = .ok (.getfield 30, 3) := by decide +kernel
theorem dX4_readNumber_95 : decode cX4_readNumber 95 = .ok (.aload_n 0, 1) := by decide +kernel
theorem dX4_readNumber_96 : decode cX4_readNumber 96 = .ok (.getfield 106, 3) := by decide +kernel
theorem dX4_readNumber_99 : decode cX4_readNumber 99 = .ok (.if_icmp .eq 19, 3) := by decide +kernel
theorem dX4_readNumber_102 : decode cX4_readNumber 102 = .ok (.aload_n 0, 1) := by decide +kernel
theorem dX4_readNumber_103 : decode cX4_readNumber 103 = .ok (.getfield 78, 3) := by decide +kernel
theorem dX4_readNumber_106 : decode cX4_readNumber 106 = .ok (.iload_n 1, 1) := by decide +kernel
theorem dX4_readNumber_107 : decode cX4_readNumber 107 = .ok (.if_icmp .lt 11, 3) := by decide +kernel
theorem dX4_readNumber_110 : decode cX4_readNumber 110 = .ok (.aload_n 0, 1) := by decide +kernel
theorem dX4_readNumber_111 : decode cX4_readNumber 111 = .ok (.getfield 78, 3) := by decide +kernel
theorem dX4_readNumber_114 : decode cX4_readNumber 114 = .ok (.iload_n 2, 1) := by decide +kernel
theorem dX4_readNumber_115 : decode cX4_readNumber 115 = .ok (.if_icmp .le 12, 3) := by decide +kernel
theorem dX4_readNumber_118 : decode cX4_readNumber 118 = .ok (.aload_n 0, 1) := by decide +kernel
theorem dX4_readNumber_119 : decode cX4_readNumber 119 = .ok (.aload_n 0, 1) := by decide +kernel
theorem dX4_readNumber_120 : decode cX4_readNumber 120 = .ok (.getfield 106, 3) := by decide +kernel
theorem dX4_readNumber_123 : decode cX4_readNumber 123 = .ok (.invokevirtual 65, 3) := by decide +kernel
theorem dX4_readNumber_126 : decode cX4_readNumber 126 = .ok (.ireturn, 1) := by decide +kernel
theorem dX4_readNumber_127 : decode cX4_readNumber 127 = .ok (.iconst 1, 1) := by decide +kernel
theorem dX4_readNumber_128 : decode cX4_readNumber 128 = .ok (.ireturn, 1) := by decide +kernel
theorem dX4_isDigit_0 : decode cX4_isDigit 0 = .ok (.iload_n 0, 1) := by decide +kernel
theorem dX4_isDigit_1 : decode cX4_isDigit 1 = .ok (.bipush 48, 2) := by decide +kernel
theorem dX4_isDigit_3 : decode cX4_isDigit 3 = .ok (.if_icmp .lt 13, 3) := by decide +kernel
theorem dX4_isDigit_6 : decode cX4_isDigit 6 = .ok (.iload_n 0, 1) := by decide +kernel
theorem dX4_isDigit_7 : decode cX4_isDigit 7 = .ok (.bipush 57, 2) := by decide +kernel
theorem dX4_isDigit_9 : decode cX4_isDigit 9 = .ok (.if_icmp .gt 7, 3) := by decide +kernel
theorem dX4_isDigit_12 : decode cX4_isDigit 12 = .ok (.iconst 1, 1) := by decide +kernel
theorem dX4_isDigit_13 : decode cX4_isDigit 13 = .ok (.goto 4, 3) := by decide +kernel
theorem dX4_isDigit_16 : decode cX4_isDigit 16 = .ok (.iconst 0, 1) := by decide +kernel
theorem dX4_isDigit_17 : decode cX4_isDigit 17 = .ok (.ireturn, 1) := by decide +kernel
theorem dX4_failAt_0 : decode cX4_failAt 0 = .ok (.aload_n 0, 1) := by decide +kernel
theorem dX4_failAt_1 : decode cX4_failAt 1 = .ok (.iload_n 1, 1) := by decide +kernel
theorem dX4_failAt_2 : decode cX4_failAt 2 = .ok (.putfield 18, 3) := by decide +kernel
theorem dX4_failAt_5 : decode cX4_failAt 5 = .ok (.iconst 0, 1) := by decide +kernel
theorem dX4_failAt_6 : decode cX4_failAt 6 = .ok (.ireturn, 1) := by decide +kernel
theorem dX5_init_0 : decode cX5_init 0 = .ok (.aload_n 0, 1) := by decide +kernel
theorem dX5_init_1 : decode cX5_init 1 = .ok (.invokespecial 3, 3) := by decide +kernel
theorem dX5_init_4 : decode cX5_init 4 = .ok (.aload_n 0, 1) := by decide +kernel
theorem dX5_init_5 : decode cX5_init 5 = .ok (.sipush 160, 3) := by decide +kernel
theorem dX5_init_8 : decode cX5_init 8 = .ok (.newarray .long, 2) := by decide +kernel
theorem dX5_init_10 : decode cX5_init 10 = .ok (.putfield 9, 3) := by decide +kernel
theorem dX5_init_13 : decode cX5_init 13 = .ok (.aload_n 0, 1) := by decide +kernel
theorem dX5_init_14 : decode cX5_init 14 = .ok (.iconst (-1), 1) := by decide +kernel
theorem dX5_init_15 : decode cX5_init 15 = .ok (.putfield 15, 3) := by decide +kernel
theorem dX5_init_18 : decode cX5_init 18 = .ok (.aload_n 0, 1) := by decide +kernel
theorem dX5_init_19 : decode cX5_init 19 = .ok (.iconst (-1), 1) := by decide +kernel
theorem dX5_init_20 : decode cX5_init 20 = .ok (.putfield 19, 3) := by decide +kernel
theorem dX5_init_23 : decode cX5_init 23 = .ok (.return_, 1) := by decide +kernel
theorem dX5_holdRow_0 : decode cX5_holdRow 0 = .ok (.aload_n 0, 1) := by decide +kernel
theorem dX5_holdRow_1 : decode cX5_holdRow 1 = .ok (.iload_n 1, 1) := by decide +kernel
theorem dX5_holdRow_2 : decode cX5_holdRow 2 = .ok (.putfield 15, 3) := by decide +kernel
theorem dX5_holdRow_5 : decode cX5_holdRow 5 = .ok (.aload_n 0, 1) := by decide +kernel
theorem dX5_holdRow_6 : decode cX5_holdRow 6 = .ok (.iload_n 2, 1) := by decide +kernel
theorem dX5_holdRow_7 : decode cX5_holdRow 7 = .ok (.putfield 22, 3) := by decide +kernel
theorem dX5_holdRow_10 : decode cX5_holdRow 10 = .ok (.aload_n 0, 1) := by decide +kernel
theorem dX5_holdRow_11 : decode cX5_holdRow 11 = .ok (.iconst (-1), 1) := by decide +kernel
theorem dX5_holdRow_12 : decode cX5_holdRow 12 = .ok (.putfield 19, 3) := by decide +kernel
theorem dX5_holdRow_15 : decode cX5_holdRow 15 = .ok (.aload_n 0, 1) := by decide +kernel
theorem dX5_holdRow_16 : decode cX5_holdRow 16 = .ok (.getfield 9, 3) := by decide +kernel
theorem dX5_holdRow_19 : decode cX5_holdRow 19 = .ok (.lconst 0, 1) := by decide +kernel
theorem dX5_holdRow_20 : decode cX5_holdRow 20 = .ok (.invokestatic 25, 3) := by decide +kernel
theorem dX5_holdRow_23 : decode cX5_holdRow 23 = .ok (.return_, 1) := by decide +kernel
theorem dX5_holdLaw_0 : decode cX5_holdLaw 0 = .ok (.aload_n 0, 1) := by decide +kernel
theorem dX5_holdLaw_1 : decode cX5_holdLaw 1 = .ok (.iconst (-1), 1) := by decide +kernel
theorem dX5_holdLaw_2 : decode cX5_holdLaw 2 = .ok (.putfield 15, 3) := by decide +kernel
theorem dX5_holdLaw_5 : decode cX5_holdLaw 5 = .ok (.aload_n 0, 1) := by decide +kernel
theorem dX5_holdLaw_6 : decode cX5_holdLaw 6 = .ok (.iconst 0, 1) := by decide +kernel
theorem dX5_holdLaw_7 : decode cX5_holdLaw 7 = .ok (.putfield 22, 3) := by decide +kernel
theorem dX5_holdLaw_10 : decode cX5_holdLaw 10 = .ok (.aload_n 0, 1) := by decide +kernel
theorem dX5_holdLaw_11 : decode cX5_holdLaw 11 = .ok (.iload_n 1, 1) := by decide +kernel
theorem dX5_holdLaw_12 : decode cX5_holdLaw 12 = .ok (.putfield 19, 3) := by decide +kernel
theorem dX5_holdLaw_15 : decode cX5_holdLaw 15 = .ok (.return_, 1) := by decide +kernel
theorem dX5_refusalOfRow_0 : decode cX5_refusalOfRow 0 = .ok (.aload_n 0, 1) := by decide +kernel
theorem dX5_refusalOfRow_1 : decode cX5_refusalOfRow 1 = .ok (.getfield 19, 3) := by decide +kernel
theorem dX5_refusalOfRow_4 : decode cX5_refusalOfRow 4 = .ok (.iconst (-1), 1) := by decide +kernel
theorem dX5_refusalOfRow_5 : decode cX5_refusalOfRow 5 = .ok (.if_icmp .eq 6, 3) := by decide +kernel
theorem dX5_refusalOfRow_8 : decode cX5_refusalOfRow 8 = .ok (.bipush (-2), 2) := by decide +kernel
theorem dX5_refusalOfRow_10 : decode cX5_refusalOfRow 10 = .ok (.ireturn, 1) := by decide +kernel
theorem dX5_refusalOfRow_11 : decode cX5_refusalOfRow 11 = .ok (.aload_n 0, 1) := by decide +kernel
theorem dX5_refusalOfRow_12 : decode cX5_refusalOfRow 12 = .ok (.getfield 15, 3) := by decide +kernel
theorem dX5_refusalOfRow_15 : decode cX5_refusalOfRow 15 = .ok (.iconst (-1), 1) := by decide +kernel
theorem dX5_refusalOfRow_16 : decode cX5_refusalOfRow 16 = .ok (.if_icmp .ne 8, 3) := by decide +kernel
theorem dX5_refusalOfRow_19 : decode cX5_refusalOfRow 19 = .ok (.bipush (-3), 2) := by decide +kernel
theorem dX5_refusalOfRow_21 : decode cX5_refusalOfRow 21 = .ok (.goto 4, 3) := by decide +kernel
theorem dX5_refusalOfRow_24 : decode cX5_refusalOfRow 24 = .ok (.iconst 0, 1) := by decide +kernel
theorem dX5_refusalOfRow_25 : decode cX5_refusalOfRow 25 = .ok (.ireturn, 1) := by decide +kernel
theorem dX5_has_0 : decode cX5_has 0 = .ok (.iload_n 1, 1) := by decide +kernel
theorem dX5_has_1 : decode cX5_has 1 = .ok (.ifCond .lt 25, 3) := by decide +kernel
theorem dX5_has_4 : decode cX5_has 4 = .ok (.iload_n 2, 1) := by decide +kernel
theorem dX5_has_5 : decode cX5_has 5 = .ok (.aload_n 0, 1) := by decide +kernel
theorem dX5_has_6 : decode cX5_has 6 = .ok (.getfield 22, 3) := by decide +kernel
theorem dX5_has_9 : decode cX5_has 9 = .ok (.if_icmp .gt 17, 3) := by decide +kernel
theorem dX5_has_12 : decode cX5_has 12 = .ok (.iload_n 1, 1) := by decide +kernel
theorem dX5_has_13 : decode cX5_has 13 = .ok (.aload_n 0, 1) := by decide +kernel
theorem dX5_has_14 : decode cX5_has 14 = .ok (.getfield 22, 3) := by decide +kernel
theorem dX5_has_17 : decode cX5_has 17 = .ok (.iload_n 2, 1) := by decide +kernel
theorem dX5_has_18 : decode cX5_has 18 = .ok (.isub, 1) := by decide +kernel
theorem dX5_has_19 : decode cX5_has 19 = .ok (.if_icmp .gt 7, 3) := by decide +kernel
theorem dX5_has_22 : decode cX5_has 22 = .ok (.iconst 1, 1) := by decide +kernel
theorem dX5_has_23 : decode cX5_has 23 = .ok (.goto 4, 3) := by decide +kernel
theorem dX5_has_26 : decode cX5_has 26 = .ok (.iconst 0, 1) := by decide +kernel
theorem dX5_has_27 : decode cX5_has 27 = .ok (.ireturn, 1) := by decide +kernel
theorem dX5_elementAt_0 : decode cX5_elementAt 0 = .ok (.iload_n 1, 1) := by decide +kernel
theorem dX5_elementAt_1 : decode cX5_elementAt 1 = .ok (.ifCond .lt 29, 3) := by decide +kernel
theorem dX5_elementAt_4 : decode cX5_elementAt 4 = .ok (.iload_n 1, 1) := by decide +kernel
theorem dX5_elementAt_5 : decode cX5_elementAt 5 = .ok (.aload_n 0, 1) := by decide +kernel
theorem dX5_elementAt_6 : decode cX5_elementAt 6 = .ok (.getfield 22, 3) := by decide +kernel
theorem dX5_elementAt_9 : decode cX5_elementAt 9 = .ok (.if_icmp .ge 21, 3) := by decide +kernel
theorem dX5_elementAt_12 : decode cX5_elementAt 12 = .ok (.iload_n 1, 1) := by decide +kernel
theorem dX5_elementAt_13 : decode cX5_elementAt 13 = .ok (.aload_n 0, 1) := by decide +kernel
theorem dX5_elementAt_14 : decode cX5_elementAt 14 = .ok (.getfield 9, 3) := by decide +kernel
theorem dX5_elementAt_17 : decode cX5_elementAt 17 = .ok (.arraylength, 1) := by decide +kernel
theorem dX5_elementAt_18 : decode cX5_elementAt 18 = .ok (.if_icmp .ge 12, 3) := by decide +kernel
theorem dX5_elementAt_21 : decode cX5_elementAt 21 = .ok (.aload_n 0, 1) := by decide +kernel
theorem dX5_elementAt_22 : decode cX5_elementAt 22 = .ok (.getfield 9, 3) := by decide +kernel
theorem dX5_elementAt_25 : decode cX5_elementAt 25 = .ok (.iload_n 1, 1) := by decide +kernel
theorem dX5_elementAt_26 : decode cX5_elementAt 26 = .ok (.laload, 1) := by decide +kernel
theorem dX5_elementAt_27 : decode cX5_elementAt 27 = .ok (.goto 4, 3) := by decide +kernel
theorem dX5_elementAt_30 : decode cX5_elementAt 30 = .ok (.lconst 0, 1) := by decide +kernel
theorem dX5_elementAt_31 : decode cX5_elementAt 31 = .ok (.lreturn, 1) := by decide +kernel
theorem dX5_letterAt_0 : decode cX5_letterAt 0 = .ok (.aload_n 0, 1) := by decide +kernel
theorem dX5_letterAt_1 : decode cX5_letterAt 1 = .ok (.iload_n 1, 1) := by decide +kernel
theorem dX5_letterAt_2 : decode cX5_letterAt 2 = .ok (.invokevirtual 31, 3) := by decide +kernel
theorem dX5_letterAt_5 : decode cX5_letterAt 5 = .ok (.l2i, 1) := by decide +kernel
theorem dX5_letterAt_6 : decode cX5_letterAt 6 = .ok (.ireturn, 1) := by decide +kernel
theorem dX5_put_0 : decode cX5_put 0 = .ok (.iload_n 1, 1) := by decide +kernel
theorem dX5_put_1 : decode cX5_put 1 = .ok (.ifCond .lt 23, 3) := by decide +kernel
theorem dX5_put_4 : decode cX5_put 4 = .ok (.iload_n 1, 1) := by decide +kernel
theorem dX5_put_5 : decode cX5_put 5 = .ok (.aload_n 0, 1) := by decide +kernel
theorem dX5_put_6 : decode cX5_put 6 = .ok (.getfield 9, 3) := by decide +kernel
theorem dX5_put_9 : decode cX5_put 9 = .ok (.arraylength, 1) := by decide +kernel
theorem dX5_put_10 : decode cX5_put 10 = .ok (.if_icmp .ge 14, 3) := by decide +kernel
theorem dX5_put_13 : decode cX5_put 13 = .ok (.aload_n 0, 1) := by decide +kernel
theorem dX5_put_14 : decode cX5_put 14 = .ok (.getfield 9, 3) := by decide +kernel
theorem dX5_put_17 : decode cX5_put 17 = .ok (.iload_n 1, 1) := by decide +kernel
theorem dX5_put_18 : decode cX5_put 18 = .ok (.aload_n 0, 1) := by decide +kernel
theorem dX5_put_19 : decode cX5_put 19 = .ok (.lload_n 2, 1) := by decide +kernel
theorem dX5_put_20 : decode cX5_put 20 = .ok (.invokevirtual 35, 3) := by decide +kernel
theorem dX5_put_23 : decode cX5_put 23 = .ok (.lastore, 1) := by decide +kernel
theorem dX5_put_24 : decode cX5_put 24 = .ok (.return_, 1) := by decide +kernel
theorem dX5_lowestBits_0 : decode cX5_lowestBits 0 = .ok (.aload_n 0, 1) := by decide +kernel
theorem dX5_lowestBits_1 : decode cX5_lowestBits 1 = .ok (.getfield 15, 3) := by decide +kernel
theorem dX5_lowestBits_4 : decode cX5_lowestBits 4 = .ok (.tableswitch 42 0 2 #[28, 33, 38], 28) := by decide +kernel
theorem dX5_lowestBits_32 : decode cX5_lowestBits 32 = .ok (.lload_n 1, 1) := by decide +kernel
theorem dX5_lowestBits_33 : decode cX5_lowestBits 33 = .ok (.l2i, 1) := by decide +kernel
theorem dX5_lowestBits_34 : decode cX5_lowestBits 34 = .ok (.i2b, 1) := by decide +kernel
theorem dX5_lowestBits_35 : decode cX5_lowestBits 35 = .ok (.i2l, 1) := by decide +kernel
theorem dX5_lowestBits_36 : decode cX5_lowestBits 36 = .ok (.lreturn, 1) := by decide +kernel
theorem dX5_lowestBits_37 : decode cX5_lowestBits 37 = .ok (.lload_n 1, 1) := by decide +kernel
theorem dX5_lowestBits_38 : decode cX5_lowestBits 38 = .ok (.l2i, 1) := by decide +kernel
theorem dX5_lowestBits_39 : decode cX5_lowestBits 39 = .ok (.i2s, 1) := by decide +kernel
theorem dX5_lowestBits_40 : decode cX5_lowestBits 40 = .ok (.i2l, 1) := by decide +kernel
theorem dX5_lowestBits_41 : decode cX5_lowestBits 41 = .ok (.lreturn, 1) := by decide +kernel
theorem dX5_lowestBits_42 : decode cX5_lowestBits 42 = .ok (.lload_n 1, 1) := by decide +kernel
theorem dX5_lowestBits_43 : decode cX5_lowestBits 43 = .ok (.l2i, 1) := by decide +kernel
theorem dX5_lowestBits_44 : decode cX5_lowestBits 44 = .ok (.i2l, 1) := by decide +kernel
theorem dX5_lowestBits_45 : decode cX5_lowestBits 45 = .ok (.lreturn, 1) := by decide +kernel
theorem dX5_lowestBits_46 : decode cX5_lowestBits 46 = .ok (.lload_n 1, 1) := by decide +kernel
theorem dX5_lowestBits_47 : decode cX5_lowestBits 47 = .ok (.lreturn, 1) := by decide +kernel
theorem dX6_init_0 : decode cX6_init 0 = .ok (.aload_n 0, 1) := by decide +kernel
theorem dX6_init_1 : decode cX6_init 1 = .ok (.iload_n 1, 1) := by decide +kernel
theorem dX6_init_2 : decode cX6_init 2 = .ok (.iload_n 2, 1) := by decide +kernel
theorem dX6_init_3 : decode cX6_init 3 = .ok (.invokespecial 3, 3) := by decide +kernel
theorem dX6_init_6 : decode cX6_init 6 = .ok (.return_, 1) := by decide +kernel
theorem dX6_kindNumber_0 : decode cX6_kindNumber 0 = .ok (.iconst 2, 1) := by decide +kernel
theorem dX6_kindNumber_1 : decode cX6_kindNumber 1 = .ok (.ireturn, 1) := by decide +kernel
theorem dX6_isUnder_0 : decode cX6_isUnder 0 = .ok (.iload_n 1, 1) := by decide +kernel
theorem dX6_isUnder_1 : decode cX6_isUnder 1 = .ok (.iconst 2, 1) := by decide +kernel
theorem dX6_isUnder_2 : decode cX6_isUnder 2 = .ok (.if_icmp .eq 11, 3) := by decide +kernel
theorem dX6_isUnder_5 : decode cX6_isUnder 5 = .ok (.aload_n 0, 1) := by decide +kernel
theorem dX6_isUnder_6 : decode cX6_isUnder 6 = .ok (.iload_n 1, 1) := by decide +kernel
theorem dX6_isUnder_7 : decode cX6_isUnder 7 = .ok (.invokespecial 9, 3) := by decide +kernel
theorem dX6_isUnder_10 : decode cX6_isUnder 10 = .ok (.ifCond .eq 7, 3) := by decide +kernel
theorem dX6_isUnder_13 : decode cX6_isUnder 13 = .ok (.iconst 1, 1) := by decide +kernel
theorem dX6_isUnder_14 : decode cX6_isUnder 14 = .ok (.goto 4, 3) := by decide +kernel
theorem dX6_isUnder_17 : decode cX6_isUnder 17 = .ok (.iconst 0, 1) := by decide +kernel
theorem dX6_isUnder_18 : decode cX6_isUnder 18 = .ok (.ireturn, 1) := by decide +kernel
theorem dX6_reckon_0 : decode cX6_reckon 0 = .ok (.lload_n 1, 1) := by decide +kernel
theorem dX6_reckon_1 : decode cX6_reckon 1 = .ok (.aload_n 3, 1) := by decide +kernel
theorem dX6_reckon_2 : decode cX6_reckon 2 = .ok (.getfield 13, 3) := by decide +kernel
theorem dX6_reckon_5 : decode cX6_reckon 5 = .ok (.iconst 2, 1) := by decide +kernel
theorem dX6_reckon_6 : decode cX6_reckon 6 = .ok (.invokestatic 19, 3) := by decide +kernel
theorem dX6_reckon_9 : decode cX6_reckon 9 = .ok (.lreturn, 1) := by decide +kernel
theorem dX6_adds_0 : decode cX6_adds 0 = .ok (.aload_n 2, 1) := by decide +kernel
theorem dX6_adds_1 : decode cX6_adds 1 = .ok (.iconst 0, 1) := by decide +kernel
theorem dX6_adds_2 : decode cX6_adds 2 = .ok (.dup2, 1) := by decide +kernel
theorem dX6_adds_3 : decode cX6_adds 3 = .ok (.iaload, 1) := by decide +kernel
theorem dX6_adds_4 : decode cX6_adds 4 = .ok (.iconst 1, 1) := by decide +kernel
theorem dX6_adds_5 : decode cX6_adds 5 = .ok (.iadd, 1) := by decide +kernel
theorem dX6_adds_6 : decode cX6_adds 6 = .ok (.dup_x2, 1) := by decide +kernel
theorem dX6_adds_7 : decode cX6_adds 7 = .ok (.iastore, 1) := by decide +kernel
theorem dX6_adds_8 : decode cX6_adds 8 = .ok (.aload_n 2, 1) := by decide +kernel
theorem dX6_adds_9 : decode cX6_adds 9 = .ok (.arraylength, 1) := by decide +kernel
theorem dX6_adds_10 : decode cX6_adds 10 = .ok (.if_icmp .ge 10, 3) := by decide +kernel
theorem dX6_adds_13 : decode cX6_adds 13 = .ok (.aload_n 2, 1) := by decide +kernel
theorem dX6_adds_14 : decode cX6_adds 14 = .ok (.aload_n 2, 1) := by decide +kernel
theorem dX6_adds_15 : decode cX6_adds 15 = .ok (.iconst 0, 1) := by decide +kernel
theorem dX6_adds_16 : decode cX6_adds 16 = .ok (.iaload, 1) := by decide +kernel
theorem dX6_adds_17 : decode cX6_adds 17 = .ok (.bipush 30, 2) := by decide +kernel
theorem dX6_adds_19 : decode cX6_adds 19 = .ok (.iastore, 1) := by decide +kernel
theorem dX6_adds_20 : decode cX6_adds 20 = .ok (.aload_n 0, 1) := by decide +kernel
theorem dX6_adds_21 : decode cX6_adds 21 = .ok (.iload_n 1, 1) := by decide +kernel
theorem dX6_adds_22 : decode cX6_adds 22 = .ok (.aload_n 2, 1) := by decide +kernel
theorem dX6_adds_23 : decode cX6_adds 23 = .ok (.invokespecial 25, 3) := by decide +kernel
theorem dX6_adds_26 : decode cX6_adds 26 = .ok (.iconst 3, 1) := by decide +kernel
theorem dX6_adds_27 : decode cX6_adds 27 = .ok (.imul, 1) := by decide +kernel
theorem dX6_adds_28 : decode cX6_adds 28 = .ok (.ireturn, 1) := by decide +kernel
theorem dX7_init_0 : decode cX7_init 0 = .ok (.aload_n 0, 1) := by decide +kernel
theorem dX7_init_1 : decode cX7_init 1 = .ok (.invokespecial 3, 3) := by decide +kernel
theorem dX7_init_4 : decode cX7_init 4 = .ok (.aload_n 0, 1) := by decide +kernel
theorem dX7_init_5 : decode cX7_init 5 = .ok (.bipush 10, 2) := by decide +kernel
theorem dX7_init_7 : decode cX7_init 7 = .ok (.putfield 9, 3) := by decide +kernel
theorem dX7_init_10 : decode cX7_init 10 = .ok (.aload_n 0, 1) := by decide +kernel
theorem dX7_init_11 : decode cX7_init 11 = .ok (.iconst 1, 1) := by decide +kernel
theorem dX7_init_12 : decode cX7_init 12 = .ok (.putfield 15, 3) := by decide +kernel
theorem dX7_init_15 : decode cX7_init 15 = .ok (.aload_n 0, 1) := by decide +kernel
theorem dX7_init_16 : decode cX7_init 16 = .ok (.bipush 6, 2) := by decide +kernel
theorem dX7_init_18 : decode cX7_init 18 = .ok (.anewarray 18, 3) := by decide +kernel
theorem dX7_init_21 : decode cX7_init 21 = .ok (.putfield 20, 3) := by decide +kernel
theorem dX7_init_24 : decode cX7_init 24 = .ok (.aload_n 0, 1) := by decide +kernel
theorem dX7_init_25 : decode cX7_init 25 = .ok (.bipush 60, 2) := by decide +kernel
theorem dX7_init_27 : decode cX7_init 27 = .ok (.newarray .int, 2) := by decide +kernel
theorem dX7_init_29 : decode cX7_init 29 = .ok (.putfield 24, 3) := by decide +kernel
theorem dX7_init_32 : decode cX7_init 32 = .ok (.aload_n 0, 1) := by decide +kernel
theorem dX7_init_33 : decode cX7_init 33 = .ok (.bipush 20, 2) := by decide +kernel
theorem dX7_init_35 : decode cX7_init 35 = .ok (.newarray .long, 2) := by decide +kernel
theorem dX7_init_37 : decode cX7_init 37 = .ok (.putfield 28, 3) := by decide +kernel
theorem dX7_init_40 : decode cX7_init 40 = .ok (.return_, 1) := by decide +kernel
theorem dX7_takeOver_0 : decode cX7_takeOver 0 = .ok (.aload_n 0, 1) := by decide +kernel
theorem dX7_takeOver_1 : decode cX7_takeOver 1 = .ok (.aload_n 1, 1) := by decide +kernel
theorem dX7_takeOver_2 : decode cX7_takeOver 2 = .ok (.getfield 9, 3) := by decide +kernel
theorem dX7_takeOver_5 : decode cX7_takeOver 5 = .ok (.putfield 9, 3) := by decide +kernel
theorem dX7_takeOver_8 : decode cX7_takeOver 8 = .ok (.aload_n 0, 1) := by decide +kernel
theorem dX7_takeOver_9 : decode cX7_takeOver 9 = .ok (.aload_n 1, 1) := by decide +kernel
theorem dX7_takeOver_10 : decode cX7_takeOver 10 = .ok (.getfield 15, 3) := by decide +kernel
theorem dX7_takeOver_13 : decode cX7_takeOver 13 = .ok (.putfield 15, 3) := by decide +kernel
theorem dX7_takeOver_16 : decode cX7_takeOver 16 = .ok (.aload_n 0, 1) := by decide +kernel
theorem dX7_takeOver_17 : decode cX7_takeOver 17 = .ok (.aload_n 1, 1) := by decide +kernel
theorem dX7_takeOver_18 : decode cX7_takeOver 18 = .ok (.getfield 32, 3) := by decide +kernel
theorem dX7_takeOver_21 : decode cX7_takeOver 21 = .ok (.putfield 32, 3) := by decide +kernel
theorem dX7_takeOver_24 : decode cX7_takeOver 24 = .ok (.aload_n 0, 1) := by decide +kernel
theorem dX7_takeOver_25 : decode cX7_takeOver 25 = .ok (.aload_n 1, 1) := by decide +kernel
theorem dX7_takeOver_26 : decode cX7_takeOver 26 = .ok (.getfield 35, 3) := by decide +kernel
theorem dX7_takeOver_29 : decode cX7_takeOver 29 = .ok (.putfield 35, 3) := by decide +kernel
theorem dX7_takeOver_32 : decode cX7_takeOver 32 = .ok (.iconst 0, 1) := by decide +kernel
theorem dX7_takeOver_33 : decode cX7_takeOver 33 = .ok (.istore_n 2, 1) := by decide +kernel
theorem dX7_takeOver_34 : decode cX7_takeOver 34 = .ok (.iload_n 2, 1) := by decide +kernel
theorem dX7_takeOver_35 : decode cX7_takeOver 35 = .ok (.aload_n 0, 1) := by decide +kernel
theorem dX7_takeOver_36 : decode cX7_takeOver 36 = .ok (.getfield 20, 3) := by decide +kernel
theorem dX7_takeOver_39 : decode cX7_takeOver 39 = .ok (.arraylength, 1) := by decide +kernel
theorem dX7_takeOver_40 : decode cX7_takeOver 40 = .ok (.if_icmp .ge 30, 3) := by decide +kernel
theorem dX7_takeOver_43 : decode cX7_takeOver 43 = .ok (.iload_n 2, 1) := by decide +kernel
theorem dX7_takeOver_44 : decode cX7_takeOver 44 = .ok (.aload_n 1, 1) := by decide +kernel
theorem dX7_takeOver_45 : decode cX7_takeOver 45 = .ok (.getfield 20, 3) := by decide +kernel
theorem dX7_takeOver_48 : decode cX7_takeOver 48 = .ok (.arraylength, 1) := by decide +kernel
theorem dX7_takeOver_49 : decode cX7_takeOver 49 = .ok (.if_icmp .ge 21, 3) := by decide +kernel
theorem dX7_takeOver_52 : decode cX7_takeOver 52 = .ok (.aload_n 0, 1) := by decide +kernel
theorem dX7_takeOver_53 : decode cX7_takeOver 53 = .ok (.getfield 20, 3) := by decide +kernel
theorem dX7_takeOver_56 : decode cX7_takeOver 56 = .ok (.iload_n 2, 1) := by decide +kernel
theorem dX7_takeOver_57 : decode cX7_takeOver 57 = .ok (.aload_n 1, 1) := by decide +kernel
theorem dX7_takeOver_58 : decode cX7_takeOver 58 = .ok (.getfield 20, 3) := by decide +kernel
theorem dX7_takeOver_61 : decode cX7_takeOver 61 = .ok (.iload_n 2, 1) := by decide +kernel
theorem dX7_takeOver_62 : decode cX7_takeOver 62 = .ok (.aaload, 1) := by decide +kernel
theorem dX7_takeOver_63 : decode cX7_takeOver 63 = .ok (.aastore, 1) := by decide +kernel
theorem dX7_takeOver_64 : decode cX7_takeOver 64 = .ok (.iinc 2 1, 3) := by decide +kernel
theorem dX7_takeOver_67 : decode cX7_takeOver 67 = .ok (.goto (-33), 3) := by decide +kernel
theorem dX7_takeOver_70 : decode cX7_takeOver 70 = .ok (.iconst 0, 1) := by decide +kernel
theorem dX7_takeOver_71 : decode cX7_takeOver 71 = .ok (.istore_n 2, 1) := by decide +kernel
theorem dX7_takeOver_72 : decode cX7_takeOver 72 = .ok (.iload_n 2, 1) := by decide +kernel
theorem dX7_takeOver_73 : decode cX7_takeOver 73 = .ok (.aload_n 0, 1) := by decide +kernel
theorem dX7_takeOver_74 : decode cX7_takeOver 74 = .ok (.getfield 24, 3) := by decide +kernel
theorem dX7_takeOver_77 : decode cX7_takeOver 77 = .ok (.arraylength, 1) := by decide +kernel
theorem dX7_takeOver_78 : decode cX7_takeOver 78 = .ok (.if_icmp .ge 30, 3) := by decide +kernel
theorem dX7_takeOver_81 : decode cX7_takeOver 81 = .ok (.iload_n 2, 1) := by decide +kernel
theorem dX7_takeOver_82 : decode cX7_takeOver 82 = .ok (.aload_n 1, 1) := by decide +kernel
theorem dX7_takeOver_83 : decode cX7_takeOver 83 = .ok (.getfield 24, 3) := by decide +kernel
theorem dX7_takeOver_86 : decode cX7_takeOver 86 = .ok (.arraylength, 1) := by decide +kernel
theorem dX7_takeOver_87 : decode cX7_takeOver 87 = .ok (.if_icmp .ge 21, 3) := by decide +kernel
theorem dX7_takeOver_90 : decode cX7_takeOver 90 = .ok (.aload_n 0, 1) := by decide +kernel
theorem dX7_takeOver_91 : decode cX7_takeOver 91 = .ok (.getfield 24, 3) := by decide +kernel
theorem dX7_takeOver_94 : decode cX7_takeOver 94 = .ok (.iload_n 2, 1) := by decide +kernel
theorem dX7_takeOver_95 : decode cX7_takeOver 95 = .ok (.aload_n 1, 1) := by decide +kernel
theorem dX7_takeOver_96 : decode cX7_takeOver 96 = .ok (.getfield 24, 3) := by decide +kernel
theorem dX7_takeOver_99 : decode cX7_takeOver 99 = .ok (.iload_n 2, 1) := by decide +kernel
theorem dX7_takeOver_100 : decode cX7_takeOver 100 = .ok (.iaload, 1) := by decide +kernel
theorem dX7_takeOver_101 : decode cX7_takeOver 101 = .ok (.iastore, 1) := by decide +kernel
theorem dX7_takeOver_102 : decode cX7_takeOver 102 = .ok (.iinc 2 1, 3) := by decide +kernel
theorem dX7_takeOver_105 : decode cX7_takeOver 105 = .ok (.goto (-33), 3) := by decide +kernel
theorem dX7_takeOver_108 : decode cX7_takeOver 108 = .ok (.iconst 0, 1) := by decide +kernel
theorem dX7_takeOver_109 : decode cX7_takeOver 109 = .ok (.istore_n 2, 1) := by decide +kernel
theorem dX7_takeOver_110 : decode cX7_takeOver 110 = .ok (.iload_n 2, 1) := by decide +kernel
theorem dX7_takeOver_111 : decode cX7_takeOver 111 = .ok (.aload_n 0, 1) := by decide +kernel
theorem dX7_takeOver_112 : decode cX7_takeOver 112 = .ok (.getfield 28, 3) := by decide +kernel
theorem dX7_takeOver_115 : decode cX7_takeOver 115 = .ok (.arraylength, 1) := by decide +kernel
theorem dX7_takeOver_116 : decode cX7_takeOver 116 = .ok (.if_icmp .ge 30, 3) := by decide +kernel
theorem dX7_takeOver_119 : decode cX7_takeOver 119 = .ok (.iload_n 2, 1) := by decide +kernel
theorem dX7_takeOver_120 : decode cX7_takeOver 120 = .ok (.aload_n 1, 1) := by decide +kernel
theorem dX7_takeOver_121 : decode cX7_takeOver 121 = .ok (.getfield 28, 3) := by decide +kernel
theorem dX7_takeOver_124 : decode cX7_takeOver 124 = .ok (.arraylength, 1) := by decide +kernel
theorem dX7_takeOver_125 : decode cX7_takeOver 125 = .ok (.if_icmp .ge 21, 3) := by decide +kernel
theorem dX7_takeOver_128 : decode cX7_takeOver 128 = .ok (.aload_n 0, 1) := by decide +kernel
theorem dX7_takeOver_129 : decode cX7_takeOver 129 = .ok (.getfield 28, 3) := by decide +kernel
theorem dX7_takeOver_132 : decode cX7_takeOver 132 = .ok (.iload_n 2, 1) := by decide +kernel
theorem dX7_takeOver_133 : decode cX7_takeOver 133 = .ok (.aload_n 1, 1) := by decide +kernel
theorem dX7_takeOver_134 : decode cX7_takeOver 134 = .ok (.getfield 28, 3) := by decide +kernel
theorem dX7_takeOver_137 : decode cX7_takeOver 137 = .ok (.iload_n 2, 1) := by decide +kernel
theorem dX7_takeOver_138 : decode cX7_takeOver 138 = .ok (.laload, 1) := by decide +kernel
theorem dX7_takeOver_139 : decode cX7_takeOver 139 = .ok (.lastore, 1) := by decide +kernel
theorem dX7_takeOver_140 : decode cX7_takeOver 140 = .ok (.iinc 2 1, 3) := by decide +kernel
theorem dX7_takeOver_143 : decode cX7_takeOver 143 = .ok (.goto (-33), 3) := by decide +kernel
theorem dX7_takeOver_146 : decode cX7_takeOver 146 = .ok (.return_, 1) := by decide +kernel
theorem dX7_lawAt_0 : decode cX7_lawAt 0 = .ok (.iload_n 1, 1) := by decide +kernel
theorem dX7_lawAt_1 : decode cX7_lawAt 1 = .ok (.ifCond .lt 29, 3) := by decide +kernel
theorem dX7_lawAt_4 : decode cX7_lawAt 4 = .ok (.iload_n 1, 1) := by decide +kernel
theorem dX7_lawAt_5 : decode cX7_lawAt 5 = .ok (.aload_n 0, 1) := by decide +kernel
theorem dX7_lawAt_6 : decode cX7_lawAt 6 = .ok (.getfield 32, 3) := by decide +kernel
theorem dX7_lawAt_9 : decode cX7_lawAt 9 = .ok (.if_icmp .ge 21, 3) := by decide +kernel
theorem dX7_lawAt_12 : decode cX7_lawAt 12 = .ok (.iload_n 1, 1) := by decide +kernel
theorem dX7_lawAt_13 : decode cX7_lawAt 13 = .ok (.aload_n 0, 1) := by decide +kernel
theorem dX7_lawAt_14 : decode cX7_lawAt 14 = .ok (.getfield 20, 3) := by decide +kernel
theorem dX7_lawAt_17 : decode cX7_lawAt 17 = .ok (.arraylength, 1) := by decide +kernel
theorem dX7_lawAt_18 : decode cX7_lawAt 18 = .ok (.if_icmp .ge 12, 3) := by decide +kernel
theorem dX7_lawAt_21 : decode cX7_lawAt 21 = .ok (.aload_n 0, 1) := by decide +kernel
theorem dX7_lawAt_22 : decode cX7_lawAt 22 = .ok (.getfield 20, 3) := by decide +kernel
theorem dX7_lawAt_25 : decode cX7_lawAt 25 = .ok (.iload_n 1, 1) := by decide +kernel
theorem dX7_lawAt_26 : decode cX7_lawAt 26 = .ok (.aaload, 1) := by decide +kernel
theorem dX7_lawAt_27 : decode cX7_lawAt 27 = .ok (.goto 4, 3) := by decide +kernel
theorem dX7_lawAt_30 : decode cX7_lawAt 30 = .ok (.aconst_null, 1) := by decide +kernel
theorem dX7_lawAt_31 : decode cX7_lawAt 31 = .ok (.areturn, 1) := by decide +kernel
theorem dX7_lawsFull_0 : decode cX7_lawsFull 0 = .ok (.aload_n 0, 1) := by decide +kernel
theorem dX7_lawsFull_1 : decode cX7_lawsFull 1 = .ok (.getfield 32, 3) := by decide +kernel
theorem dX7_lawsFull_4 : decode cX7_lawsFull 4 = .ok (.aload_n 0, 1) := by decide +kernel
theorem dX7_lawsFull_5 : decode cX7_lawsFull 5 = .ok (.getfield 20, 3) := by decide +kernel
theorem dX7_lawsFull_8 : decode cX7_lawsFull 8 = .ok (.arraylength, 1) := by decide +kernel
theorem dX7_lawsFull_9 : decode cX7_lawsFull 9 = .ok (.if_icmp .lt 7, 3) := by decide +kernel
theorem dX7_lawsFull_12 : decode cX7_lawsFull 12 = .ok (.iconst 1, 1) := by decide +kernel
theorem dX7_lawsFull_13 : decode cX7_lawsFull 13 = .ok (.goto 4, 3) := by decide +kernel
theorem dX7_lawsFull_16 : decode cX7_lawsFull 16 = .ok (.iconst 0, 1) := by decide +kernel
theorem dX7_lawsFull_17 : decode cX7_lawsFull 17 = .ok (.ireturn, 1) := by decide +kernel
theorem dX7_addLaw_0 : decode cX7_addLaw 0 = .ok (.aload_n 0, 1) := by decide +kernel
theorem dX7_addLaw_1 : decode cX7_addLaw 1 = .ok (.getfield 32, 3) := by decide +kernel
theorem dX7_addLaw_4 : decode cX7_addLaw 4 = .ok (.ifCond .lt 15, 3) := by decide +kernel
theorem dX7_addLaw_7 : decode cX7_addLaw 7 = .ok (.aload_n 0, 1) := by decide +kernel
theorem dX7_addLaw_8 : decode cX7_addLaw 8 = .ok (.getfield 32, 3) := by decide +kernel
theorem dX7_addLaw_11 : decode cX7_addLaw 11 = .ok (.aload_n 0, 1) := by decide +kernel
theorem dX7_addLaw_12 : decode cX7_addLaw 12 = .ok (.getfield 20, 3) := by decide +kernel
theorem dX7_addLaw_15 : decode cX7_addLaw 15 = .ok (.arraylength, 1) := by decide +kernel
theorem dX7_addLaw_16 : decode cX7_addLaw 16 = .ok (.if_icmp .lt 5, 3) := by decide +kernel
theorem dX7_addLaw_19 : decode cX7_addLaw 19 = .ok (.iconst (-1), 1) := by decide +kernel
theorem dX7_addLaw_20 : decode cX7_addLaw 20 = .ok (.ireturn, 1) := by decide +kernel
theorem dX7_addLaw_21 : decode cX7_addLaw 21 = .ok (.aload_n 0, 1) := by decide +kernel
theorem dX7_addLaw_22 : decode cX7_addLaw 22 = .ok (.getfield 32, 3) := by decide +kernel
theorem dX7_addLaw_25 : decode cX7_addLaw 25 = .ok (.istore_n 3, 1) := by decide +kernel
theorem dX7_addLaw_26 : decode cX7_addLaw 26 = .ok (.aload_n 0, 1) := by decide +kernel
theorem dX7_addLaw_27 : decode cX7_addLaw 27 = .ok (.getfield 20, 3) := by decide +kernel
theorem dX7_addLaw_30 : decode cX7_addLaw 30 = .ok (.iload_n 3, 1) := by decide +kernel
theorem dX7_addLaw_31 : decode cX7_addLaw 31 = .ok (.iload_n 1, 1) := by decide +kernel
theorem dX7_addLaw_32 : decode cX7_addLaw 32 = .ok (.iload_n 3, 1) := by decide +kernel
theorem dX7_addLaw_33 : decode cX7_addLaw 33 = .ok (.iload_n 2, 1) := by decide +kernel
theorem dX7_addLaw_34 : decode cX7_addLaw 34 = .ok (.invokestatic 38, 3) := by decide +kernel
theorem dX7_addLaw_37 : decode cX7_addLaw 37 = .ok (.aastore, 1) := by decide +kernel
theorem dX7_addLaw_38 : decode cX7_addLaw 38 = .ok (.aload_n 0, 1) := by decide +kernel
theorem dX7_addLaw_39 : decode cX7_addLaw 39 = .ok (.dup, 1) := by decide +kernel
theorem dX7_addLaw_40 : decode cX7_addLaw 40 = .ok (.getfield 32, 3) := by decide +kernel
theorem dX7_addLaw_43 : decode cX7_addLaw 43 = .ok (.iconst 1, 1) := by decide +kernel
theorem dX7_addLaw_44 : decode cX7_addLaw 44 = .ok (.iadd, 1) := by decide +kernel
theorem dX7_addLaw_45 : decode cX7_addLaw 45 = .ok (.putfield 32, 3) := by decide +kernel
theorem dX7_addLaw_48 : decode cX7_addLaw 48 = .ok (.iload_n 3, 1) := by decide +kernel
theorem dX7_addLaw_49 : decode cX7_addLaw 49 = .ok (.ireturn, 1) := by decide +kernel
theorem dX7_newLaw_0 : decode cX7_newLaw 0 = .ok (.iload_n 0, 1) := by decide +kernel
theorem dX7_newLaw_1 : decode cX7_newLaw 1 = .ok (.tableswitch 99 1 6 #[39, 49, 59, 69, 79, 89], 39) := by decide +kernel
theorem dX7_newLaw_40 : decode cX7_newLaw 40 = .ok (.new 42, 3) := by decide +kernel
theorem dX7_newLaw_43 : decode cX7_newLaw 43 = .ok (.dup, 1) := by decide +kernel
theorem dX7_newLaw_44 : decode cX7_newLaw 44 = .ok (.iload_n 1, 1) := by decide +kernel
theorem dX7_newLaw_45 : decode cX7_newLaw 45 = .ok (.iload_n 2, 1) := by decide +kernel
theorem dX7_newLaw_46 : decode cX7_newLaw 46 = .ok (.invokespecial 44, 3) := by decide +kernel
theorem dX7_newLaw_49 : decode cX7_newLaw 49 = .ok (.areturn, 1) := by decide +kernel
theorem dX7_newLaw_50 : decode cX7_newLaw 50 = .ok (.new 47, 3) := by decide +kernel
theorem dX7_newLaw_53 : decode cX7_newLaw 53 = .ok (.dup, 1) := by decide +kernel
theorem dX7_newLaw_54 : decode cX7_newLaw 54 = .ok (.iload_n 1, 1) := by decide +kernel
theorem dX7_newLaw_55 : decode cX7_newLaw 55 = .ok (.iload_n 2, 1) := by decide +kernel
theorem dX7_newLaw_56 : decode cX7_newLaw 56 = .ok (.invokespecial 49, 3) := by decide +kernel
theorem dX7_newLaw_59 : decode cX7_newLaw 59 = .ok (.areturn, 1) := by decide +kernel
theorem dX7_newLaw_60 : decode cX7_newLaw 60 = .ok (.new 50, 3) := by decide +kernel
theorem dX7_newLaw_63 : decode cX7_newLaw 63 = .ok (.dup, 1) := by decide +kernel
theorem dX7_newLaw_64 : decode cX7_newLaw 64 = .ok (.iload_n 1, 1) := by decide +kernel
theorem dX7_newLaw_65 : decode cX7_newLaw 65 = .ok (.iload_n 2, 1) := by decide +kernel
theorem dX7_newLaw_66 : decode cX7_newLaw 66 = .ok (.invokespecial 52, 3) := by decide +kernel
theorem dX7_newLaw_69 : decode cX7_newLaw 69 = .ok (.areturn, 1) := by decide +kernel
theorem dX7_newLaw_70 : decode cX7_newLaw 70 = .ok (.new 53, 3) := by decide +kernel
theorem dX7_newLaw_73 : decode cX7_newLaw 73 = .ok (.dup, 1) := by decide +kernel
theorem dX7_newLaw_74 : decode cX7_newLaw 74 = .ok (.iload_n 1, 1) := by decide +kernel
theorem dX7_newLaw_75 : decode cX7_newLaw 75 = .ok (.iload_n 2, 1) := by decide +kernel
theorem dX7_newLaw_76 : decode cX7_newLaw 76 = .ok (.invokespecial 55, 3) := by decide +kernel
theorem dX7_newLaw_79 : decode cX7_newLaw 79 = .ok (.areturn, 1) := by decide +kernel
theorem dX7_newLaw_80 : decode cX7_newLaw 80 = .ok (.new 56, 3) := by decide +kernel
theorem dX7_newLaw_83 : decode cX7_newLaw 83 = .ok (.dup, 1) := by decide +kernel
theorem dX7_newLaw_84 : decode cX7_newLaw 84 = .ok (.iload_n 1, 1) := by decide +kernel
theorem dX7_newLaw_85 : decode cX7_newLaw 85 = .ok (.iload_n 2, 1) := by decide +kernel
theorem dX7_newLaw_86 : decode cX7_newLaw 86 = .ok (.invokespecial 58, 3) := by decide +kernel
theorem dX7_newLaw_89 : decode cX7_newLaw 89 = .ok (.areturn, 1) := by decide +kernel
theorem dX7_newLaw_90 : decode cX7_newLaw 90 = .ok (.new 59, 3) := by decide +kernel
theorem dX7_newLaw_93 : decode cX7_newLaw 93 = .ok (.dup, 1) := by decide +kernel
theorem dX7_newLaw_94 : decode cX7_newLaw 94 = .ok (.iload_n 1, 1) := by decide +kernel
theorem dX7_newLaw_95 : decode cX7_newLaw 95 = .ok (.iload_n 2, 1) := by decide +kernel
theorem dX7_newLaw_96 : decode cX7_newLaw 96 = .ok (.invokespecial 61, 3) := by decide +kernel
theorem dX7_newLaw_99 : decode cX7_newLaw 99 = .ok (.areturn, 1) := by decide +kernel
theorem dX7_newLaw_100 : decode cX7_newLaw 100 = .ok (.new 18, 3) := by decide +kernel
theorem dX7_newLaw_103 : decode cX7_newLaw 103 = .ok (.dup, 1) := by decide +kernel
theorem dX7_newLaw_104 : decode cX7_newLaw 104 = .ok (.iload_n 1, 1) := by decide +kernel
theorem dX7_newLaw_105 : decode cX7_newLaw 105 = .ok (.iload_n 2, 1) := by decide +kernel
theorem dX7_newLaw_106 : decode cX7_newLaw 106 = .ok (.invokespecial 62, 3) := by decide +kernel
theorem dX7_newLaw_109 : decode cX7_newLaw 109 = .ok (.areturn, 1) := by decide +kernel
theorem dX7_valueOf_0 : decode cX7_valueOf 0 = .ok (.iload_n 1, 1) := by decide +kernel
theorem dX7_valueOf_1 : decode cX7_valueOf 1 = .ok (.bipush 10, 2) := by decide +kernel
theorem dX7_valueOf_3 : decode cX7_valueOf 3 = .ok (.imul, 1) := by decide +kernel
theorem dX7_valueOf_4 : decode cX7_valueOf 4 = .ok (.iload_n 2, 1) := by decide +kernel
theorem dX7_valueOf_5 : decode cX7_valueOf 5 = .ok (.iadd, 1) := by decide +kernel
theorem dX7_valueOf_6 : decode cX7_valueOf 6 = .ok (.istore_n 3, 1) := by decide +kernel
theorem dX7_valueOf_7 : decode cX7_valueOf 7 = .ok (.iload_n 3, 1) := by decide +kernel
theorem dX7_valueOf_8 : decode cX7_valueOf 8 = .ok (.ifCond .lt 21, 3) := by decide +kernel
theorem dX7_valueOf_11 : decode cX7_valueOf 11 = .ok (.iload_n 3, 1) := by decide +kernel
theorem dX7_valueOf_12 : decode cX7_valueOf 12 = .ok (.aload_n 0, 1) := by decide +kernel
theorem dX7_valueOf_13 : decode cX7_valueOf 13 = .ok (.getfield 24, 3) := by decide +kernel
theorem dX7_valueOf_16 : decode cX7_valueOf 16 = .ok (.arraylength, 1) := by decide +kernel
theorem dX7_valueOf_17 : decode cX7_valueOf 17 = .ok (.if_icmp .ge 12, 3) := by decide +kernel
theorem dX7_valueOf_20 : decode cX7_valueOf 20 = .ok (.aload_n 0, 1) := by decide +kernel
theorem dX7_valueOf_21 : decode cX7_valueOf 21 = .ok (.getfield 24, 3) := by decide +kernel
theorem dX7_valueOf_24 : decode cX7_valueOf 24 = .ok (.iload_n 3, 1) := by decide +kernel
theorem dX7_valueOf_25 : decode cX7_valueOf 25 = .ok (.iaload, 1) := by decide +kernel
theorem dX7_valueOf_26 : decode cX7_valueOf 26 = .ok (.goto 4, 3) := by decide +kernel
theorem dX7_valueOf_29 : decode cX7_valueOf 29 = .ok (.iconst 0, 1) := by decide +kernel
theorem dX7_valueOf_30 : decode cX7_valueOf 30 = .ok (.ireturn, 1) := by decide +kernel
theorem dX7_tellValue_0 : decode cX7_tellValue 0 = .ok (.iload_n 1, 1) := by decide +kernel
theorem dX7_tellValue_1 : decode cX7_tellValue 1 = .ok (.bipush 10, 2) := by decide +kernel
theorem dX7_tellValue_3 : decode cX7_tellValue 3 = .ok (.imul, 1) := by decide +kernel
theorem dX7_tellValue_4 : decode cX7_tellValue 4 = .ok (.iload_n 2, 1) := by decide +kernel
theorem dX7_tellValue_5 : decode cX7_tellValue 5 = .ok (.iadd, 1) := by decide +kernel
theorem dX7_tellValue_6 : decode cX7_tellValue 6 = .ok (.istore 4, 2) := by decide +kernel
theorem dX7_tellValue_8 : decode cX7_tellValue 8 = .ok (.iload 4, 2) := by decide +kernel
theorem dX7_tellValue_10 : decode cX7_tellValue 10 = .ok (.ifCond .lt 21, 3) := by decide +kernel
theorem dX7_tellValue_13 : decode cX7_tellValue 13 = .ok (.iload 4, 2) := by decide +kernel
theorem dX7_tellValue_15 : decode cX7_tellValue 15 = .ok (.aload_n 0, 1) := by decide +kernel
theorem dX7_tellValue_16 : decode cX7_tellValue 16 = .ok (.getfield 24, 3) := by decide +kernel
theorem dX7_tellValue_19 : decode cX7_tellValue 19 = .ok (.arraylength, 1) := by decide +kernel
theorem dX7_tellValue_20 : decode cX7_tellValue 20 = .ok (.if_icmp .ge 11, 3) := by decide +kernel
theorem dX7_tellValue_23 : decode cX7_tellValue 23 = .ok (.aload_n 0, 1) := by decide +kernel
theorem dX7_tellValue_24 : decode cX7_tellValue 24 = .ok (.getfield 24, 3) := by decide +kernel
theorem dX7_tellValue_27 : decode cX7_tellValue 27 = .ok (.iload 4, 2) := by decide +kernel
theorem dX7_tellValue_29 : decode cX7_tellValue 29 = .ok (.iload_n 3, 1) := by decide +kernel
theorem dX7_tellValue_30 : decode cX7_tellValue 30 = .ok (.iastore, 1) := by decide +kernel
theorem dX7_tellValue_31 : decode cX7_tellValue 31 = .ok (.return_, 1) := by decide +kernel
theorem dX7_dearestFigure_0 : decode cX7_dearestFigure 0 = .ok (.iconst 0, 1) := by decide +kernel
theorem dX7_dearestFigure_1 : decode cX7_dearestFigure 1 = .ok (.istore_n 2, 1) := by decide +kernel
theorem dX7_dearestFigure_2 : decode cX7_dearestFigure 2 = .ok (.iconst 1, 1) := by decide +kernel
theorem dX7_dearestFigure_3 : decode cX7_dearestFigure 3 = .ok (.istore_n 3, 1) := by decide +kernel
theorem dX7_dearestFigure_4 : decode cX7_dearestFigure 4 = .ok (.iload_n 3, 1) := by decide +kernel
theorem dX7_dearestFigure_5 : decode cX7_dearestFigure 5 = .ok (.aload_n 0, 1) := by decide +kernel
theorem dX7_dearestFigure_6 : decode cX7_dearestFigure 6 = .ok (.getfield 9, 3) := by decide +kernel
theorem dX7_dearestFigure_9 : decode cX7_dearestFigure 9 = .ok (.if_icmp .ge 26, 3) := by decide +kernel
theorem dX7_dearestFigure_12 : decode cX7_dearestFigure 12 = .ok (.aload_n 0, 1) := by decide +kernel
theorem dX7_dearestFigure_13 : decode cX7_dearestFigure 13 = .ok (.iload_n 1, 1) := by decide +kernel
theorem dX7_dearestFigure_14 : decode cX7_dearestFigure 14 = .ok (.iload_n 3, 1) := by decide +kernel
theorem dX7_dearestFigure_15 : decode cX7_dearestFigure 15 = .ok (.invokevirtual 63, 3) := by decide +kernel
theorem dX7_dearestFigure_18 : decode cX7_dearestFigure 18 = .ok (.aload_n 0, 1) := by decide +kernel
theorem dX7_dearestFigure_19 : decode cX7_dearestFigure 19 = .ok (.iload_n 1, 1) := by decide +kernel
theorem dX7_dearestFigure_20 : decode cX7_dearestFigure 20 = .ok (.iload_n 2, 1) := by decide +kernel
theorem dX7_dearestFigure_21 : decode cX7_dearestFigure 21 = .ok (.invokevirtual 63, 3) := by decide +kernel
theorem dX7_dearestFigure_24 : decode cX7_dearestFigure 24 = .ok (.if_icmp .le 5, 3) := by decide +kernel
theorem dX7_dearestFigure_27 : decode cX7_dearestFigure 27 = .ok (.iload_n 3, 1) := by decide +kernel
theorem dX7_dearestFigure_28 : decode cX7_dearestFigure 28 = .ok (.istore_n 2, 1) := by decide +kernel
theorem dX7_dearestFigure_29 : decode cX7_dearestFigure 29 = .ok (.iinc 3 1, 3) := by decide +kernel
theorem dX7_dearestFigure_32 : decode cX7_dearestFigure 32 = .ok (.goto (-28), 3) := by decide +kernel
theorem dX7_dearestFigure_35 : decode cX7_dearestFigure 35 = .ok (.iload_n 2, 1) := by decide +kernel
theorem dX7_dearestFigure_36 : decode cX7_dearestFigure 36 = .ok (.ireturn, 1) := by decide +kernel
theorem dX7_slateFull_0 : decode cX7_slateFull 0 = .ok (.aload_n 0, 1) := by decide +kernel
theorem dX7_slateFull_1 : decode cX7_slateFull 1 = .ok (.getfield 35, 3) := by decide +kernel
theorem dX7_slateFull_4 : decode cX7_slateFull 4 = .ok (.aload_n 0, 1) := by decide +kernel
theorem dX7_slateFull_5 : decode cX7_slateFull 5 = .ok (.getfield 28, 3) := by decide +kernel
theorem dX7_slateFull_8 : decode cX7_slateFull 8 = .ok (.arraylength, 1) := by decide +kernel
theorem dX7_slateFull_9 : decode cX7_slateFull 9 = .ok (.if_icmp .lt 7, 3) := by decide +kernel
theorem dX7_slateFull_12 : decode cX7_slateFull 12 = .ok (.iconst 1, 1) := by decide +kernel
theorem dX7_slateFull_13 : decode cX7_slateFull 13 = .ok (.goto 4, 3) := by decide +kernel
theorem dX7_slateFull_16 : decode cX7_slateFull 16 = .ok (.iconst 0, 1) := by decide +kernel
theorem dX7_slateFull_17 : decode cX7_slateFull 17 = .ok (.ireturn, 1) := by decide +kernel
theorem dX7_put_0 : decode cX7_put 0 = .ok (.aload_n 0, 1) := by decide +kernel
theorem dX7_put_1 : decode cX7_put 1 = .ok (.getfield 35, 3) := by decide +kernel
theorem dX7_put_4 : decode cX7_put 4 = .ok (.ifCond .lt 35, 3) := by decide +kernel
theorem dX7_put_7 : decode cX7_put 7 = .ok (.aload_n 0, 1) := by decide +kernel
theorem dX7_put_8 : decode cX7_put 8 = .ok (.getfield 35, 3) := by decide +kernel
theorem dX7_put_11 : decode cX7_put 11 = .ok (.aload_n 0, 1) := by decide +kernel
theorem dX7_put_12 : decode cX7_put 12 = .ok (.getfield 28, 3) := by decide +kernel
theorem dX7_put_15 : decode cX7_put 15 = .ok (.arraylength, 1) := by decide +kernel
theorem dX7_put_16 : decode cX7_put 16 = .ok (.if_icmp .ge 23, 3) := by decide +kernel
theorem dX7_put_19 : decode cX7_put 19 = .ok (.aload_n 0, 1) := by decide +kernel
theorem dX7_put_20 : decode cX7_put 20 = .ok (.getfield 28, 3) := by decide +kernel
theorem dX7_put_23 : decode cX7_put 23 = .ok (.aload_n 0, 1) := by decide +kernel
theorem dX7_put_24 : decode cX7_put 24 = .ok (.getfield 35, 3) := by decide +kernel
theorem dX7_put_27 : decode cX7_put 27 = .ok (.lload_n 1, 1) := by decide +kernel
theorem dX7_put_28 : decode cX7_put 28 = .ok (.lastore, 1) := by decide +kernel
theorem dX7_put_29 : decode cX7_put 29 = .ok (.aload_n 0, 1) := by decide +kernel
theorem dX7_put_30 : decode cX7_put 30 = .ok (.dup, 1) := by decide +kernel
theorem dX7_put_31 : decode cX7_put 31 = .ok (.getfield 35, 3) := by decide +kernel
theorem dX7_put_34 : decode cX7_put 34 = .ok (.iconst 1, 1) := by decide +kernel
theorem dX7_put_35 : decode cX7_put 35 = .ok (.iadd, 1) := by decide +kernel
theorem dX7_put_36 : decode cX7_put 36 = .ok (.putfield 35, 3) := by decide +kernel
theorem dX7_put_39 : decode cX7_put 39 = .ok (.return_, 1) := by decide +kernel
theorem dX7_lastNumber_0 : decode cX7_lastNumber 0 = .ok (.aload_n 0, 1) := by decide +kernel
theorem dX7_lastNumber_1 : decode cX7_lastNumber 1 = .ok (.getfield 35, 3) := by decide +kernel
theorem dX7_lastNumber_4 : decode cX7_lastNumber 4 = .ok (.iconst 1, 1) := by decide +kernel
theorem dX7_lastNumber_5 : decode cX7_lastNumber 5 = .ok (.isub, 1) := by decide +kernel
theorem dX7_lastNumber_6 : decode cX7_lastNumber 6 = .ok (.istore_n 1, 1) := by decide +kernel
theorem dX7_lastNumber_7 : decode cX7_lastNumber 7 = .ok (.iload_n 1, 1) := by decide +kernel
theorem dX7_lastNumber_8 : decode cX7_lastNumber 8 = .ok (.ifCond .lt 21, 3) := by decide +kernel
theorem dX7_lastNumber_11 : decode cX7_lastNumber 11 = .ok (.iload_n 1, 1) := by decide +kernel
theorem dX7_lastNumber_12 : decode cX7_lastNumber 12 = .ok (.aload_n 0, 1) := by decide +kernel
theorem dX7_lastNumber_13 : decode cX7_lastNumber 13 = .ok (.getfield 28, 3) := by decide +kernel
theorem dX7_lastNumber_16 : decode cX7_lastNumber 16 = .ok (.arraylength, 1) := by decide +kernel
theorem dX7_lastNumber_17 : decode cX7_lastNumber 17 = .ok (.if_icmp .ge 12, 3) := by decide +kernel
theorem dX7_lastNumber_20 : decode cX7_lastNumber 20 = .ok (.aload_n 0, 1) := by decide +kernel
theorem dX7_lastNumber_21 : decode cX7_lastNumber 21 = .ok (.getfield 28, 3) := by decide +kernel
theorem dX7_lastNumber_24 : decode cX7_lastNumber 24 = .ok (.iload_n 1, 1) := by decide +kernel
theorem dX7_lastNumber_25 : decode cX7_lastNumber 25 = .ok (.laload, 1) := by decide +kernel
theorem dX7_lastNumber_26 : decode cX7_lastNumber 26 = .ok (.goto 6, 3) := by decide +kernel
theorem dX7_lastNumber_29 : decode cX7_lastNumber 29 = .ok (.ldc2_w 67, 3) := by decide +kernel
theorem dX7_lastNumber_32 : decode cX7_lastNumber 32 = .ok (.lreturn, 1) := by decide +kernel
theorem dX7_goBy_0 : decode cX7_goBy 0 = .ok (.aload_n 0, 1) := by decide +kernel
theorem dX7_goBy_1 : decode cX7_goBy 1 = .ok (.invokevirtual 69, 3) := by decide +kernel
theorem dX7_goBy_4 : decode cX7_goBy 4 = .ok (.lstore_n 2, 1) := by decide +kernel
theorem dX7_goBy_5 : decode cX7_goBy 5 = .ok (.lload_n 2, 1) := by decide +kernel
theorem dX7_goBy_6 : decode cX7_goBy 6 = .ok (.ldc2_w 67, 3) := by decide +kernel
theorem dX7_goBy_9 : decode cX7_goBy 9 = .ok (.lcmp, 1) := by decide +kernel
theorem dX7_goBy_10 : decode cX7_goBy 10 = .ok (.ifCond .eq 10, 3) := by decide +kernel
theorem dX7_goBy_13 : decode cX7_goBy 13 = .ok (.aload_n 0, 1) := by decide +kernel
theorem dX7_goBy_14 : decode cX7_goBy 14 = .ok (.invokevirtual 73, 3) := by decide +kernel
theorem dX7_goBy_17 : decode cX7_goBy 17 = .ok (.ifCond .eq 5, 3) := by decide +kernel
theorem dX7_goBy_20 : decode cX7_goBy 20 = .ok (.iconst 0, 1) := by decide +kernel
theorem dX7_goBy_21 : decode cX7_goBy 21 = .ok (.ireturn, 1) := by decide +kernel
theorem dX7_goBy_22 : decode cX7_goBy 22 = .ok (.aload_n 1, 1) := by decide +kernel
theorem dX7_goBy_23 : decode cX7_goBy 23 = .ok (.lload_n 2, 1) := by decide +kernel
theorem dX7_goBy_24 : decode cX7_goBy 24 = .ok (.aload_n 0, 1) := by decide +kernel
theorem dX7_goBy_25 : decode cX7_goBy 25 = .ok (.invokevirtual 77, 3) := by decide +kernel
theorem dX7_goBy_28 : decode cX7_goBy 28 = .ok (.lstore 4, 2) := by decide +kernel
theorem dX7_goBy_30 : decode cX7_goBy 30 = .ok (.lload 4, 2) := by decide +kernel
theorem dX7_goBy_32 : decode cX7_goBy 32 = .ok (.ldc2_w 67, 3) := by decide +kernel
theorem dX7_goBy_35 : decode cX7_goBy 35 = .ok (.lcmp, 1) := by decide +kernel
theorem dX7_goBy_36 : decode cX7_goBy 36 = .ok (.ifCond .ne 5, 3) := by decide +kernel
theorem dX7_goBy_39 : decode cX7_goBy 39 = .ok (.iconst 0, 1) := by decide +kernel
theorem dX7_goBy_40 : decode cX7_goBy 40 = .ok (.ireturn, 1) := by decide +kernel
theorem dX7_goBy_41 : decode cX7_goBy 41 = .ok (.aload_n 0, 1) := by decide +kernel
theorem dX7_goBy_42 : decode cX7_goBy 42 = .ok (.lload 4, 2) := by decide +kernel
theorem dX7_goBy_44 : decode cX7_goBy 44 = .ok (.invokevirtual 81, 3) := by decide +kernel
theorem dX7_goBy_47 : decode cX7_goBy 47 = .ok (.iconst 1, 1) := by decide +kernel
theorem dX7_goBy_48 : decode cX7_goBy 48 = .ok (.ireturn, 1) := by decide +kernel
theorem dX7_draw_0 : decode cX7_draw 0 = .ok (.aload_n 0, 1) := by decide +kernel
theorem dX7_draw_1 : decode cX7_draw 1 = .ok (.aload_n 0, 1) := by decide +kernel
theorem dX7_draw_2 : decode cX7_draw 2 = .ok (.getfield 15, 3) := by decide +kernel
theorem dX7_draw_5 : decode cX7_draw 5 = .ok (.ldc 85, 2) := by decide +kernel
theorem dX7_draw_7 : decode cX7_draw 7 = .ok (.imul, 1) := by decide +kernel
theorem dX7_draw_8 : decode cX7_draw 8 = .ok (.sipush 12345, 3) := by decide +kernel
theorem dX7_draw_11 : decode cX7_draw 11 = .ok (.iadd, 1) := by decide +kernel
theorem dX7_draw_12 : decode cX7_draw 12 = .ok (.putfield 15, 3) := by decide +kernel
theorem dX7_draw_15 : decode cX7_draw 15 = .ok (.iload_n 1, 1) := by decide +kernel
theorem dX7_draw_16 : decode cX7_draw 16 = .ok (.ifCond .le 15, 3) := by decide +kernel
theorem dX7_draw_19 : decode cX7_draw 19 = .ok (.aload_n 0, 1) := by decide +kernel
theorem dX7_draw_20 : decode cX7_draw 20 = .ok (.getfield 15, 3) := by decide +kernel
theorem dX7_draw_23 : decode cX7_draw 23 = .ok (.bipush 16, 2) := by decide +kernel
theorem dX7_draw_25 : decode cX7_draw 25 = .ok (.iushr, 1) := by decide +kernel
theorem dX7_draw_26 : decode cX7_draw 26 = .ok (.iload_n 1, 1) := by decide +kernel
theorem dX7_draw_27 : decode cX7_draw 27 = .ok (.irem, 1) := by decide +kernel
theorem dX7_draw_28 : decode cX7_draw 28 = .ok (.goto 4, 3) := by decide +kernel
theorem dX7_draw_31 : decode cX7_draw 31 = .ok (.iconst 0, 1) := by decide +kernel
theorem dX7_draw_32 : decode cX7_draw 32 = .ok (.ireturn, 1) := by decide +kernel
theorem dX8_init_0 : decode cX8_init 0 = .ok (.aload_n 0, 1) := by decide +kernel
theorem dX8_init_1 : decode cX8_init 1 = .ok (.iload_n 1, 1) := by decide +kernel
theorem dX8_init_2 : decode cX8_init 2 = .ok (.iload_n 2, 1) := by decide +kernel
theorem dX8_init_3 : decode cX8_init 3 = .ok (.invokespecial 3, 3) := by decide +kernel
theorem dX8_init_6 : decode cX8_init 6 = .ok (.return_, 1) := by decide +kernel
theorem dX8_kindNumber_0 : decode cX8_kindNumber 0 = .ok (.iconst 1, 1) := by decide +kernel
theorem dX8_kindNumber_1 : decode cX8_kindNumber 1 = .ok (.ireturn, 1) := by decide +kernel
theorem dX8_isUnder_0 : decode cX8_isUnder 0 = .ok (.iload_n 1, 1) := by decide +kernel
theorem dX8_isUnder_1 : decode cX8_isUnder 1 = .ok (.iconst 1, 1) := by decide +kernel
theorem dX8_isUnder_2 : decode cX8_isUnder 2 = .ok (.if_icmp .eq 11, 3) := by decide +kernel
theorem dX8_isUnder_5 : decode cX8_isUnder 5 = .ok (.aload_n 0, 1) := by decide +kernel
theorem dX8_isUnder_6 : decode cX8_isUnder 6 = .ok (.iload_n 1, 1) := by decide +kernel
theorem dX8_isUnder_7 : decode cX8_isUnder 7 = .ok (.invokespecial 9, 3) := by decide +kernel
theorem dX8_isUnder_10 : decode cX8_isUnder 10 = .ok (.ifCond .eq 7, 3) := by decide +kernel
theorem dX8_isUnder_13 : decode cX8_isUnder 13 = .ok (.iconst 1, 1) := by decide +kernel
theorem dX8_isUnder_14 : decode cX8_isUnder 14 = .ok (.goto 4, 3) := by decide +kernel
theorem dX8_isUnder_17 : decode cX8_isUnder 17 = .ok (.iconst 0, 1) := by decide +kernel
theorem dX8_isUnder_18 : decode cX8_isUnder 18 = .ok (.ireturn, 1) := by decide +kernel
theorem dX8_reckon_0 : decode cX8_reckon 0 = .ok (.lload_n 1, 1) := by decide +kernel
theorem dX8_reckon_1 : decode cX8_reckon 1 = .ok (.lload_n 1, 1) := by decide +kernel
theorem dX8_reckon_2 : decode cX8_reckon 2 = .ok (.aload_n 3, 1) := by decide +kernel
theorem dX8_reckon_3 : decode cX8_reckon 3 = .ok (.getfield 13, 3) := by decide +kernel
theorem dX8_reckon_6 : decode cX8_reckon 6 = .ok (.invokestatic 19, 3) := by decide +kernel
theorem dX8_reckon_9 : decode cX8_reckon 9 = .ok (.lsub, 1) := by decide +kernel
theorem dX8_reckon_10 : decode cX8_reckon 10 = .ok (.invokestatic 25, 3) := by decide +kernel
theorem dX8_reckon_13 : decode cX8_reckon 13 = .ok (.lreturn, 1) := by decide +kernel
theorem dX8_turns_0 : decode cX8_turns 0 = .ok (.aload_n 2, 1) := by decide +kernel
theorem dX8_turns_1 : decode cX8_turns 1 = .ok (.iconst 0, 1) := by decide +kernel
theorem dX8_turns_2 : decode cX8_turns 2 = .ok (.dup2, 1) := by decide +kernel
theorem dX8_turns_3 : decode cX8_turns 3 = .ok (.iaload, 1) := by decide +kernel
theorem dX8_turns_4 : decode cX8_turns 4 = .ok (.iconst 1, 1) := by decide +kernel
theorem dX8_turns_5 : decode cX8_turns 5 = .ok (.iadd, 1) := by decide +kernel
theorem dX8_turns_6 : decode cX8_turns 6 = .ok (.dup_x2, 1) := by decide +kernel
theorem dX8_turns_7 : decode cX8_turns 7 = .ok (.iastore, 1) := by decide +kernel
theorem dX8_turns_8 : decode cX8_turns 8 = .ok (.aload_n 2, 1) := by decide +kernel
theorem dX8_turns_9 : decode cX8_turns 9 = .ok (.arraylength, 1) := by decide +kernel
theorem dX8_turns_10 : decode cX8_turns 10 = .ok (.if_icmp .ge 10, 3) := by decide +kernel
theorem dX8_turns_13 : decode cX8_turns 13 = .ok (.aload_n 2, 1) := by decide +kernel
theorem dX8_turns_14 : decode cX8_turns 14 = .ok (.aload_n 2, 1) := by decide +kernel
theorem dX8_turns_15 : decode cX8_turns 15 = .ok (.iconst 0, 1) := by decide +kernel
theorem dX8_turns_16 : decode cX8_turns 16 = .ok (.iaload, 1) := by decide +kernel
theorem dX8_turns_17 : decode cX8_turns 17 = .ok (.bipush 20, 2) := by decide +kernel
theorem dX8_turns_19 : decode cX8_turns 19 = .ok (.iastore, 1) := by decide +kernel
theorem dX8_turns_20 : decode cX8_turns 20 = .ok (.aload_n 0, 1) := by decide +kernel
theorem dX8_turns_21 : decode cX8_turns 21 = .ok (.iload_n 1, 1) := by decide +kernel
theorem dX8_turns_22 : decode cX8_turns 22 = .ok (.aload_n 2, 1) := by decide +kernel
theorem dX8_turns_23 : decode cX8_turns 23 = .ok (.invokespecial 31, 3) := by decide +kernel
theorem dX8_turns_26 : decode cX8_turns 26 = .ok (.aload_n 0, 1) := by decide +kernel
theorem dX8_turns_27 : decode cX8_turns 27 = .ok (.getfield 35, 3) := by decide +kernel
theorem dX8_turns_30 : decode cX8_turns 30 = .ok (.iadd, 1) := by decide +kernel
theorem dX8_turns_31 : decode cX8_turns 31 = .ok (.ireturn, 1) := by decide +kernel
theorem dX9_init_0 : decode cX9_init 0 = .ok (.aload_n 0, 1) := by decide +kernel
theorem dX9_init_1 : decode cX9_init 1 = .ok (.iload_n 1, 1) := by decide +kernel
theorem dX9_init_2 : decode cX9_init 2 = .ok (.iload_n 2, 1) := by decide +kernel
theorem dX9_init_3 : decode cX9_init 3 = .ok (.invokespecial 3, 3) := by decide +kernel
theorem dX9_init_6 : decode cX9_init 6 = .ok (.return_, 1) := by decide +kernel
theorem dX9_kindNumber_0 : decode cX9_kindNumber 0 = .ok (.iconst 4, 1) := by decide +kernel
theorem dX9_kindNumber_1 : decode cX9_kindNumber 1 = .ok (.ireturn, 1) := by decide +kernel
theorem dX9_isUnder_0 : decode cX9_isUnder 0 = .ok (.iload_n 1, 1) := by decide +kernel
theorem dX9_isUnder_1 : decode cX9_isUnder 1 = .ok (.iconst 4, 1) := by decide +kernel
theorem dX9_isUnder_2 : decode cX9_isUnder 2 = .ok (.if_icmp .eq 11, 3) := by decide +kernel
theorem dX9_isUnder_5 : decode cX9_isUnder 5 = .ok (.aload_n 0, 1) := by decide +kernel
theorem dX9_isUnder_6 : decode cX9_isUnder 6 = .ok (.iload_n 1, 1) := by decide +kernel
theorem dX9_isUnder_7 : decode cX9_isUnder 7 = .ok (.invokespecial 9, 3) := by decide +kernel
theorem dX9_isUnder_10 : decode cX9_isUnder 10 = .ok (.ifCond .eq 7, 3) := by decide +kernel
theorem dX9_isUnder_13 : decode cX9_isUnder 13 = .ok (.iconst 1, 1) := by decide +kernel
theorem dX9_isUnder_14 : decode cX9_isUnder 14 = .ok (.goto 4, 3) := by decide +kernel
theorem dX9_isUnder_17 : decode cX9_isUnder 17 = .ok (.iconst 0, 1) := by decide +kernel
theorem dX9_isUnder_18 : decode cX9_isUnder 18 = .ok (.ireturn, 1) := by decide +kernel
theorem dX9_reckon_0 : decode cX9_reckon 0 = .ok (.lload_n 1, 1) := by decide +kernel
theorem dX9_reckon_1 : decode cX9_reckon 1 = .ok (.aload_n 3, 1) := by decide +kernel
theorem dX9_reckon_2 : decode cX9_reckon 2 = .ok (.getfield 13, 3) := by decide +kernel
theorem dX9_reckon_5 : decode cX9_reckon 5 = .ok (.invokestatic 19, 3) := by decide +kernel
theorem dX9_reckon_8 : decode cX9_reckon 8 = .ok (.aload_n 0, 1) := by decide +kernel
theorem dX9_reckon_9 : decode cX9_reckon 9 = .ok (.getfield 25, 3) := by decide +kernel
theorem dX9_reckon_12 : decode cX9_reckon 12 = .ok (.i2l, 1) := by decide +kernel
theorem dX9_reckon_13 : decode cX9_reckon 13 = .ok (.ladd, 1) := by decide +kernel
theorem dX9_reckon_14 : decode cX9_reckon 14 = .ok (.lreturn, 1) := by decide +kernel
theorem dX9_reads_0 : decode cX9_reads 0 = .ok (.aload_n 2, 1) := by decide +kernel
theorem dX9_reads_1 : decode cX9_reads 1 = .ok (.iconst 0, 1) := by decide +kernel
theorem dX9_reads_2 : decode cX9_reads 2 = .ok (.dup2, 1) := by decide +kernel
theorem dX9_reads_3 : decode cX9_reads 3 = .ok (.iaload, 1) := by decide +kernel
theorem dX9_reads_4 : decode cX9_reads 4 = .ok (.iconst 1, 1) := by decide +kernel
theorem dX9_reads_5 : decode cX9_reads 5 = .ok (.iadd, 1) := by decide +kernel
theorem dX9_reads_6 : decode cX9_reads 6 = .ok (.dup_x2, 1) := by decide +kernel
theorem dX9_reads_7 : decode cX9_reads 7 = .ok (.iastore, 1) := by decide +kernel
theorem dX9_reads_8 : decode cX9_reads 8 = .ok (.aload_n 2, 1) := by decide +kernel
theorem dX9_reads_9 : decode cX9_reads 9 = .ok (.arraylength, 1) := by decide +kernel
theorem dX9_reads_10 : decode cX9_reads 10 = .ok (.if_icmp .ge 10, 3) := by decide +kernel
theorem dX9_reads_13 : decode cX9_reads 13 = .ok (.aload_n 2, 1) := by decide +kernel
theorem dX9_reads_14 : decode cX9_reads 14 = .ok (.aload_n 2, 1) := by decide +kernel
theorem dX9_reads_15 : decode cX9_reads 15 = .ok (.iconst 0, 1) := by decide +kernel
theorem dX9_reads_16 : decode cX9_reads 16 = .ok (.iaload, 1) := by decide +kernel
theorem dX9_reads_17 : decode cX9_reads 17 = .ok (.bipush 50, 2) := by decide +kernel
theorem dX9_reads_19 : decode cX9_reads 19 = .ok (.iastore, 1) := by decide +kernel
theorem dX9_reads_20 : decode cX9_reads 20 = .ok (.aload_n 0, 1) := by decide +kernel
theorem dX9_reads_21 : decode cX9_reads 21 = .ok (.iload_n 1, 1) := by decide +kernel
theorem dX9_reads_22 : decode cX9_reads 22 = .ok (.aload_n 2, 1) := by decide +kernel
theorem dX9_reads_23 : decode cX9_reads 23 = .ok (.invokespecial 30, 3) := by decide +kernel
theorem dX9_reads_26 : decode cX9_reads 26 = .ok (.ineg, 1) := by decide +kernel
theorem dX9_reads_27 : decode cX9_reads 27 = .ok (.ireturn, 1) := by decide +kernel
theorem dX9_turns_0 : decode cX9_turns 0 = .ok (.aload_n 2, 1) := by decide +kernel
theorem dX9_turns_1 : decode cX9_turns 1 = .ok (.iconst 0, 1) := by decide +kernel
theorem dX9_turns_2 : decode cX9_turns 2 = .ok (.dup2, 1) := by decide +kernel
theorem dX9_turns_3 : decode cX9_turns 3 = .ok (.iaload, 1) := by decide +kernel
theorem dX9_turns_4 : decode cX9_turns 4 = .ok (.iconst 1, 1) := by decide +kernel
theorem dX9_turns_5 : decode cX9_turns 5 = .ok (.iadd, 1) := by decide +kernel
theorem dX9_turns_6 : decode cX9_turns 6 = .ok (.dup_x2, 1) := by decide +kernel
theorem dX9_turns_7 : decode cX9_turns 7 = .ok (.iastore, 1) := by decide +kernel
theorem dX9_turns_8 : decode cX9_turns 8 = .ok (.aload_n 2, 1) := by decide +kernel
theorem dX9_turns_9 : decode cX9_turns 9 = .ok (.arraylength, 1) := by decide +kernel
theorem dX9_turns_10 : decode cX9_turns 10 = .ok (.if_icmp .ge 10, 3) := by decide +kernel
theorem dX9_turns_13 : decode cX9_turns 13 = .ok (.aload_n 2, 1) := by decide +kernel
theorem dX9_turns_14 : decode cX9_turns 14 = .ok (.aload_n 2, 1) := by decide +kernel
theorem dX9_turns_15 : decode cX9_turns 15 = .ok (.iconst 0, 1) := by decide +kernel
theorem dX9_turns_16 : decode cX9_turns 16 = .ok (.iaload, 1) := by decide +kernel
theorem dX9_turns_17 : decode cX9_turns 17 = .ok (.bipush 51, 2) := by decide +kernel
theorem dX9_turns_19 : decode cX9_turns 19 = .ok (.iastore, 1) := by decide +kernel
theorem dX9_turns_20 : decode cX9_turns 20 = .ok (.aload_n 0, 1) := by decide +kernel
theorem dX9_turns_21 : decode cX9_turns 21 = .ok (.iload_n 1, 1) := by decide +kernel
theorem dX9_turns_22 : decode cX9_turns 22 = .ok (.aload_n 2, 1) := by decide +kernel
theorem dX9_turns_23 : decode cX9_turns 23 = .ok (.invokespecial 34, 3) := by decide +kernel
theorem dX9_turns_26 : decode cX9_turns 26 = .ok (.aload_n 0, 1) := by decide +kernel
theorem dX9_turns_27 : decode cX9_turns 27 = .ok (.getfield 37, 3) := by decide +kernel
theorem dX9_turns_30 : decode cX9_turns 30 = .ok (.isub, 1) := by decide +kernel
theorem dX9_turns_31 : decode cX9_turns 31 = .ok (.ireturn, 1) := by decide +kernel
theorem dX10_init_0 : decode cX10_init 0 = .ok (.aload_n 0, 1) := by decide +kernel
theorem dX10_init_1 : decode cX10_init 1 = .ok (.iload_n 1, 1) := by decide +kernel
theorem dX10_init_2 : decode cX10_init 2 = .ok (.iload_n 2, 1) := by decide +kernel
theorem dX10_init_3 : decode cX10_init 3 = .ok (.invokespecial 3, 3) := by decide +kernel
theorem dX10_init_6 : decode cX10_init 6 = .ok (.return_, 1) := by decide +kernel
theorem dX10_kindNumber_0 : decode cX10_kindNumber 0 = .ok (.iconst 5, 1) := by decide +kernel
theorem dX10_kindNumber_1 : decode cX10_kindNumber 1 = .ok (.ireturn, 1) := by decide +kernel
theorem dX10_isUnder_0 : decode cX10_isUnder 0 = .ok (.iload_n 1, 1) := by decide +kernel
theorem dX10_isUnder_1 : decode cX10_isUnder 1 = .ok (.iconst 5, 1) := by decide +kernel
theorem dX10_isUnder_2 : decode cX10_isUnder 2 = .ok (.if_icmp .eq 11, 3) := by decide +kernel
theorem dX10_isUnder_5 : decode cX10_isUnder 5 = .ok (.aload_n 0, 1) := by decide +kernel
theorem dX10_isUnder_6 : decode cX10_isUnder 6 = .ok (.iload_n 1, 1) := by decide +kernel
theorem dX10_isUnder_7 : decode cX10_isUnder 7 = .ok (.invokespecial 9, 3) := by decide +kernel
theorem dX10_isUnder_10 : decode cX10_isUnder 10 = .ok (.ifCond .eq 7, 3) := by decide +kernel
theorem dX10_isUnder_13 : decode cX10_isUnder 13 = .ok (.iconst 1, 1) := by decide +kernel
theorem dX10_isUnder_14 : decode cX10_isUnder 14 = .ok (.goto 4, 3) := by decide +kernel
theorem dX10_isUnder_17 : decode cX10_isUnder 17 = .ok (.iconst 0, 1) := by decide +kernel
theorem dX10_isUnder_18 : decode cX10_isUnder 18 = .ok (.ireturn, 1) := by decide +kernel
theorem dX10_reckon_0 : decode cX10_reckon 0 = .ok (.aload_n 3, 1) := by decide +kernel
theorem dX10_reckon_1 : decode cX10_reckon 1 = .ok (.getfield 13, 3) := by decide +kernel
theorem dX10_reckon_4 : decode cX10_reckon 4 = .ok (.istore 4, 2) := by decide +kernel
theorem dX10_reckon_6 : decode cX10_reckon 6 = .ok (.iload 4, 2) := by decide +kernel
theorem dX10_reckon_8 : decode cX10_reckon 8 = .ok (.iconst 2, 1) := by decide +kernel
theorem dX10_reckon_9 : decode cX10_reckon 9 = .ok (.if_icmp .ge 5, 3) := by decide +kernel
theorem dX10_reckon_12 : decode cX10_reckon 12 = .ok (.lconst 0, 1) := by decide +kernel
theorem dX10_reckon_13 : decode cX10_reckon 13 = .ok (.lreturn, 1) := by decide +kernel
theorem dX10_reckon_14 : decode cX10_reckon 14 = .ok (.aload_n 3, 1) := by decide +kernel
theorem dX10_reckon_15 : decode cX10_reckon 15 = .ok (.aload_n 0, 1) := by decide +kernel
theorem dX10_reckon_16 : decode cX10_reckon 16 = .ok (.getfield 19, 3) := by decide +kernel
theorem dX10_reckon_19 : decode cX10_reckon 19 = .ok (.lload_n 1, 1) := by decide +kernel
theorem dX10_reckon_20 : decode cX10_reckon 20 = .ok (.iload 4, 2) := by decide +kernel
theorem dX10_reckon_22 : decode cX10_reckon 22 = .ok (.i2l, 1) := by decide +kernel
theorem dX10_reckon_23 : decode cX10_reckon 23 = .ok (.lrem, 1) := by decide +kernel
theorem dX10_reckon_24 : decode cX10_reckon 24 = .ok (.l2i, 1) := by decide +kernel
theorem dX10_reckon_25 : decode cX10_reckon 25 = .ok (.invokevirtual 24, 3) := by decide +kernel
theorem dX10_reckon_28 : decode cX10_reckon 28 = .ok (.i2l, 1) := by decide +kernel
theorem dX10_reckon_29 : decode cX10_reckon 29 = .ok (.lstore 5, 2) := by decide +kernel
theorem dX10_reckon_31 : decode cX10_reckon 31 = .ok (.lload_n 1, 1) := by decide +kernel
theorem dX10_reckon_32 : decode cX10_reckon 32 = .ok (.iload 4, 2) := by decide +kernel
theorem dX10_reckon_34 : decode cX10_reckon 34 = .ok (.i2l, 1) := by decide +kernel
theorem dX10_reckon_35 : decode cX10_reckon 35 = .ok (.ldiv, 1) := by decide +kernel
theorem dX10_reckon_36 : decode cX10_reckon 36 = .ok (.lstore 7, 2) := by decide +kernel
theorem dX10_reckon_38 : decode cX10_reckon 38 = .ok (.iconst 1, 1) := by decide +kernel
theorem dX10_reckon_39 : decode cX10_reckon 39 = .ok (.istore 9, 2) := by decide +kernel
theorem dX10_reckon_41 : decode cX10_reckon 41 = .ok (.iload 9, 2) := by decide +kernel
theorem dX10_reckon_43 : decode cX10_reckon 43 = .ok (.bipush 64, 2) := by decide +kernel
theorem dX10_reckon_45 : decode cX10_reckon 45 = .ok (.if_icmp .ge 45, 3) := by decide +kernel
theorem dX10_reckon_48 : decode cX10_reckon 48 = .ok (.lload 7, 2) := by decide +kernel
theorem dX10_reckon_50 : decode cX10_reckon 50 = .ok (.lconst 0, 1) := by decide +kernel
theorem dX10_reckon_51 : decode cX10_reckon 51 = .ok (.lcmp, 1) := by decide +kernel
theorem dX10_reckon_52 : decode cX10_reckon 52 = .ok (.ifCond .le 38, 3) := by decide +kernel
theorem dX10_reckon_55 : decode cX10_reckon 55 = .ok (.lload 5, 2) := by decide +kernel
theorem dX10_reckon_57 : decode cX10_reckon 57 = .ok (.aload_n 3, 1) := by decide +kernel
theorem dX10_reckon_58 : decode cX10_reckon 58 = .ok (.aload_n 0, 1) := by decide +kernel
theorem dX10_reckon_59 : decode cX10_reckon 59 = .ok (.getfield 19, 3) := by decide +kernel
theorem dX10_reckon_62 : decode cX10_reckon 62 = .ok (.lload 7, 2) := by decide +kernel
theorem dX10_reckon_64 : decode cX10_reckon 64 = .ok (.iload 4, 2) := by decide +kernel
theorem dX10_reckon_66 : decode cX10_reckon 66 = .ok (.i2l, 1) := by decide +kernel
theorem dX10_reckon_67 : decode cX10_reckon 67 = .ok (.lrem, 1) := by decide +kernel
theorem dX10_reckon_68 : decode cX10_reckon 68 = .ok (.l2i, 1) := by decide +kernel
theorem dX10_reckon_69 : decode cX10_reckon 69 = .ok (.invokevirtual 24, 3) := by decide +kernel
theorem dX10_reckon_72 : decode cX10_reckon 72 = .ok (.i2l, 1) := by decide +kernel
theorem dX10_reckon_73 : decode cX10_reckon 73 = .ok (.ladd, 1) := by decide +kernel
theorem dX10_reckon_74 : decode cX10_reckon 74 = .ok (.lstore 5, 2) := by decide +kernel
theorem dX10_reckon_76 : decode cX10_reckon 76 = .ok (.lload 7, 2) := by decide +kernel
theorem dX10_reckon_78 : decode cX10_reckon 78 = .ok (.iload 4, 2) := by decide +kernel
theorem dX10_reckon_80 : decode cX10_reckon 80 = .ok (.i2l, 1) := by decide +kernel
theorem dX10_reckon_81 : decode cX10_reckon 81 = .ok (.ldiv, 1) := by decide +kernel
theorem dX10_reckon_82 : decode cX10_reckon 82 = .ok (.lstore 7, 2) := by decide +kernel
theorem dX10_reckon_84 : decode cX10_reckon 84 = .ok (.iinc 9 1, 3) := by decide +kernel
theorem dX10_reckon_87 : decode cX10_reckon 87 = .ok (.goto (-46), 3) := by decide +kernel
theorem dX10_reckon_90 : decode cX10_reckon 90 = .ok (.lload 5, 2) := by decide +kernel
theorem dX10_reckon_92 : decode cX10_reckon 92 = .ok (.lreturn, 1) := by decide +kernel
theorem dX10_reads_0 : decode cX10_reads 0 = .ok (.aload_n 2, 1) := by decide +kernel
theorem dX10_reads_1 : decode cX10_reads 1 = .ok (.iconst 0, 1) := by decide +kernel
theorem dX10_reads_2 : decode cX10_reads 2 = .ok (.dup2, 1) := by decide +kernel
theorem dX10_reads_3 : decode cX10_reads 3 = .ok (.iaload, 1) := by decide +kernel
theorem dX10_reads_4 : decode cX10_reads 4 = .ok (.iconst 1, 1) := by decide +kernel
theorem dX10_reads_5 : decode cX10_reads 5 = .ok (.iadd, 1) := by decide +kernel
theorem dX10_reads_6 : decode cX10_reads 6 = .ok (.dup_x2, 1) := by decide +kernel
theorem dX10_reads_7 : decode cX10_reads 7 = .ok (.iastore, 1) := by decide +kernel
theorem dX10_reads_8 : decode cX10_reads 8 = .ok (.aload_n 2, 1) := by decide +kernel
theorem dX10_reads_9 : decode cX10_reads 9 = .ok (.arraylength, 1) := by decide +kernel
theorem dX10_reads_10 : decode cX10_reads 10 = .ok (.if_icmp .ge 10, 3) := by decide +kernel
theorem dX10_reads_13 : decode cX10_reads 13 = .ok (.aload_n 2, 1) := by decide +kernel
theorem dX10_reads_14 : decode cX10_reads 14 = .ok (.aload_n 2, 1) := by decide +kernel
theorem dX10_reads_15 : decode cX10_reads 15 = .ok (.iconst 0, 1) := by decide +kernel
theorem dX10_reads_16 : decode cX10_reads 16 = .ok (.iaload, 1) := by decide +kernel
theorem dX10_reads_17 : decode cX10_reads 17 = .ok (.bipush 60, 2) := by decide +kernel
theorem dX10_reads_19 : decode cX10_reads 19 = .ok (.iastore, 1) := by decide +kernel
theorem dX10_reads_20 : decode cX10_reads 20 = .ok (.aload_n 0, 1) := by decide +kernel
theorem dX10_reads_21 : decode cX10_reads 21 = .ok (.iload_n 1, 1) := by decide +kernel
theorem dX10_reads_22 : decode cX10_reads 22 = .ok (.aload_n 2, 1) := by decide +kernel
theorem dX10_reads_23 : decode cX10_reads 23 = .ok (.invokespecial 28, 3) := by decide +kernel
theorem dX10_reads_26 : decode cX10_reads 26 = .ok (.iconst 5, 1) := by decide +kernel
theorem dX10_reads_27 : decode cX10_reads 27 = .ok (.ixor, 1) := by decide +kernel
theorem dX10_reads_28 : decode cX10_reads 28 = .ok (.ireturn, 1) := by decide +kernel
theorem dX11_init_0 : decode cX11_init 0 = .ok (.aload_n 0, 1) := by decide +kernel
theorem dX11_init_1 : decode cX11_init 1 = .ok (.invokespecial 1, 3) := by decide +kernel
theorem dX11_init_4 : decode cX11_init 4 = .ok (.aload_n 0, 1) := by decide +kernel
theorem dX11_init_5 : decode cX11_init 5 = .ok (.new 7, 3) := by decide +kernel
theorem dX11_init_8 : decode cX11_init 8 = .ok (.dup, 1) := by decide +kernel
theorem dX11_init_9 : decode cX11_init 9 = .ok (.invokespecial 9, 3) := by decide +kernel
theorem dX11_init_12 : decode cX11_init 12 = .ok (.putfield 10, 3) := by decide +kernel
theorem dX11_init_15 : decode cX11_init 15 = .ok (.aload_n 0, 1) := by decide +kernel
theorem dX11_init_16 : decode cX11_init 16 = .ok (.new 7, 3) := by decide +kernel
theorem dX11_init_19 : decode cX11_init 19 = .ok (.dup, 1) := by decide +kernel
theorem dX11_init_20 : decode cX11_init 20 = .ok (.invokespecial 9, 3) := by decide +kernel
theorem dX11_init_23 : decode cX11_init 23 = .ok (.putfield 16, 3) := by decide +kernel
theorem dX11_init_26 : decode cX11_init 26 = .ok (.aload_n 0, 1) := by decide +kernel
theorem dX11_init_27 : decode cX11_init 27 = .ok (.bipush 8, 2) := by decide +kernel
theorem dX11_init_29 : decode cX11_init 29 = .ok (.anewarray 19, 3) := by decide +kernel
theorem dX11_init_32 : decode cX11_init 32 = .ok (.putfield 21, 3) := by decide +kernel
theorem dX11_init_35 : decode cX11_init 35 = .ok (.iconst 0, 1) := by decide +kernel
theorem dX11_init_36 : decode cX11_init 36 = .ok (.istore_n 1, 1) := by decide +kernel
theorem dX11_init_37 : decode cX11_init 37 = .ok (.iload_n 1, 1) := by decide +kernel
theorem dX11_init_38 : decode cX11_init 38 = .ok (.aload_n 0, 1) := by decide +kernel
theorem dX11_init_39 : decode cX11_init 39 = .ok (.getfield 21, 3) := by decide +kernel
theorem dX11_init_42 : decode cX11_init 42 = .ok (.arraylength, 1) := by decide +kernel
theorem dX11_init_43 : decode cX11_init 43 = .ok (.if_icmp .ge 22, 3) := by decide +kernel
theorem dX11_init_46 : decode cX11_init 46 = .ok (.aload_n 0, 1) := by decide +kernel
theorem dX11_init_47 : decode cX11_init 47 = .ok (.getfield 21, 3) := by decide +kernel
theorem dX11_init_50 : decode cX11_init 50 = .ok (.iload_n 1, 1) := by decide +kernel
theorem dX11_init_51 : decode cX11_init 51 = .ok (.new 19, 3) := by decide +kernel
theorem dX11_init_54 : decode cX11_init 54 = .ok (.dup, 1) := by decide +kernel
theorem dX11_init_55 : decode cX11_init 55 = .ok (.invokespecial 25, 3) := by decide +kernel
theorem dX11_init_58 : decode cX11_init 58 = .ok (.aastore, 1) := by decide +kernel
theorem dX11_init_59 : decode cX11_init 59 = .ok (.iinc 1 1, 3) := by decide +kernel
theorem dX11_init_62 : decode cX11_init 62 = .ok (.goto (-25), 3) := by decide +kernel
theorem dX11_init_65 : decode cX11_init 65 = .ok (.aload_n 0, 1) := by decide +kernel
theorem dX11_init_66 : decode cX11_init 66 = .ok (.bipush 7, 2) := by decide +kernel
theorem dX11_init_68 : decode cX11_init 68 = .ok (.newarray .int, 2) := by decide +kernel
theorem dX11_init_70 : decode cX11_init 70 = .ok (.putfield 26, 3) := by decide +kernel
theorem dX11_init_73 : decode cX11_init 73 = .ok (.aload_n 0, 1) := by decide +kernel
theorem dX11_init_74 : decode cX11_init 74 = .ok (.new 30, 3) := by decide +kernel
theorem dX11_init_77 : decode cX11_init 77 = .ok (.dup, 1) := by decide +kernel
theorem dX11_init_78 : decode cX11_init 78 = .ok (.invokespecial 32, 3) := by decide +kernel
theorem dX11_init_81 : decode cX11_init 81 = .ok (.putfield 33, 3) := by decide +kernel
theorem dX11_init_84 : decode cX11_init 84 = .ok (.aload_n 0, 1) := by decide +kernel
theorem dX11_init_85 : decode cX11_init 85 = .ok (.iconst (-1), 1) := by decide +kernel
theorem dX11_init_86 : decode cX11_init 86 = .ok (.putfield 37, 3) := by decide +kernel
theorem dX11_init_89 : decode cX11_init 89 = .ok (.aload_n 0, 1) := by decide +kernel
theorem dX11_init_90 : decode cX11_init 90 = .ok (.bipush 21, 2) := by decide +kernel
theorem dX11_init_92 : decode cX11_init 92 = .ok (.newarray .int, 2) := by decide +kernel
theorem dX11_init_94 : decode cX11_init 94 = .ok (.putfield 41, 3) := by decide +kernel
theorem dX11_init_97 : decode cX11_init 97 = .ok (.aload_n 0, 1) := by decide +kernel
theorem dX11_init_98 : decode cX11_init 98 = .ok (.sipush 1001, 3) := by decide +kernel
theorem dX11_init_101 : decode cX11_init 101 = .ok (.newarray .long, 2) := by decide +kernel
theorem dX11_init_103 : decode cX11_init 103 = .ok (.putfield 44, 3) := by decide +kernel
theorem dX11_init_106 : decode cX11_init 106 = .ok (.aload_n 0, 1) := by decide +kernel
theorem dX11_init_107 : decode cX11_init 107 = .ok (.iconst 3, 1) := by decide +kernel
theorem dX11_init_108 : decode cX11_init 108 = .ok (.newarray .long, 2) := by decide +kernel
theorem dX11_init_110 : decode cX11_init 110 = .ok (.putfield 48, 3) := by decide +kernel
theorem dX11_init_113 : decode cX11_init 113 = .ok (.aload_n 0, 1) := by decide +kernel
theorem dX11_init_114 : decode cX11_init 114 = .ok (.sipush 500, 3) := by decide +kernel
theorem dX11_init_117 : decode cX11_init 117 = .ok (.newarray .long, 2) := by decide +kernel
theorem dX11_init_119 : decode cX11_init 119 = .ok (.putfield 51, 3) := by decide +kernel
theorem dX11_init_122 : decode cX11_init 122 = .ok (.aload_n 0, 1) := by decide +kernel
theorem dX11_init_123 : decode cX11_init 123 = .ok (.sipush 157, 3) := by decide +kernel
theorem dX11_init_126 : decode cX11_init 126 = .ok (.newarray .long, 2) := by decide +kernel
theorem dX11_init_128 : decode cX11_init 128 = .ok (.putfield 54, 3) := by decide +kernel
theorem dX11_init_131 : decode cX11_init 131 = .ok (.return_, 1) := by decide +kernel
theorem dX11_row_0 : decode cX11_row 0 = .ok (.aload_n 0, 1) := by decide +kernel
theorem dX11_row_1 : decode cX11_row 1 = .ok (.iload_n 1, 1) := by decide +kernel
theorem dX11_row_2 : decode cX11_row 2 = .ok (.invokevirtual 57, 3) := by decide +kernel
theorem dX11_row_5 : decode cX11_row 5 = .ok (.astore 4, 2) := by decide +kernel
theorem dX11_row_7 : decode cX11_row 7 = .ok (.aload 4, 2) := by decide +kernel
theorem dX11_row_9 : decode cX11_row 9 = .ok (.ifnonnull 9, 3) := by decide +kernel
theorem dX11_row_12 : decode cX11_row 12 = .ok (.aload_n 0, 1) := by decide +kernel
theorem dX11_row_13 : decode cX11_row 13 = .ok (.iconst (-1), 1) := by decide +kernel
theorem dX11_row_14 : decode cX11_row 14 = .ok (.invokevirtual 61, 3) := by decide +kernel
theorem dX11_row_17 : decode cX11_row 17 = .ok (.ireturn, 1) := by decide +kernel
theorem dX11_row_18 : decode cX11_row 18 = .ok (.iload_n 3, 1) := by decide +kernel
theorem dX11_row_19 : decode cX11_row 19 = .ok (.ifCond .ge 10, 3) := by decide +kernel
theorem dX11_row_22 : decode cX11_row 22 = .ok (.aload_n 0, 1) := by decide +kernel
theorem dX11_row_23 : decode cX11_row 23 = .ok (.bipush (-4), 2) := by decide +kernel
theorem dX11_row_25 : decode cX11_row 25 = .ok (.invokevirtual 61, 3) := by decide +kernel
theorem dX11_row_28 : decode cX11_row 28 = .ok (.ireturn, 1) := by decide +kernel
theorem dX11_row_29 : decode cX11_row 29 = .ok (.iload_n 2, 1) := by decide +kernel
theorem dX11_row_30 : decode cX11_row 30 = .ok (.ifCond .lt 8, 3) := by decide +kernel
theorem dX11_row_33 : decode cX11_row 33 = .ok (.iload_n 2, 1) := by decide +kernel
theorem dX11_row_34 : decode cX11_row 34 = .ok (.iconst 3, 1) := by decide +kernel
theorem dX11_row_35 : decode cX11_row 35 = .ok (.if_icmp .le 10, 3) := by decide +kernel
theorem dX11_row_38 : decode cX11_row 38 = .ok (.aload_n 0, 1) := by decide +kernel
theorem dX11_row_39 : decode cX11_row 39 = .ok (.bipush (-6), 2) := by decide +kernel
theorem dX11_row_41 : decode cX11_row 41 = .ok (.invokevirtual 61, 3) := by decide +kernel
theorem dX11_row_44 : decode cX11_row 44 = .ok (.ireturn, 1) := by decide +kernel
theorem dX11_row_45 : decode cX11_row 45 = .ok (.iload_n 3, 1) := by decide +kernel
theorem dX11_row_46 : decode cX11_row 46 = .ok (.sipush 160, 3) := by decide +kernel
theorem dX11_row_49 : decode cX11_row 49 = .ok (.if_icmp .le 10, 3) := by decide +kernel
theorem dX11_row_52 : decode cX11_row 52 = .ok (.aload_n 0, 1) := by decide +kernel
theorem dX11_row_53 : decode cX11_row 53 = .ok (.bipush (-7), 2) := by decide +kernel
theorem dX11_row_55 : decode cX11_row 55 = .ok (.invokevirtual 61, 3) := by decide +kernel
theorem dX11_row_58 : decode cX11_row 58 = .ok (.ireturn, 1) := by decide +kernel
theorem dX11_row_59 : decode cX11_row 59 = .ok (.aload 4, 2) := by decide +kernel
theorem dX11_row_61 : decode cX11_row 61 = .ok (.iload_n 2, 1) := by decide +kernel
theorem dX11_row_62 : decode cX11_row 62 = .ok (.iload_n 3, 1) := by decide +kernel
theorem dX11_row_63 : decode cX11_row 63 = .ok (.invokevirtual 65, 3) := by decide +kernel
theorem dX11_row_66 : decode cX11_row 66 = .ok (.iconst 1, 1) := by decide +kernel
theorem dX11_row_67 : decode cX11_row 67 = .ok (.ireturn, 1) := by decide +kernel
theorem dX11_set_0 : decode cX11_set 0 = .ok (.aload_n 0, 1) := by decide +kernel
theorem dX11_set_1 : decode cX11_set 1 = .ok (.iload_n 1, 1) := by decide +kernel
theorem dX11_set_2 : decode cX11_set 2 = .ok (.invokevirtual 57, 3) := by decide +kernel
theorem dX11_set_5 : decode cX11_set 5 = .ok (.astore 5, 2) := by decide +kernel
theorem dX11_set_7 : decode cX11_set 7 = .ok (.aload 5, 2) := by decide +kernel
theorem dX11_set_9 : decode cX11_set 9 = .ok (.ifnonnull 9, 3) := by decide +kernel
theorem dX11_set_12 : decode cX11_set 12 = .ok (.aload_n 0, 1) := by decide +kernel
theorem dX11_set_13 : decode cX11_set 13 = .ok (.iconst (-1), 1) := by decide +kernel
theorem dX11_set_14 : decode cX11_set 14 = .ok (.invokevirtual 61, 3) := by decide +kernel
theorem dX11_set_17 : decode cX11_set 17 = .ok (.ireturn, 1) := by decide +kernel
theorem dX11_set_18 : decode cX11_set 18 = .ok (.aload 5, 2) := by decide +kernel
theorem dX11_set_20 : decode cX11_set 20 = .ok (.invokevirtual 69, 3) := by decide +kernel
theorem dX11_set_23 : decode cX11_set 23 = .ok (.istore 6, 2) := by decide +kernel
theorem dX11_set_25 : decode cX11_set 25 = .ok (.iload 6, 2) := by decide +kernel
theorem dX11_set_27 : decode cX11_set 27 = .ok (.ifCond .eq 10, 3) := by decide +kernel
theorem dX11_set_30 : decode cX11_set 30 = .ok (.aload_n 0, 1) := by decide +kernel
theorem dX11_set_31 : decode cX11_set 31 = .ok (.iload 6, 2) := by decide +kernel
theorem dX11_set_33 : decode cX11_set 33 = .ok (.invokevirtual 61, 3) := by decide +kernel
theorem dX11_set_36 : decode cX11_set 36 = .ok (.ireturn, 1) := by decide +kernel
theorem dX11_set_37 : decode cX11_set 37 = .ok (.aload 5, 2) := by decide +kernel
theorem dX11_set_39 : decode cX11_set 39 = .ok (.iload_n 2, 1) := by decide +kernel
theorem dX11_set_40 : decode cX11_set 40 = .ok (.iconst 1, 1) := by decide +kernel
theorem dX11_set_41 : decode cX11_set 41 = .ok (.invokevirtual 73, 3) := by decide +kernel
theorem dX11_set_44 : decode cX11_set 44 = .ok (.ifCond .ne 10, 3) := by decide +kernel
theorem dX11_set_47 : decode cX11_set 47 = .ok (.aload_n 0, 1) := by decide +kernel
theorem dX11_set_48 : decode cX11_set 48 = .ok (.bipush (-5), 2) := by decide +kernel
theorem dX11_set_50 : decode cX11_set 50 = .ok (.invokevirtual 61, 3) := by decide +kernel
theorem dX11_set_53 : decode cX11_set 53 = .ok (.ireturn, 1) := by decide +kernel
theorem dX11_set_54 : decode cX11_set 54 = .ok (.aload 5, 2) := by decide +kernel
theorem dX11_set_56 : decode cX11_set 56 = .ok (.iload_n 2, 1) := by decide +kernel
theorem dX11_set_57 : decode cX11_set 57 = .ok (.lload_n 3, 1) := by decide +kernel
theorem dX11_set_58 : decode cX11_set 58 = .ok (.invokevirtual 77, 3) := by decide +kernel
theorem dX11_set_61 : decode cX11_set 61 = .ok (.iconst 1, 1) := by decide +kernel
theorem dX11_set_62 : decode cX11_set 62 = .ok (.ireturn, 1) := by decide +kernel
theorem dX11_copy_0 : decode cX11_copy 0 = .ok (.aload_n 0, 1) := by decide +kernel
theorem dX11_copy_1 : decode cX11_copy 1 = .ok (.iload_n 1, 1) := by decide +kernel
theorem dX11_copy_2 : decode cX11_copy 2 = .ok (.invokevirtual 57, 3) := by decide +kernel
theorem dX11_copy_5 : decode cX11_copy 5 = .ok (.astore 6, 2) := by decide +kernel
theorem dX11_copy_7 : decode cX11_copy 7 = .ok (.aload_n 0, 1) := by decide +kernel
theorem dX11_copy_8 : decode cX11_copy 8 = .ok (.iload_n 2, 1) := by decide +kernel
theorem dX11_copy_9 : decode cX11_copy 9 = .ok (.invokevirtual 57, 3) := by decide +kernel
theorem dX11_copy_12 : decode cX11_copy 12 = .ok (.astore 7, 2) := by decide +kernel
theorem dX11_copy_14 : decode cX11_copy 14 = .ok (.aload 6, 2) := by decide +kernel
theorem dX11_copy_16 : decode cX11_copy 16 = .ok (.ifnull 8, 3) := by decide +kernel
theorem dX11_copy_19 : decode cX11_copy 19 = .ok (.aload 7, 2) := by decide +kernel
theorem dX11_copy_21 : decode cX11_copy 21 = .ok (.ifnonnull 9, 3) := by decide +kernel
theorem dX11_copy_24 : decode cX11_copy 24 = .ok (.aload_n 0, 1) := by decide +kernel
theorem dX11_copy_25 : decode cX11_copy 25 = .ok (.iconst (-1), 1) := by decide +kernel
theorem dX11_copy_26 : decode cX11_copy 26 = .ok (.invokevirtual 61, 3) := by decide +kernel
theorem dX11_copy_29 : decode cX11_copy 29 = .ok (.ireturn, 1) := by decide +kernel
theorem dX11_copy_30 : decode cX11_copy 30 = .ok (.aload 6, 2) := by decide +kernel
theorem dX11_copy_32 : decode cX11_copy 32 = .ok (.getfield 81, 3) := by decide +kernel
theorem dX11_copy_35 : decode cX11_copy 35 = .ok (.iconst (-1), 1) := by decide +kernel
theorem dX11_copy_36 : decode cX11_copy 36 = .ok (.if_icmp .eq 16, 3) := by decide +kernel
theorem dX11_copy_39 : decode cX11_copy 39 = .ok (.aload 7, 2) := by decide +kernel
theorem dX11_copy_41 : decode cX11_copy 41 = .ok (.getfield 81, 3) := by decide +kernel
theorem dX11_copy_44 : decode cX11_copy 44 = .ok (.iconst (-1), 1) := by decide +kernel
theorem dX11_copy_45 : decode cX11_copy 45 = .ok (.if_icmp .eq 7, 3) := by decide +kernel
theorem dX11_copy_48 : decode cX11_copy 48 = .ok (.iconst 1, 1) := by decide +kernel
theorem dX11_copy_49 : decode cX11_copy 49 = .ok (.goto 4, 3) := by decide +kernel
theorem dX11_copy_52 : decode cX11_copy 52 = .ok (.iconst 0, 1) := by decide +kernel
theorem dX11_copy_53 : decode cX11_copy 53 = .ok (.istore 8, 2) := by decide +kernel
theorem dX11_copy_55 : decode cX11_copy 55 = .ok (.aload 6, 2) := by decide +kernel
theorem dX11_copy_57 : decode cX11_copy 57 = .ok (.getfield 84, 3) := by decide +kernel
theorem dX11_copy_60 : decode cX11_copy 60 = .ok (.iconst (-1), 1) := by decide +kernel
theorem dX11_copy_61 : decode cX11_copy 61 = .ok (.if_icmp .ne 30, 3) := by decide +kernel
theorem dX11_copy_64 : decode cX11_copy 64 = .ok (.aload 7, 2) := by decide +kernel
theorem dX11_copy_66 : decode cX11_copy 66 = .ok (.getfield 84, 3) := by decide +kernel
theorem dX11_copy_69 : decode cX11_copy 69 = .ok (.iconst (-1), 1) := by decide +kernel
theorem dX11_copy_70 : decode cX11_copy 70 = .ok (.if_icmp .ne 21, 3) := by decide +kernel
theorem dX11_copy_73 : decode cX11_copy 73 = .ok (.iload 8, 2) := by decide +kernel
theorem dX11_copy_75 : decode cX11_copy 75 = .ok (.ifCond .eq 23, 3) := by decide +kernel
theorem dX11_copy_78 : decode cX11_copy 78 = .ok (.aload 6, 2) := by decide +kernel
theorem dX11_copy_80 : decode cX11_copy 80 = .ok (.getfield 81, 3) := by decide +kernel
theorem dX11_copy_83 : decode cX11_copy 83 = .ok (.aload 7, 2) := by decide +kernel
theorem dX11_copy_85 : decode cX11_copy 85 = .ok (.getfield 81, 3) := by decide +kernel
theorem dX11_copy_88 : decode cX11_copy 88 = .ok (.if_icmp .eq 10, 3) := by decide +kernel
theorem dX11_copy_91 : decode cX11_copy 91 = .ok (.aload_n 0, 1) := by decide +kernel
theorem dX11_copy_92 : decode cX11_copy 92 = .ok (.bipush (-2), 2) := by decide +kernel
theorem dX11_copy_94 : decode cX11_copy 94 = .ok (.invokevirtual 61, 3) := by decide +kernel
theorem dX11_copy_97 : decode cX11_copy 97 = .ok (.ireturn, 1) := by decide +kernel
theorem dX11_copy_98 : decode cX11_copy 98 = .ok (.iload 8, 2) := by decide +kernel
theorem dX11_copy_100 : decode cX11_copy 100 = .ok (.ifCond .ne 10, 3) := by decide +kernel
theorem dX11_copy_103 : decode cX11_copy 103 = .ok (.aload_n 0, 1) := by decide +kernel
theorem dX11_copy_104 : decode cX11_copy 104 = .ok (.bipush (-3), 2) := by decide +kernel
theorem dX11_copy_106 : decode cX11_copy 106 = .ok (.invokevirtual 61, 3) := by decide +kernel
theorem dX11_copy_109 : decode cX11_copy 109 = .ok (.ireturn, 1) := by decide +kernel
theorem dX11_copy_110 : decode cX11_copy 110 = .ok (.iload 5, 2) := by decide +kernel
theorem dX11_copy_112 : decode cX11_copy 112 = .ok (.ifCond .ge 10, 3) := by decide +kernel
theorem dX11_copy_115 : decode cX11_copy 115 = .ok (.aload_n 0, 1) := by decide +kernel
theorem dX11_copy_116 : decode cX11_copy 116 = .ok (.bipush (-4), 2) := by decide +kernel
theorem dX11_copy_118 : decode cX11_copy 118 = .ok (.invokevirtual 61, 3) := by decide +kernel
theorem dX11_copy_121 : decode cX11_copy 121 = .ok (.ireturn, 1) := by decide +kernel
theorem dX11_copy_122 : decode cX11_copy 122 = .ok (.aload 6, 2) := by decide +kernel
theorem dX11_copy_124 : decode cX11_copy 124 = .ok (.iload_n 3, 1) := by decide +kernel
theorem dX11_copy_125 : decode cX11_copy 125 = .ok (.iload 5, 2) := by decide +kernel
theorem dX11_copy_127 : decode cX11_copy 127 = .ok (.invokevirtual 73, 3) := by decide +kernel
theorem dX11_copy_130 : decode cX11_copy 130 = .ok (.ifCond .eq 15, 3) := by decide +kernel
theorem dX11_copy_133 : decode cX11_copy 133 = .ok (.aload 7, 2) := by decide +kernel
theorem dX11_copy_135 : decode cX11_copy 135 = .ok (.iload 4, 2) := by decide +kernel
theorem dX11_copy_137 : decode cX11_copy 137 = .ok (.iload 5, 2) := by decide +kernel
theorem dX11_copy_139 : decode cX11_copy 139 = .ok (.invokevirtual 73, 3) := by decide +kernel
theorem dX11_copy_142 : decode cX11_copy 142 = .ok (.ifCond .ne 10, 3) := by decide +kernel
theorem dX11_copy_145 : decode cX11_copy 145 = .ok (.aload_n 0, 1) := by decide +kernel
theorem dX11_copy_146 : decode cX11_copy 146 = .ok (.bipush (-5), 2) := by decide +kernel
theorem dX11_copy_148 : decode cX11_copy 148 = .ok (.invokevirtual 61, 3) := by decide +kernel
theorem dX11_copy_151 : decode cX11_copy 151 = .ok (.ireturn, 1) := by decide +kernel
theorem dX11_copy_152 : decode cX11_copy 152 = .ok (.aload 6, 2) := by decide +kernel
theorem dX11_copy_154 : decode cX11_copy 154 = .ok (.getfield 87, 3) := by decide +kernel
theorem dX11_copy_157 : decode cX11_copy 157 = .ok (.iload_n 3, 1) := by decide +kernel
theorem dX11_copy_158 : decode cX11_copy 158 = .ok (.aload 7, 2) := by decide +kernel
theorem dX11_copy_160 : decode cX11_copy 160 = .ok (.getfield 87, 3) := by decide +kernel
theorem dX11_copy_163 : decode cX11_copy 163 = .ok (.iload 4, 2) := by decide +kernel
theorem dX11_copy_165 : decode cX11_copy 165 = .ok (.iload 5, 2) := by decide +kernel
theorem dX11_copy_167 : decode cX11_copy 167 = .ok (.invokestatic 90, 3) := by decide +kernel
theorem dX11_copy_170 : decode cX11_copy 170 = .ok (.iconst 1, 1) := by decide +kernel
theorem dX11_copy_171 : decode cX11_copy 171 = .ok (.ireturn, 1) := by decide +kernel
theorem dX11_element_0 : decode cX11_element 0 = .ok (.aload_n 0, 1) := by decide +kernel
theorem dX11_element_1 : decode cX11_element 1 = .ok (.iload_n 1, 1) := by decide +kernel
theorem dX11_element_2 : decode cX11_element 2 = .ok (.invokevirtual 57, 3) := by decide +kernel
theorem dX11_element_5 : decode cX11_element 5 = .ok (.astore_n 3, 1) := by decide +kernel
theorem dX11_element_6 : decode cX11_element 6 = .ok (.aload_n 3, 1) := by decide +kernel
theorem dX11_element_7 : decode cX11_element 7 = .ok (.ifnonnull 7, 3) := by decide +kernel
theorem dX11_element_10 : decode cX11_element 10 = .ok (.lconst 0, 1) := by decide +kernel
theorem dX11_element_11 : decode cX11_element 11 = .ok (.goto 8, 3) := by decide +kernel
theorem dX11_element_14 : decode cX11_element 14 = .ok (.aload_n 3, 1) := by decide +kernel
theorem dX11_element_15 : decode cX11_element 15 = .ok (.iload_n 2, 1) := by decide +kernel
theorem dX11_element_16 : decode cX11_element 16 = .ok (.invokevirtual 96, 3) := by decide +kernel
theorem dX11_element_19 : decode cX11_element 19 = .ok (.lreturn, 1) := by decide +kernel
theorem dX11_show_0 : decode cX11_show 0 = .ok (.aload_n 0, 1) := by decide +kernel
theorem dX11_show_1 : decode cX11_show 1 = .ok (.iload_n 1, 1) := by decide +kernel
theorem dX11_show_2 : decode cX11_show 2 = .ok (.invokevirtual 57, 3) := by decide +kernel
theorem dX11_show_5 : decode cX11_show 5 = .ok (.astore_n 3, 1) := by decide +kernel
theorem dX11_show_6 : decode cX11_show 6 = .ok (.aload_n 3, 1) := by decide +kernel
theorem dX11_show_7 : decode cX11_show 7 = .ok (.ifnull 19, 3) := by decide +kernel
theorem dX11_show_10 : decode cX11_show 10 = .ok (.iload_n 2, 1) := by decide +kernel
theorem dX11_show_11 : decode cX11_show 11 = .ok (.iconst (-1), 1) := by decide +kernel
theorem dX11_show_12 : decode cX11_show 12 = .ok (.if_icmp .eq 20, 3) := by decide +kernel
theorem dX11_show_15 : decode cX11_show 15 = .ok (.aload_n 0, 1) := by decide +kernel
theorem dX11_show_16 : decode cX11_show 16 = .ok (.getfield 10, 3) := by decide +kernel
theorem dX11_show_19 : decode cX11_show 19 = .ok (.iload_n 2, 1) := by decide +kernel
theorem dX11_show_20 : decode cX11_show 20 = .ok (.invokevirtual 100, 3) := by decide +kernel
theorem dX11_show_23 : decode cX11_show 23 = .ok (.ifnonnull 9, 3) := by decide +kernel
theorem dX11_show_26 : decode cX11_show 26 = .ok (.aload_n 0, 1) := by decide +kernel
theorem dX11_show_27 : decode cX11_show 27 = .ok (.iconst (-1), 1) := by decide +kernel
theorem dX11_show_28 : decode cX11_show 28 = .ok (.invokevirtual 61, 3) := by decide +kernel
theorem dX11_show_31 : decode cX11_show 31 = .ok (.ireturn, 1) := by decide +kernel
theorem dX11_show_32 : decode cX11_show 32 = .ok (.aload_n 3, 1) := by decide +kernel
theorem dX11_show_33 : decode cX11_show 33 = .ok (.iload_n 2, 1) := by decide +kernel
theorem dX11_show_34 : decode cX11_show 34 = .ok (.invokevirtual 104, 3) := by decide +kernel
theorem dX11_show_37 : decode cX11_show 37 = .ok (.iload_n 2, 1) := by decide +kernel
theorem dX11_show_38 : decode cX11_show 38 = .ok (.iconst (-1), 1) := by decide +kernel
theorem dX11_show_39 : decode cX11_show 39 = .ok (.if_icmp .ne 7, 3) := by decide +kernel
theorem dX11_show_42 : decode cX11_show 42 = .ok (.iconst 0, 1) := by decide +kernel
theorem dX11_show_43 : decode cX11_show 43 = .ok (.goto 4, 3) := by decide +kernel
theorem dX11_show_46 : decode cX11_show 46 = .ok (.iconst 1, 1) := by decide +kernel
theorem dX11_show_47 : decode cX11_show 47 = .ok (.ireturn, 1) := by decide +kernel
theorem dX11_holds_0 : decode cX11_holds 0 = .ok (.aload_n 0, 1) := by decide +kernel
theorem dX11_holds_1 : decode cX11_holds 1 = .ok (.iload_n 1, 1) := by decide +kernel
theorem dX11_holds_2 : decode cX11_holds 2 = .ok (.invokevirtual 57, 3) := by decide +kernel
theorem dX11_holds_5 : decode cX11_holds 5 = .ok (.astore_n 2, 1) := by decide +kernel
theorem dX11_holds_6 : decode cX11_holds 6 = .ok (.aload_n 2, 1) := by decide +kernel
theorem dX11_holds_7 : decode cX11_holds 7 = .ok (.ifnonnull 5, 3) := by decide +kernel
theorem dX11_holds_10 : decode cX11_holds 10 = .ok (.iconst (-1), 1) := by decide +kernel
theorem dX11_holds_11 : decode cX11_holds 11 = .ok (.ireturn, 1) := by decide +kernel
theorem dX11_holds_12 : decode cX11_holds 12 = .ok (.aload_n 2, 1) := by decide +kernel
theorem dX11_holds_13 : decode cX11_holds 13 = .ok (.getfield 81, 3) := by decide +kernel
theorem dX11_holds_16 : decode cX11_holds 16 = .ok (.iconst (-1), 1) := by decide +kernel
theorem dX11_holds_17 : decode cX11_holds 17 = .ok (.if_icmp .ne 10, 3) := by decide +kernel
theorem dX11_holds_20 : decode cX11_holds 20 = .ok (.aload_n 2, 1) := by decide +kernel
theorem dX11_holds_21 : decode cX11_holds 21 = .ok (.getfield 84, 3) := by decide +kernel
theorem dX11_holds_24 : decode cX11_holds 24 = .ok (.goto 10, 3) := by decide +kernel
theorem dX11_holds_27 : decode cX11_holds 27 = .ok (.bipush 100, 2) := by decide +kernel
theorem dX11_holds_29 : decode cX11_holds 29 = .ok (.aload_n 2, 1) := by decide +kernel
theorem dX11_holds_30 : decode cX11_holds 30 = .ok (.getfield 81, 3) := by decide +kernel
theorem dX11_holds_33 : decode cX11_holds 33 = .ok (.iadd, 1) := by decide +kernel
theorem dX11_holds_34 : decode cX11_holds 34 = .ok (.ireturn, 1) := by decide +kernel
theorem dX11_says_0 : decode cX11_says 0 = .ok (.aload_n 0, 1) := by decide +kernel
theorem dX11_says_1 : decode cX11_says 1 = .ok (.iload_n 1, 1) := by decide +kernel
theorem dX11_says_2 : decode cX11_says 2 = .ok (.invokevirtual 57, 3) := by decide +kernel
theorem dX11_says_5 : decode cX11_says 5 = .ok (.astore_n 3, 1) := by decide +kernel
theorem dX11_says_6 : decode cX11_says 6 = .ok (.aload_n 3, 1) := by decide +kernel
theorem dX11_says_7 : decode cX11_says 7 = .ok (.ifnull 13, 3) := by decide +kernel
theorem dX11_says_10 : decode cX11_says 10 = .ok (.iload_n 2, 1) := by decide +kernel
theorem dX11_says_11 : decode cX11_says 11 = .ok (.ifCond .lt 9, 3) := by decide +kernel
theorem dX11_says_14 : decode cX11_says 14 = .ok (.iload_n 2, 1) := by decide +kernel
theorem dX11_says_15 : decode cX11_says 15 = .ok (.bipush 6, 2) := by decide +kernel
theorem dX11_says_17 : decode cX11_says 17 = .ok (.if_icmp .le 9, 3) := by decide +kernel
theorem dX11_says_20 : decode cX11_says 20 = .ok (.aload_n 0, 1) := by decide +kernel
theorem dX11_says_21 : decode cX11_says 21 = .ok (.iconst (-1), 1) := by decide +kernel
theorem dX11_says_22 : decode cX11_says 22 = .ok (.invokevirtual 61, 3) := by decide +kernel
theorem dX11_says_25 : decode cX11_says 25 = .ok (.ireturn, 1) := by decide +kernel
theorem dX11_says_26 : decode cX11_says 26 = .ok (.aload_n 3, 1) := by decide +kernel
theorem dX11_says_27 : decode cX11_says 27 = .ok (.getfield 81, 3) := by decide +kernel
theorem dX11_says_30 : decode cX11_says 30 = .ok (.iconst (-1), 1) := by decide +kernel
theorem dX11_says_31 : decode cX11_says 31 = .ok (.if_icmp .eq 10, 3) := by decide +kernel
theorem dX11_says_34 : decode cX11_says 34 = .ok (.aload_n 0, 1) := by decide +kernel
theorem dX11_says_35 : decode cX11_says 35 = .ok (.bipush (-2), 2) := by decide +kernel
theorem dX11_says_37 : decode cX11_says 37 = .ok (.invokevirtual 61, 3) := by decide +kernel
theorem dX11_says_40 : decode cX11_says 40 = .ok (.ireturn, 1) := by decide +kernel
theorem dX11_says_41 : decode cX11_says 41 = .ok (.aload_n 0, 1) := by decide +kernel
theorem dX11_says_42 : decode cX11_says 42 = .ok (.getfield 10, 3) := by decide +kernel
theorem dX11_says_45 : decode cX11_says 45 = .ok (.aload_n 3, 1) := by decide +kernel
theorem dX11_says_46 : decode cX11_says 46 = .ok (.getfield 84, 3) := by decide +kernel
theorem dX11_says_49 : decode cX11_says 49 = .ok (.invokevirtual 100, 3) := by decide +kernel
theorem dX11_says_52 : decode cX11_says 52 = .ok (.astore 4, 2) := by decide +kernel
theorem dX11_says_54 : decode cX11_says 54 = .ok (.aload 4, 2) := by decide +kernel
theorem dX11_says_56 : decode cX11_says 56 = .ok (.ifnonnull 10, 3) := by decide +kernel
theorem dX11_says_59 : decode cX11_says 59 = .ok (.aload_n 0, 1) := by decide +kernel
theorem dX11_says_60 : decode cX11_says 60 = .ok (.bipush (-3), 2) := by decide +kernel
theorem dX11_says_62 : decode cX11_says 62 = .ok (.invokevirtual 61, 3) := by decide +kernel
theorem dX11_says_65 : decode cX11_says 65 = .ok (.ireturn, 1) := by decide +kernel
theorem dX11_says_66 : decode cX11_says 66 = .ok (.aload 4, 2) := by decide +kernel
theorem dX11_says_68 : decode cX11_says 68 = .ok (.iload_n 2, 1) := by decide +kernel
theorem dX11_says_69 : decode cX11_says 69 = .ok (.invokevirtual 108, 3) := by decide +kernel
theorem dX11_says_72 : decode cX11_says 72 = .ok (.ifCond .ne 10, 3) := by decide +kernel
theorem dX11_says_75 : decode cX11_says 75 = .ok (.aload_n 0, 1) := by decide +kernel
theorem dX11_says_76 : decode cX11_says 76 = .ok (.bipush (-2), 2) := by decide +kernel
theorem dX11_says_78 : decode cX11_says 78 = .ok (.invokevirtual 61, 3) := by decide +kernel
theorem dX11_says_81 : decode cX11_says 81 = .ok (.ireturn, 1) := by decide +kernel
theorem dX11_says_82 : decode cX11_says 82 = .ok (.aload_n 0, 1) := by decide +kernel
theorem dX11_says_83 : decode cX11_says 83 = .ok (.aload 4, 2) := by decide +kernel
theorem dX11_says_85 : decode cX11_says 85 = .ok (.iload_n 2, 1) := by decide +kernel
theorem dX11_says_86 : decode cX11_says 86 = .ok (.invokevirtual 114, 3) := by decide +kernel
theorem dX11_says_89 : decode cX11_says 89 = .ok (.ireturn, 1) := by decide +kernel
theorem dX11_saying_0 : decode cX11_saying 0 = .ok (.iload_n 2, 1) := by decide +kernel
theorem dX11_saying_1 : decode cX11_saying 1 = .ok (.tableswitch 116 1 6 #[39, 52, 78, 65, 91, 103], 39) := by decide +kernel
theorem dX11_saying_40 : decode cX11_saying 40 = .ok (.aload_n 1, 1) := by decide +kernel
theorem dX11_saying_41 : decode cX11_saying 41 = .ok (.ldc2_w 118, 3) := by decide +kernel
theorem dX11_saying_44 : decode cX11_saying 44 = .ok (.aload_n 0, 1) := by decide +kernel
theorem dX11_saying_45 : decode cX11_saying 45 = .ok (.getfield 10, 3) := by decide +kernel
theorem dX11_saying_48 : decode cX11_saying 48 = .ok (.invokevirtual 120, 3) := by decide +kernel
theorem dX11_saying_51 : decode cX11_saying 51 = .ok (.l2i, 1) := by decide +kernel
theorem dX11_saying_52 : decode cX11_saying 52 = .ok (.ireturn, 1) := by decide +kernel
theorem dX11_saying_53 : decode cX11_saying 53 = .ok (.aload_n 1, 1) := by decide +kernel
theorem dX11_saying_54 : decode cX11_saying 54 = .ok (.ldc2_w 124, 3) := by decide +kernel
theorem dX11_saying_57 : decode cX11_saying 57 = .ok (.aload_n 0, 1) := by decide +kernel
theorem dX11_saying_58 : decode cX11_saying 58 = .ok (.getfield 10, 3) := by decide +kernel
theorem dX11_saying_61 : decode cX11_saying 61 = .ok (.invokevirtual 120, 3) := by decide +kernel
theorem dX11_saying_64 : decode cX11_saying 64 = .ok (.l2i, 1) := by decide +kernel
theorem dX11_saying_65 : decode cX11_saying 65 = .ok (.ireturn, 1) := by decide +kernel
theorem dX11_saying_66 : decode cX11_saying 66 = .ok (.aload_n 1, 1) := by decide +kernel
theorem dX11_saying_67 : decode cX11_saying 67 = .ok (.ldc2_w 126, 3) := by decide +kernel
theorem dX11_saying_70 : decode cX11_saying 70 = .ok (.aload_n 0, 1) := by decide +kernel
theorem dX11_saying_71 : decode cX11_saying 71 = .ok (.getfield 10, 3) := by decide +kernel
theorem dX11_saying_74 : decode cX11_saying 74 = .ok (.invokevirtual 120, 3) := by decide +kernel
theorem dX11_saying_77 : decode cX11_saying 77 = .ok (.l2i, 1) := by decide +kernel
theorem dX11_saying_78 : decode cX11_saying 78 = .ok (.ireturn, 1) := by decide +kernel
theorem dX11_saying_79 : decode cX11_saying 79 = .ok (.aload_n 1, 1) := by decide +kernel
theorem dX11_saying_80 : decode cX11_saying 80 = .ok (.ldc2_w 128, 3) := by decide +kernel
theorem dX11_saying_83 : decode cX11_saying 83 = .ok (.aload_n 0, 1) := by decide +kernel
theorem dX11_saying_84 : decode cX11_saying 84 = .ok (.getfield 10, 3) := by decide +kernel
theorem dX11_saying_87 : decode cX11_saying 87 = .ok (.invokevirtual 120, 3) := by decide +kernel
theorem dX11_saying_90 : decode cX11_saying 90 = .ok (.l2i, 1) := by decide +kernel
theorem dX11_saying_91 : decode cX11_saying 91 = .ok (.ireturn, 1) := by decide +kernel
theorem dX11_saying_92 : decode cX11_saying 92 = .ok (.aload_n 0, 1) := by decide +kernel
theorem dX11_saying_93 : decode cX11_saying 93 = .ok (.getfield 10, 3) := by decide +kernel
theorem dX11_saying_96 : decode cX11_saying 96 = .ok (.aload_n 1, 1) := by decide +kernel
theorem dX11_saying_97 : decode cX11_saying 97 = .ok (.getfield 130, 3) := by decide +kernel
theorem dX11_saying_100 : decode cX11_saying 100 = .ok (.invokevirtual 133, 3) := by decide +kernel
theorem dX11_saying_103 : decode cX11_saying 103 = .ok (.ireturn, 1) := by decide +kernel
theorem dX11_saying_104 : decode cX11_saying 104 = .ok (.aload_n 1, 1) := by decide +kernel
theorem dX11_saying_105 : decode cX11_saying 105 = .ok (.ldc2_w 136, 3) := by decide +kernel
theorem dX11_saying_108 : decode cX11_saying 108 = .ok (.aload_n 0, 1) := by decide +kernel
theorem dX11_saying_109 : decode cX11_saying 109 = .ok (.getfield 10, 3) := by decide +kernel
theorem dX11_saying_112 : decode cX11_saying 112 = .ok (.invokevirtual 120, 3) := by decide +kernel
theorem dX11_saying_115 : decode cX11_saying 115 = .ok (.l2i, 1) := by decide +kernel
theorem dX11_saying_116 : decode cX11_saying 116 = .ok (.ireturn, 1) := by decide +kernel
theorem dX11_saying_117 : decode cX11_saying 117 = .ok (.aload_n 1, 1) := by decide +kernel
theorem dX11_saying_118 : decode cX11_saying 118 = .ok (.getfield 138, 3) := by decide +kernel
theorem dX11_saying_121 : decode cX11_saying 121 = .ok (.ireturn, 1) := by decide +kernel
theorem dX11_shelfAt_0 : decode cX11_shelfAt 0 = .ok (.iload_n 1, 1) := by decide +kernel
theorem dX11_shelfAt_1 : decode cX11_shelfAt 1 = .ok (.ifCond .lt 21, 3) := by decide +kernel
theorem dX11_shelfAt_4 : decode cX11_shelfAt 4 = .ok (.iload_n 1, 1) := by decide +kernel
theorem dX11_shelfAt_5 : decode cX11_shelfAt 5 = .ok (.aload_n 0, 1) := by decide +kernel
theorem dX11_shelfAt_6 : decode cX11_shelfAt 6 = .ok (.getfield 21, 3) := by decide +kernel
theorem dX11_shelfAt_9 : decode cX11_shelfAt 9 = .ok (.arraylength, 1) := by decide +kernel
theorem dX11_shelfAt_10 : decode cX11_shelfAt 10 = .ok (.if_icmp .ge 12, 3) := by decide +kernel
theorem dX11_shelfAt_13 : decode cX11_shelfAt 13 = .ok (.aload_n 0, 1) := by decide +kernel
theorem dX11_shelfAt_14 : decode cX11_shelfAt 14 = .ok (.getfield 21, 3) := by decide +kernel
theorem dX11_shelfAt_17 : decode cX11_shelfAt 17 = .ok (.iload_n 1, 1) := by decide +kernel
theorem dX11_shelfAt_18 : decode cX11_shelfAt 18 = .ok (.aaload, 1) := by decide +kernel
theorem dX11_shelfAt_19 : decode cX11_shelfAt 19 = .ok (.goto 4, 3) := by decide +kernel
theorem dX11_shelfAt_22 : decode cX11_shelfAt 22 = .ok (.aconst_null, 1) := by decide +kernel
theorem dX11_shelfAt_23 : decode cX11_shelfAt 23 = .ok (.areturn, 1) := by decide +kernel
theorem dX11_base_0 : decode cX11_base 0 = .ok (.iload_n 1, 1) := by decide +kernel
theorem dX11_base_1 : decode cX11_base 1 = .ok (.iconst 2, 1) := by decide +kernel
theorem dX11_base_2 : decode cX11_base 2 = .ok (.if_icmp .lt 9, 3) := by decide +kernel
theorem dX11_base_5 : decode cX11_base 5 = .ok (.iload_n 1, 1) := by decide +kernel
theorem dX11_base_6 : decode cX11_base 6 = .ok (.bipush 10, 2) := by decide +kernel
theorem dX11_base_8 : decode cX11_base 8 = .ok (.if_icmp .le 10, 3) := by decide +kernel
theorem dX11_base_11 : decode cX11_base 11 = .ok (.aload_n 0, 1) := by decide +kernel
theorem dX11_base_12 : decode cX11_base 12 = .ok (.bipush (-6), 2) := by decide +kernel
theorem dX11_base_14 : decode cX11_base 14 = .ok (.invokevirtual 61, 3) := by decide +kernel
theorem dX11_base_17 : decode cX11_base 17 = .ok (.ireturn, 1) := by decide +kernel
theorem dX11_base_18 : decode cX11_base 18 = .ok (.aload_n 0, 1) := by decide +kernel
theorem dX11_base_19 : decode cX11_base 19 = .ok (.getfield 10, 3) := by decide +kernel
theorem dX11_base_22 : decode cX11_base 22 = .ok (.getfield 141, 3) := by decide +kernel
theorem dX11_base_25 : decode cX11_base 25 = .ok (.istore_n 2, 1) := by decide +kernel
theorem dX11_base_26 : decode cX11_base 26 = .ok (.aload_n 0, 1) := by decide +kernel
theorem dX11_base_27 : decode cX11_base 27 = .ok (.getfield 10, 3) := by decide +kernel
theorem dX11_base_30 : decode cX11_base 30 = .ok (.iload_n 1, 1) := by decide +kernel
theorem dX11_base_31 : decode cX11_base 31 = .ok (.putfield 141, 3) := by decide +kernel
theorem dX11_base_34 : decode cX11_base 34 = .ok (.iload_n 2, 1) := by decide +kernel
theorem dX11_base_35 : decode cX11_base 35 = .ok (.ireturn, 1) := by decide +kernel
theorem dX11_law_0 : decode cX11_law 0 = .ok (.iload_n 1, 1) := by decide +kernel
theorem dX11_law_1 : decode cX11_law 1 = .ok (.ifCond .lt 9, 3) := by decide +kernel
theorem dX11_law_4 : decode cX11_law 4 = .ok (.iload_n 1, 1) := by decide +kernel
theorem dX11_law_5 : decode cX11_law 5 = .ok (.bipush 6, 2) := by decide +kernel
theorem dX11_law_7 : decode cX11_law 7 = .ok (.if_icmp .le 9, 3) := by decide +kernel
theorem dX11_law_10 : decode cX11_law 10 = .ok (.aload_n 0, 1) := by decide +kernel
theorem dX11_law_11 : decode cX11_law 11 = .ok (.iconst (-1), 1) := by decide +kernel
theorem dX11_law_12 : decode cX11_law 12 = .ok (.invokevirtual 61, 3) := by decide +kernel
theorem dX11_law_15 : decode cX11_law 15 = .ok (.ireturn, 1) := by decide +kernel
theorem dX11_law_16 : decode cX11_law 16 = .ok (.iload_n 2, 1) := by decide +kernel
theorem dX11_law_17 : decode cX11_law 17 = .ok (.ifCond .lt 9, 3) := by decide +kernel
theorem dX11_law_20 : decode cX11_law 20 = .ok (.iload_n 2, 1) := by decide +kernel
theorem dX11_law_21 : decode cX11_law 21 = .ok (.bipush 9, 2) := by decide +kernel
theorem dX11_law_23 : decode cX11_law 23 = .ok (.if_icmp .le 10, 3) := by decide +kernel
theorem dX11_law_26 : decode cX11_law 26 = .ok (.aload_n 0, 1) := by decide +kernel
theorem dX11_law_27 : decode cX11_law 27 = .ok (.bipush (-6), 2) := by decide +kernel
theorem dX11_law_29 : decode cX11_law 29 = .ok (.invokevirtual 61, 3) := by decide +kernel
theorem dX11_law_32 : decode cX11_law 32 = .ok (.ireturn, 1) := by decide +kernel
theorem dX11_law_33 : decode cX11_law 33 = .ok (.aload_n 0, 1) := by decide +kernel
theorem dX11_law_34 : decode cX11_law 34 = .ok (.getfield 10, 3) := by decide +kernel
theorem dX11_law_37 : decode cX11_law 37 = .ok (.invokevirtual 144, 3) := by decide +kernel
theorem dX11_law_40 : decode cX11_law 40 = .ok (.ifCond .eq 10, 3) := by decide +kernel
theorem dX11_law_43 : decode cX11_law 43 = .ok (.aload_n 0, 1) := by decide +kernel
theorem dX11_law_44 : decode cX11_law 44 = .ok (.bipush (-7), 2) := by decide +kernel
theorem dX11_law_46 : decode cX11_law 46 = .ok (.invokevirtual 61, 3) := by decide +kernel
theorem dX11_law_49 : decode cX11_law 49 = .ok (.ireturn, 1) := by decide +kernel
theorem dX11_law_50 : decode cX11_law 50 = .ok (.aload_n 0, 1) := by decide +kernel
theorem dX11_law_51 : decode cX11_law 51 = .ok (.getfield 10, 3) := by decide +kernel
theorem dX11_law_54 : decode cX11_law 54 = .ok (.iload_n 1, 1) := by decide +kernel
theorem dX11_law_55 : decode cX11_law 55 = .ok (.iload_n 2, 1) := by decide +kernel
theorem dX11_law_56 : decode cX11_law 56 = .ok (.invokevirtual 148, 3) := by decide +kernel
theorem dX11_law_59 : decode cX11_law 59 = .ok (.ireturn, 1) := by decide +kernel
theorem dX11_value_0 : decode cX11_value 0 = .ok (.aload_n 0, 1) := by decide +kernel
theorem dX11_value_1 : decode cX11_value 1 = .ok (.getfield 10, 3) := by decide +kernel
theorem dX11_value_4 : decode cX11_value 4 = .ok (.iload_n 1, 1) := by decide +kernel
theorem dX11_value_5 : decode cX11_value 5 = .ok (.invokevirtual 100, 3) := by decide +kernel
theorem dX11_value_8 : decode cX11_value 8 = .ok (.astore 4, 2) := by decide +kernel
theorem dX11_value_10 : decode cX11_value 10 = .ok (.aload 4, 2) := by decide +kernel
theorem dX11_value_12 : decode cX11_value 12 = .ok (.ifnonnull 9, 3) := by decide +kernel
theorem dX11_value_15 : decode cX11_value 15 = .ok (.aload_n 0, 1) := by decide +kernel
theorem dX11_value_16 : decode cX11_value 16 = .ok (.iconst (-1), 1) := by decide +kernel
theorem dX11_value_17 : decode cX11_value 17 = .ok (.invokevirtual 61, 3) := by decide +kernel
theorem dX11_value_20 : decode cX11_value 20 = .ok (.ireturn, 1) := by decide +kernel
theorem dX11_value_21 : decode cX11_value 21 = .ok (.iload_n 2, 1) := by decide +kernel
theorem dX11_value_22 : decode cX11_value 22 = .ok (.ifCond .lt 13, 3) := by decide +kernel
theorem dX11_value_25 : decode cX11_value 25 = .ok (.iload_n 2, 1) := by decide +kernel
theorem dX11_value_26 : decode cX11_value 26 = .ok (.bipush 10, 2) := by decide +kernel
theorem dX11_value_28 : decode cX11_value 28 = .ok (.if_icmp .ge 7, 3) := by decide +kernel
theorem dX11_value_31 : decode cX11_value 31 = .ok (.iconst 1, 1) := by decide +kernel
theorem dX11_value_32 : decode cX11_value 32 = .ok (.goto 4, 3) := by decide +kernel
theorem dX11_value_35 : decode cX11_value 35 = .ok (.iconst 0, 1) := by decide +kernel
theorem dX11_value_36 : decode cX11_value 36 = .ok (.istore 5, 2) := by decide +kernel
theorem dX11_value_38 : decode cX11_value 38 = .ok (.aload 4, 2) := by decide +kernel
theorem dX11_value_40 : decode cX11_value 40 = .ok (.iconst 5, 1) := by decide +kernel
theorem dX11_value_41 : decode cX11_value 41 = .ok (.invokevirtual 108, 3) := by decide +kernel
theorem dX11_value_44 : decode cX11_value 44 = .ok (.ifCond .eq 19, 3) := by decide +kernel
theorem dX11_value_47 : decode cX11_value 47 = .ok (.iload 5, 2) := by decide +kernel
theorem dX11_value_49 : decode cX11_value 49 = .ok (.ifCond .eq 14, 3) := by decide +kernel
theorem dX11_value_52 : decode cX11_value 52 = .ok (.iload_n 3, 1) := by decide +kernel
theorem dX11_value_53 : decode cX11_value 53 = .ok (.ifCond .lt 10, 3) := by decide +kernel
theorem dX11_value_56 : decode cX11_value 56 = .ok (.iload_n 3, 1) := by decide +kernel
theorem dX11_value_57 : decode cX11_value 57 = .ok (.sipush 999, 3) := by decide +kernel
theorem dX11_value_60 : decode cX11_value 60 = .ok (.if_icmp .le 10, 3) := by decide +kernel
theorem dX11_value_63 : decode cX11_value 63 = .ok (.aload_n 0, 1) := by decide +kernel
theorem dX11_value_64 : decode cX11_value 64 = .ok (.bipush (-6), 2) := by decide +kernel
theorem dX11_value_66 : decode cX11_value 66 = .ok (.invokevirtual 61, 3) := by decide +kernel
theorem dX11_value_69 : decode cX11_value 69 = .ok (.ireturn, 1) := by decide +kernel
theorem dX11_value_70 : decode cX11_value 70 = .ok (.aload_n 0, 1) := by decide +kernel
theorem dX11_value_71 : decode cX11_value 71 = .ok (.getfield 10, 3) := by decide +kernel
theorem dX11_value_74 : decode cX11_value 74 = .ok (.iload_n 1, 1) := by decide +kernel
theorem dX11_value_75 : decode cX11_value 75 = .ok (.iload_n 2, 1) := by decide +kernel
theorem dX11_value_76 : decode cX11_value 76 = .ok (.invokevirtual 152, 3) := by decide +kernel
theorem dX11_value_79 : decode cX11_value 79 = .ok (.istore 6, 2) := by decide +kernel
theorem dX11_value_81 : decode cX11_value 81 = .ok (.aload_n 0, 1) := by decide +kernel
theorem dX11_value_82 : decode cX11_value 82 = .ok (.getfield 10, 3) := by decide +kernel
theorem dX11_value_85 : decode cX11_value 85 = .ok (.iload_n 1, 1) := by decide +kernel
theorem dX11_value_86 : decode cX11_value 86 = .ok (.iload_n 2, 1) := by decide +kernel
theorem dX11_value_87 : decode cX11_value 87 = .ok (.iload_n 3, 1) := by decide +kernel
theorem dX11_value_88 : decode cX11_value 88 = .ok (.invokevirtual 155, 3) := by decide +kernel
theorem dX11_value_91 : decode cX11_value 91 = .ok (.iload 6, 2) := by decide +kernel
theorem dX11_value_93 : decode cX11_value 93 = .ok (.ireturn, 1) := by decide +kernel
theorem dX11_lawOf_0 : decode cX11_lawOf 0 = .ok (.aload_n 0, 1) := by decide +kernel
theorem dX11_lawOf_1 : decode cX11_lawOf 1 = .ok (.getfield 10, 3) := by decide +kernel
theorem dX11_lawOf_4 : decode cX11_lawOf 4 = .ok (.iload_n 1, 1) := by decide +kernel
theorem dX11_lawOf_5 : decode cX11_lawOf 5 = .ok (.invokevirtual 100, 3) := by decide +kernel
theorem dX11_lawOf_8 : decode cX11_lawOf 8 = .ok (.astore_n 3, 1) := by decide +kernel
theorem dX11_lawOf_9 : decode cX11_lawOf 9 = .ok (.aload_n 3, 1) := by decide +kernel
theorem dX11_lawOf_10 : decode cX11_lawOf 10 = .ok (.ifnonnull 10, 3) := by decide +kernel
theorem dX11_lawOf_13 : decode cX11_lawOf 13 = .ok (.aload_n 0, 1) := by decide +kernel
theorem dX11_lawOf_14 : decode cX11_lawOf 14 = .ok (.bipush (-5), 2) := by decide +kernel
theorem dX11_lawOf_16 : decode cX11_lawOf 16 = .ok (.invokevirtual 61, 3) := by decide +kernel
theorem dX11_lawOf_19 : decode cX11_lawOf 19 = .ok (.ireturn, 1) := by decide +kernel
theorem dX11_lawOf_20 : decode cX11_lawOf 20 = .ok (.iload_n 2, 1) := by decide +kernel
theorem dX11_lawOf_21 : decode cX11_lawOf 21 = .ok (.ifCond .ne 8, 3) := by decide +kernel
theorem dX11_lawOf_24 : decode cX11_lawOf 24 = .ok (.aload_n 3, 1) := by decide +kernel
theorem dX11_lawOf_25 : decode cX11_lawOf 25 = .ok (.invokevirtual 159, 3) := by decide +kernel
theorem dX11_lawOf_28 : decode cX11_lawOf 28 = .ok (.ireturn, 1) := by decide +kernel
theorem dX11_lawOf_29 : decode cX11_lawOf 29 = .ok (.iload_n 2, 1) := by decide +kernel
theorem dX11_lawOf_30 : decode cX11_lawOf 30 = .ok (.iconst 1, 1) := by decide +kernel
theorem dX11_lawOf_31 : decode cX11_lawOf 31 = .ok (.if_icmp .ne 8, 3) := by decide +kernel
theorem dX11_lawOf_34 : decode cX11_lawOf 34 = .ok (.aload_n 3, 1) := by decide +kernel
theorem dX11_lawOf_35 : decode cX11_lawOf 35 = .ok (.getfield 138, 3) := by decide +kernel
theorem dX11_lawOf_38 : decode cX11_lawOf 38 = .ok (.ireturn, 1) := by decide +kernel
theorem dX11_lawOf_39 : decode cX11_lawOf 39 = .ok (.iload_n 2, 1) := by decide +kernel
theorem dX11_lawOf_40 : decode cX11_lawOf 40 = .ok (.bipush 10, 2) := by decide +kernel
theorem dX11_lawOf_42 : decode cX11_lawOf 42 = .ok (.if_icmp .lt 9, 3) := by decide +kernel
theorem dX11_lawOf_45 : decode cX11_lawOf 45 = .ok (.iload_n 2, 1) := by decide +kernel
theorem dX11_lawOf_46 : decode cX11_lawOf 46 = .ok (.bipush 20, 2) := by decide +kernel
theorem dX11_lawOf_48 : decode cX11_lawOf 48 = .ok (.if_icmp .lt 10, 3) := by decide +kernel
theorem dX11_lawOf_51 : decode cX11_lawOf 51 = .ok (.aload_n 0, 1) := by decide +kernel
theorem dX11_lawOf_52 : decode cX11_lawOf 52 = .ok (.bipush (-5), 2) := by decide +kernel
theorem dX11_lawOf_54 : decode cX11_lawOf 54 = .ok (.invokevirtual 61, 3) := by decide +kernel
theorem dX11_lawOf_57 : decode cX11_lawOf 57 = .ok (.ireturn, 1) := by decide +kernel
theorem dX11_lawOf_58 : decode cX11_lawOf 58 = .ok (.aload_n 0, 1) := by decide +kernel
theorem dX11_lawOf_59 : decode cX11_lawOf 59 = .ok (.getfield 10, 3) := by decide +kernel
theorem dX11_lawOf_62 : decode cX11_lawOf 62 = .ok (.iload_n 1, 1) := by decide +kernel
theorem dX11_lawOf_63 : decode cX11_lawOf 63 = .ok (.iload_n 2, 1) := by decide +kernel
theorem dX11_lawOf_64 : decode cX11_lawOf 64 = .ok (.bipush 10, 2) := by decide +kernel
theorem dX11_lawOf_66 : decode cX11_lawOf 66 = .ok (.isub, 1) := by decide +kernel
theorem dX11_lawOf_67 : decode cX11_lawOf 67 = .ok (.invokevirtual 152, 3) := by decide +kernel
theorem dX11_lawOf_70 : decode cX11_lawOf 70 = .ok (.ireturn, 1) := by decide +kernel
theorem dX11_text_0 : decode cX11_text 0 = .ok (.aload_n 0, 1) := by decide +kernel
theorem dX11_text_1 : decode cX11_text 1 = .ok (.iload_n 1, 1) := by decide +kernel
theorem dX11_text_2 : decode cX11_text 2 = .ok (.invokevirtual 57, 3) := by decide +kernel
theorem dX11_text_5 : decode cX11_text 5 = .ok (.astore_n 2, 1) := by decide +kernel
theorem dX11_text_6 : decode cX11_text 6 = .ok (.aload_n 2, 1) := by decide +kernel
theorem dX11_text_7 : decode cX11_text 7 = .ok (.ifnonnull 9, 3) := by decide +kernel
theorem dX11_text_10 : decode cX11_text 10 = .ok (.aload_n 0, 1) := by decide +kernel
theorem dX11_text_11 : decode cX11_text 11 = .ok (.iconst (-1), 1) := by decide +kernel
theorem dX11_text_12 : decode cX11_text 12 = .ok (.invokevirtual 61, 3) := by decide +kernel
theorem dX11_text_15 : decode cX11_text 15 = .ok (.ireturn, 1) := by decide +kernel
theorem dX11_text_16 : decode cX11_text 16 = .ok (.aload_n 2, 1) := by decide +kernel
theorem dX11_text_17 : decode cX11_text 17 = .ok (.invokevirtual 69, 3) := by decide +kernel
theorem dX11_text_20 : decode cX11_text 20 = .ok (.istore_n 3, 1) := by decide +kernel
theorem dX11_text_21 : decode cX11_text 21 = .ok (.iload_n 3, 1) := by decide +kernel
theorem dX11_text_22 : decode cX11_text 22 = .ok (.ifCond .eq 9, 3) := by decide +kernel
theorem dX11_text_25 : decode cX11_text 25 = .ok (.aload_n 0, 1) := by decide +kernel
theorem dX11_text_26 : decode cX11_text 26 = .ok (.iload_n 3, 1) := by decide +kernel
theorem dX11_text_27 : decode cX11_text 27 = .ok (.invokevirtual 61, 3) := by decide +kernel
theorem dX11_text_30 : decode cX11_text 30 = .ok (.ireturn, 1) := by decide +kernel
theorem dX11_text_31 : decode cX11_text 31 = .ok (.aload_n 0, 1) := by decide +kernel
theorem dX11_text_32 : decode cX11_text 32 = .ok (.getfield 33, 3) := by decide +kernel
theorem dX11_text_35 : decode cX11_text 35 = .ok (.aload_n 2, 1) := by decide +kernel
theorem dX11_text_36 : decode cX11_text 36 = .ok (.aload_n 0, 1) := by decide +kernel
theorem dX11_text_37 : decode cX11_text 37 = .ok (.getfield 10, 3) := by decide +kernel
theorem dX11_text_40 : decode cX11_text 40 = .ok (.invokevirtual 162, 3) := by decide +kernel
theorem dX11_text_43 : decode cX11_text 43 = .ok (.istore 4, 2) := by decide +kernel
theorem dX11_text_45 : decode cX11_text 45 = .ok (.aload_n 0, 1) := by decide +kernel
theorem dX11_text_46 : decode cX11_text 46 = .ok (.aload_n 0, 1) := by decide +kernel
theorem dX11_text_47 : decode cX11_text 47 = .ok (.getfield 33, 3) := by decide +kernel
theorem dX11_text_50 : decode cX11_text 50 = .ok (.getfield 166, 3) := by decide +kernel
theorem dX11_text_53 : decode cX11_text 53 = .ok (.putfield 37, 3) := by decide +kernel
theorem dX11_text_56 : decode cX11_text 56 = .ok (.aload_n 0, 1) := by decide +kernel
theorem dX11_text_57 : decode cX11_text 57 = .ok (.getfield 37, 3) := by decide +kernel
theorem dX11_text_60 : decode cX11_text 60 = .ok (.iconst (-1), 1) := by decide +kernel
theorem dX11_text_61 : decode cX11_text 61 = .ok (.if_icmp .eq 10, 3) := by decide +kernel
theorem dX11_text_64 : decode cX11_text 64 = .ok (.aload_n 0, 1) := by decide +kernel
theorem dX11_text_65 : decode cX11_text 65 = .ok (.bipush (-6), 2) := by decide +kernel
theorem dX11_text_67 : decode cX11_text 67 = .ok (.invokevirtual 61, 3) := by decide +kernel
theorem dX11_text_70 : decode cX11_text 70 = .ok (.ireturn, 1) := by decide +kernel
theorem dX11_text_71 : decode cX11_text 71 = .ok (.aload_n 0, 1) := by decide +kernel
theorem dX11_text_72 : decode cX11_text 72 = .ok (.getfield 10, 3) := by decide +kernel
theorem dX11_text_75 : decode cX11_text 75 = .ok (.aload_n 0, 1) := by decide +kernel
theorem dX11_text_76 : decode cX11_text 76 = .ok (.getfield 33, 3) := by decide +kernel
theorem dX11_text_79 : decode cX11_text 79 = .ok (.getfield 169, 3) := by decide +kernel
theorem dX11_text_82 : decode cX11_text 82 = .ok (.invokevirtual 172, 3) := by decide +kernel
theorem dX11_text_85 : decode cX11_text 85 = .ok (.iload 4, 2) := by decide +kernel
theorem dX11_text_87 : decode cX11_text 87 = .ok (.ireturn, 1) := by decide +kernel
theorem dX11_fault_0 : decode cX11_fault 0 = .ok (.aload_n 0, 1) := by decide +kernel
theorem dX11_fault_1 : decode cX11_fault 1 = .ok (.getfield 37, 3) := by decide +kernel
theorem dX11_fault_4 : decode cX11_fault 4 = .ok (.ireturn, 1) := by decide +kernel
theorem dX11_turned_0 : decode cX11_turned 0 = .ok (.lload_n 1, 1) := by decide +kernel
theorem dX11_turned_1 : decode cX11_turned 1 = .ok (.invokestatic 176, 3) := by decide +kernel
theorem dX11_turned_4 : decode cX11_turned 4 = .ok (.ifCond .eq 17, 3) := by decide +kernel
theorem dX11_turned_7 : decode cX11_turned 7 = .ok (.lload_n 1, 1) := by decide +kernel
theorem dX11_turned_8 : decode cX11_turned 8 = .ok (.aload_n 0, 1) := by decide +kernel
theorem dX11_turned_9 : decode cX11_turned 9 = .ok (.getfield 10, 3) := by decide +kernel
theorem dX11_turned_12 : decode cX11_turned 12 = .ok (.getfield 141, 3) := by decide +kernel
theorem dX11_turned_15 : decode cX11_turned 15 = .ok (.invokestatic 180, 3) := by decide +kernel
theorem dX11_turned_18 : decode cX11_turned 18 = .ok (.goto 10, 3) := by decide +kernel
theorem dX11_turned_21 : decode cX11_turned 21 = .ok (.aload_n 0, 1) := by decide +kernel
theorem dX11_turned_22 : decode cX11_turned 22 = .ok (.bipush (-6), 2) := by decide +kernel
theorem dX11_turned_24 : decode cX11_turned 24 = .ok (.invokevirtual 61, 3) := by decide +kernel
theorem dX11_turned_27 : decode cX11_turned 27 = .ok (.i2l, 1) := by decide +kernel
theorem dX11_turned_28 : decode cX11_turned 28 = .ok (.lreturn, 1) := by decide +kernel
theorem dX11_numberOf_0 : decode cX11_numberOf 0 = .ok (.iload_n 3, 1) := by decide +kernel
theorem dX11_numberOf_1 : decode cX11_numberOf 1 = .ok (.ifCond .lt 8, 3) := by decide +kernel
theorem dX11_numberOf_4 : decode cX11_numberOf 4 = .ok (.iload_n 3, 1) := by decide +kernel
theorem dX11_numberOf_5 : decode cX11_numberOf 5 = .ok (.iconst 3, 1) := by decide +kernel
theorem dX11_numberOf_6 : decode cX11_numberOf 6 = .ok (.if_icmp .le 10, 3) := by decide +kernel
theorem dX11_numberOf_9 : decode cX11_numberOf 9 = .ok (.aload_n 0, 1) := by decide +kernel
theorem dX11_numberOf_10 : decode cX11_numberOf 10 = .ok (.bipush (-5), 2) := by decide +kernel
theorem dX11_numberOf_12 : decode cX11_numberOf 12 = .ok (.invokevirtual 61, 3) := by decide +kernel
theorem dX11_numberOf_15 : decode cX11_numberOf 15 = .ok (.ireturn, 1) := by decide +kernel
theorem dX11_numberOf_16 : decode cX11_numberOf 16 = .ok (.lload_n 1, 1) := by decide +kernel
theorem dX11_numberOf_17 : decode cX11_numberOf 17 = .ok (.invokestatic 176, 3) := by decide +kernel
theorem dX11_numberOf_20 : decode cX11_numberOf 20 = .ok (.ifCond .ne 10, 3) := by decide +kernel
theorem dX11_numberOf_23 : decode cX11_numberOf 23 = .ok (.aload_n 0, 1) := by decide +kernel
theorem dX11_numberOf_24 : decode cX11_numberOf 24 = .ok (.bipush (-6), 2) := by decide +kernel
theorem dX11_numberOf_26 : decode cX11_numberOf 26 = .ok (.invokevirtual 61, 3) := by decide +kernel
theorem dX11_numberOf_29 : decode cX11_numberOf 29 = .ok (.ireturn, 1) := by decide +kernel
theorem dX11_numberOf_30 : decode cX11_numberOf 30 = .ok (.iload_n 3, 1) := by decide +kernel
theorem dX11_numberOf_31 : decode cX11_numberOf 31 = .ok (.tableswitch 65 0 2 #[25, 37, 51], 25) := by decide +kernel
theorem dX11_numberOf_56 : decode cX11_numberOf 56 = .ok (.lload_n 1, 1) := by decide +kernel
theorem dX11_numberOf_57 : decode cX11_numberOf 57 = .ok (.aload_n 0, 1) := by decide +kernel
theorem dX11_numberOf_58 : decode cX11_numberOf 58 = .ok (.getfield 10, 3) := by decide +kernel
theorem dX11_numberOf_61 : decode cX11_numberOf 61 = .ok (.getfield 141, 3) := by decide +kernel
theorem dX11_numberOf_64 : decode cX11_numberOf 64 = .ok (.invokestatic 186, 3) := by decide +kernel
theorem dX11_numberOf_67 : decode cX11_numberOf 67 = .ok (.ireturn, 1) := by decide +kernel
theorem dX11_numberOf_68 : decode cX11_numberOf 68 = .ok (.lload_n 1, 1) := by decide +kernel
theorem dX11_numberOf_69 : decode cX11_numberOf 69 = .ok (.aload_n 0, 1) := by decide +kernel
theorem dX11_numberOf_70 : decode cX11_numberOf 70 = .ok (.getfield 10, 3) := by decide +kernel
theorem dX11_numberOf_73 : decode cX11_numberOf 73 = .ok (.getfield 141, 3) := by decide +kernel
theorem dX11_numberOf_76 : decode cX11_numberOf 76 = .ok (.iconst 1, 1) := by decide +kernel
theorem dX11_numberOf_77 : decode cX11_numberOf 77 = .ok (.invokestatic 190, 3) := by decide +kernel
theorem dX11_numberOf_80 : decode cX11_numberOf 80 = .ok (.l2i, 1) := by decide +kernel
theorem dX11_numberOf_81 : decode cX11_numberOf 81 = .ok (.ireturn, 1) := by decide +kernel
theorem dX11_numberOf_82 : decode cX11_numberOf 82 = .ok (.aload_n 0, 1) := by decide +kernel
theorem dX11_numberOf_83 : decode cX11_numberOf 83 = .ok (.lload_n 1, 1) := by decide +kernel
theorem dX11_numberOf_84 : decode cX11_numberOf 84 = .ok (.invokevirtual 194, 3) := by decide +kernel
theorem dX11_numberOf_87 : decode cX11_numberOf 87 = .ok (.ifCond .eq 7, 3) := by decide +kernel
theorem dX11_numberOf_90 : decode cX11_numberOf 90 = .ok (.iconst 1, 1) := by decide +kernel
theorem dX11_numberOf_91 : decode cX11_numberOf 91 = .ok (.goto 4, 3) := by decide +kernel
theorem dX11_numberOf_94 : decode cX11_numberOf 94 = .ok (.iconst 0, 1) := by decide +kernel
theorem dX11_numberOf_95 : decode cX11_numberOf 95 = .ok (.ireturn, 1) := by decide +kernel
theorem dX11_numberOf_96 : decode cX11_numberOf 96 = .ok (.lload_n 1, 1) := by decide +kernel
theorem dX11_numberOf_97 : decode cX11_numberOf 97 = .ok (.aload_n 0, 1) := by decide +kernel
theorem dX11_numberOf_98 : decode cX11_numberOf 98 = .ok (.getfield 10, 3) := by decide +kernel
theorem dX11_numberOf_101 : decode cX11_numberOf 101 = .ok (.getfield 141, 3) := by decide +kernel
theorem dX11_numberOf_104 : decode cX11_numberOf 104 = .ok (.invokestatic 197, 3) := by decide +kernel
theorem dX11_numberOf_107 : decode cX11_numberOf 107 = .ok (.ireturn, 1) := by decide +kernel
theorem dX11_waits_0 : decode cX11_waits 0 = .ok (.lload_n 1, 1) := by decide +kernel
theorem dX11_waits_1 : decode cX11_waits 1 = .ok (.invokestatic 176, 3) := by decide +kernel
theorem dX11_waits_4 : decode cX11_waits 4 = .ok (.ifCond .ne 11, 3) := by decide +kernel
theorem dX11_waits_7 : decode cX11_waits 7 = .ok (.aload_n 0, 1) := by decide +kernel
theorem dX11_waits_8 : decode cX11_waits 8 = .ok (.bipush (-6), 2) := by decide +kernel
theorem dX11_waits_10 : decode cX11_waits 10 = .ok (.invokevirtual 61, 3) := by decide +kernel
theorem dX11_waits_13 : decode cX11_waits 13 = .ok (.i2l, 1) := by decide +kernel
theorem dX11_waits_14 : decode cX11_waits 14 = .ok (.lreturn, 1) := by decide +kernel
theorem dX11_waits_15 : decode cX11_waits 15 = .ok (.lload_n 1, 1) := by decide +kernel
theorem dX11_waits_16 : decode cX11_waits 16 = .ok (.aload_n 0, 1) := by decide +kernel
theorem dX11_waits_17 : decode cX11_waits 17 = .ok (.getfield 10, 3) := by decide +kernel
theorem dX11_waits_20 : decode cX11_waits 20 = .ok (.getfield 141, 3) := by decide +kernel
theorem dX11_waits_23 : decode cX11_waits 23 = .ok (.invokestatic 200, 3) := by decide +kernel
theorem dX11_waits_26 : decode cX11_waits 26 = .ok (.lstore_n 3, 1) := by decide +kernel
theorem dX11_waits_27 : decode cX11_waits 27 = .ok (.lload_n 3, 1) := by decide +kernel
theorem dX11_waits_28 : decode cX11_waits 28 = .ok (.invokestatic 176, 3) := by decide +kernel
theorem dX11_waits_31 : decode cX11_waits 31 = .ok (.ifCond .eq 9, 3) := by decide +kernel
theorem dX11_waits_34 : decode cX11_waits 34 = .ok (.lload_n 3, 1) := by decide +kernel
theorem dX11_waits_35 : decode cX11_waits 35 = .ok (.lload_n 1, 1) := by decide +kernel
theorem dX11_waits_36 : decode cX11_waits 36 = .ok (.lsub, 1) := by decide +kernel
theorem dX11_waits_37 : decode cX11_waits 37 = .ok (.goto 10, 3) := by decide +kernel
theorem dX11_waits_40 : decode cX11_waits 40 = .ok (.aload_n 0, 1) := by decide +kernel
theorem dX11_waits_41 : decode cX11_waits 41 = .ok (.bipush (-6), 2) := by decide +kernel
theorem dX11_waits_43 : decode cX11_waits 43 = .ok (.invokevirtual 61, 3) := by decide +kernel
theorem dX11_waits_46 : decode cX11_waits 46 = .ok (.i2l, 1) := by decide +kernel
theorem dX11_waits_47 : decode cX11_waits 47 = .ok (.lreturn, 1) := by decide +kernel
theorem dX11_slip_0 : decode cX11_slip 0 = .ok (.lload_n 1, 1) := by decide +kernel
theorem dX11_slip_1 : decode cX11_slip 1 = .ok (.invokestatic 176, 3) := by decide +kernel
theorem dX11_slip_4 : decode cX11_slip 4 = .ok (.ifCond .eq 10, 3) := by decide +kernel
theorem dX11_slip_7 : decode cX11_slip 7 = .ok (.lload_n 3, 1) := by decide +kernel
theorem dX11_slip_8 : decode cX11_slip 8 = .ok (.invokestatic 176, 3) := by decide +kernel
theorem dX11_slip_11 : decode cX11_slip 11 = .ok (.ifCond .ne 13, 3) := by decide +kernel
theorem dX11_slip_14 : decode cX11_slip 14 = .ok (.aload_n 0, 1) := by decide +kernel
theorem dX11_slip_15 : decode cX11_slip 15 = .ok (.bipush (-6), 2) := by decide +kernel
theorem dX11_slip_17 : decode cX11_slip 17 = .ok (.invokevirtual 61, 3) := by decide +kernel
theorem dX11_slip_20 : decode cX11_slip 20 = .ok (.bipush 10, 2) := by decide +kernel
theorem dX11_slip_22 : decode cX11_slip 22 = .ok (.isub, 1) := by decide +kernel
theorem dX11_slip_23 : decode cX11_slip 23 = .ok (.ireturn, 1) := by decide +kernel
theorem dX11_slip_24 : decode cX11_slip 24 = .ok (.lload_n 1, 1) := by decide +kernel
theorem dX11_slip_25 : decode cX11_slip 25 = .ok (.lload_n 1, 1) := by decide +kernel
theorem dX11_slip_26 : decode cX11_slip 26 = .ok (.aload_n 0, 1) := by decide +kernel
theorem dX11_slip_27 : decode cX11_slip 27 = .ok (.getfield 10, 3) := by decide +kernel
theorem dX11_slip_30 : decode cX11_slip 30 = .ok (.getfield 141, 3) := by decide +kernel
theorem dX11_slip_33 : decode cX11_slip 33 = .ok (.invokestatic 180, 3) := by decide +kernel
theorem dX11_slip_36 : decode cX11_slip 36 = .ok (.ladd, 1) := by decide +kernel
theorem dX11_slip_37 : decode cX11_slip 37 = .ok (.lload_n 3, 1) := by decide +kernel
theorem dX11_slip_38 : decode cX11_slip 38 = .ok (.aload_n 0, 1) := by decide +kernel
theorem dX11_slip_39 : decode cX11_slip 39 = .ok (.getfield 10, 3) := by decide +kernel
theorem dX11_slip_42 : decode cX11_slip 42 = .ok (.getfield 141, 3) := by decide +kernel
theorem dX11_slip_45 : decode cX11_slip 45 = .ok (.invokestatic 203, 3) := by decide +kernel
theorem dX11_slip_48 : decode cX11_slip 48 = .ok (.ireturn, 1) := by decide +kernel
theorem dX11_missed_0 : decode cX11_missed 0 = .ok (.lload_n 1, 1) := by decide +kernel
theorem dX11_missed_1 : decode cX11_missed 1 = .ok (.invokestatic 176, 3) := by decide +kernel
theorem dX11_missed_4 : decode cX11_missed 4 = .ok (.ifCond .eq 17, 3) := by decide +kernel
theorem dX11_missed_7 : decode cX11_missed 7 = .ok (.lload_n 1, 1) := by decide +kernel
theorem dX11_missed_8 : decode cX11_missed 8 = .ok (.aload_n 0, 1) := by decide +kernel
theorem dX11_missed_9 : decode cX11_missed 9 = .ok (.getfield 10, 3) := by decide +kernel
theorem dX11_missed_12 : decode cX11_missed 12 = .ok (.getfield 141, 3) := by decide +kernel
theorem dX11_missed_15 : decode cX11_missed 15 = .ok (.invokestatic 207, 3) := by decide +kernel
theorem dX11_missed_18 : decode cX11_missed 18 = .ok (.goto 9, 3) := by decide +kernel
theorem dX11_missed_21 : decode cX11_missed 21 = .ok (.aload_n 0, 1) := by decide +kernel
theorem dX11_missed_22 : decode cX11_missed 22 = .ok (.bipush (-6), 2) := by decide +kernel
theorem dX11_missed_24 : decode cX11_missed 24 = .ok (.invokevirtual 61, 3) := by decide +kernel
theorem dX11_missed_27 : decode cX11_missed 27 = .ok (.ireturn, 1) := by decide +kernel
theorem dX11_isNumber_0 : decode cX11_isNumber 0 = .ok (.lload_n 0, 1) := by decide +kernel
theorem dX11_isNumber_1 : decode cX11_isNumber 1 = .ok (.lconst 0, 1) := by decide +kernel
theorem dX11_isNumber_2 : decode cX11_isNumber 2 = .ok (.lcmp, 1) := by decide +kernel
theorem dX11_isNumber_3 : decode cX11_isNumber 3 = .ok (.ifCond .lt 15, 3) := by decide +kernel
theorem dX11_isNumber_6 : decode cX11_isNumber 6 = .ok (.lload_n 0, 1) := by decide +kernel
theorem dX11_isNumber_7 : decode cX11_isNumber 7 = .ok (.ldc2_w 210, 3) := by decide +kernel
theorem dX11_isNumber_10 : decode cX11_isNumber 10 = .ok (.lcmp, 1) := by decide +kernel
theorem dX11_isNumber_11 : decode cX11_isNumber 11 = .ok (.ifCond .gt 7, 3) := by decide +kernel
theorem dX11_isNumber_14 : decode cX11_isNumber 14 = .ok (.iconst 1, 1) := by decide +kernel
theorem dX11_isNumber_15 : decode cX11_isNumber 15 = .ok (.goto 4, 3) := by decide +kernel
theorem dX11_isNumber_18 : decode cX11_isNumber 18 = .ok (.iconst 0, 1) := by decide +kernel
theorem dX11_isNumber_19 : decode cX11_isNumber 19 = .ok (.ireturn, 1) := by decide +kernel
theorem dX11_isAlike_0 : decode cX11_isAlike 0 = .ok (.lload_n 1, 1) := by decide +kernel
theorem dX11_isAlike_1 : decode cX11_isAlike 1 = .ok (.aload_n 0, 1) := by decide +kernel
theorem dX11_isAlike_2 : decode cX11_isAlike 2 = .ok (.getfield 10, 3) := by decide +kernel
theorem dX11_isAlike_5 : decode cX11_isAlike 5 = .ok (.getfield 141, 3) := by decide +kernel
theorem dX11_isAlike_8 : decode cX11_isAlike 8 = .ok (.invokestatic 180, 3) := by decide +kernel
theorem dX11_isAlike_11 : decode cX11_isAlike 11 = .ok (.lload_n 1, 1) := by decide +kernel
theorem dX11_isAlike_12 : decode cX11_isAlike 12 = .ok (.lcmp, 1) := by decide +kernel
theorem dX11_isAlike_13 : decode cX11_isAlike 13 = .ok (.ifCond .ne 7, 3) := by decide +kernel
theorem dX11_isAlike_16 : decode cX11_isAlike 16 = .ok (.iconst 1, 1) := by decide +kernel
theorem dX11_isAlike_17 : decode cX11_isAlike 17 = .ok (.goto 4, 3) := by decide +kernel
theorem dX11_isAlike_20 : decode cX11_isAlike 20 = .ok (.iconst 0, 1) := by decide +kernel
theorem dX11_isAlike_21 : decode cX11_isAlike 21 = .ok (.ireturn, 1) := by decide +kernel
theorem dX11_next_0 : decode cX11_next 0 = .ok (.aload_n 0, 1) := by decide +kernel
theorem dX11_next_1 : decode cX11_next 1 = .ok (.getfield 10, 3) := by decide +kernel
theorem dX11_next_4 : decode cX11_next 4 = .ok (.iload_n 1, 1) := by decide +kernel
theorem dX11_next_5 : decode cX11_next 5 = .ok (.invokevirtual 100, 3) := by decide +kernel
theorem dX11_next_8 : decode cX11_next 8 = .ok (.astore 4, 2) := by decide +kernel
theorem dX11_next_10 : decode cX11_next 10 = .ok (.aload 4, 2) := by decide +kernel
theorem dX11_next_12 : decode cX11_next 12 = .ok (.ifnonnull 10, 3) := by decide +kernel
theorem dX11_next_15 : decode cX11_next 15 = .ok (.aload_n 0, 1) := by decide +kernel
theorem dX11_next_16 : decode cX11_next 16 = .ok (.iconst (-1), 1) := by decide +kernel
theorem dX11_next_17 : decode cX11_next 17 = .ok (.invokevirtual 61, 3) := by decide +kernel
theorem dX11_next_20 : decode cX11_next 20 = .ok (.i2l, 1) := by decide +kernel
theorem dX11_next_21 : decode cX11_next 21 = .ok (.lreturn, 1) := by decide +kernel
theorem dX11_next_22 : decode cX11_next 22 = .ok (.lload_n 2, 1) := by decide +kernel
theorem dX11_next_23 : decode cX11_next 23 = .ok (.invokestatic 176, 3) := by decide +kernel
theorem dX11_next_26 : decode cX11_next 26 = .ok (.ifCond .ne 11, 3) := by decide +kernel
theorem dX11_next_29 : decode cX11_next 29 = .ok (.aload_n 0, 1) := by decide +kernel
theorem dX11_next_30 : decode cX11_next 30 = .ok (.bipush (-6), 2) := by decide +kernel
theorem dX11_next_32 : decode cX11_next 32 = .ok (.invokevirtual 61, 3) := by decide +kernel
theorem dX11_next_35 : decode cX11_next 35 = .ok (.i2l, 1) := by decide +kernel
theorem dX11_next_36 : decode cX11_next 36 = .ok (.lreturn, 1) := by decide +kernel
theorem dX11_next_37 : decode cX11_next 37 = .ok (.aload 4, 2) := by decide +kernel
theorem dX11_next_39 : decode cX11_next 39 = .ok (.lload_n 2, 1) := by decide +kernel
theorem dX11_next_40 : decode cX11_next 40 = .ok (.aload_n 0, 1) := by decide +kernel
theorem dX11_next_41 : decode cX11_next 41 = .ok (.getfield 10, 3) := by decide +kernel
theorem dX11_next_44 : decode cX11_next 44 = .ok (.invokevirtual 120, 3) := by decide +kernel
theorem dX11_next_47 : decode cX11_next 47 = .ok (.lstore 5, 2) := by decide +kernel
theorem dX11_next_49 : decode cX11_next 49 = .ok (.lload 5, 2) := by decide +kernel
theorem dX11_next_51 : decode cX11_next 51 = .ok (.ldc2_w 212, 3) := by decide +kernel
theorem dX11_next_54 : decode cX11_next 54 = .ok (.lcmp, 1) := by decide +kernel
theorem dX11_next_55 : decode cX11_next 55 = .ok (.ifCond .ne 13, 3) := by decide +kernel
theorem dX11_next_58 : decode cX11_next 58 = .ok (.aload_n 0, 1) := by decide +kernel
theorem dX11_next_59 : decode cX11_next 59 = .ok (.bipush (-7), 2) := by decide +kernel
theorem dX11_next_61 : decode cX11_next 61 = .ok (.invokevirtual 61, 3) := by decide +kernel
theorem dX11_next_64 : decode cX11_next 64 = .ok (.i2l, 1) := by decide +kernel
theorem dX11_next_65 : decode cX11_next 65 = .ok (.goto 5, 3) := by decide +kernel
theorem dX11_next_68 : decode cX11_next 68 = .ok (.lload 5, 2) := by decide +kernel
theorem dX11_next_70 : decode cX11_next 70 = .ok (.lreturn, 1) := by decide +kernel
theorem dX11_after_0 : decode cX11_after 0 = .ok (.aload_n 0, 1) := by decide +kernel
theorem dX11_after_1 : decode cX11_after 1 = .ok (.getfield 10, 3) := by decide +kernel
theorem dX11_after_4 : decode cX11_after 4 = .ok (.iload_n 1, 1) := by decide +kernel
theorem dX11_after_5 : decode cX11_after 5 = .ok (.invokevirtual 100, 3) := by decide +kernel
theorem dX11_after_8 : decode cX11_after 8 = .ok (.astore 5, 2) := by decide +kernel
theorem dX11_after_10 : decode cX11_after 10 = .ok (.aload 5, 2) := by decide +kernel
theorem dX11_after_12 : decode cX11_after 12 = .ok (.ifnonnull 10, 3) := by decide +kernel
theorem dX11_after_15 : decode cX11_after 15 = .ok (.aload_n 0, 1) := by decide +kernel
theorem dX11_after_16 : decode cX11_after 16 = .ok (.iconst (-1), 1) := by decide +kernel
theorem dX11_after_17 : decode cX11_after 17 = .ok (.invokevirtual 61, 3) := by decide +kernel
theorem dX11_after_20 : decode cX11_after 20 = .ok (.i2l, 1) := by decide +kernel
theorem dX11_after_21 : decode cX11_after 21 = .ok (.lreturn, 1) := by decide +kernel
theorem dX11_after_22 : decode cX11_after 22 = .ok (.lload_n 2, 1) := by decide +kernel
theorem dX11_after_23 : decode cX11_after 23 = .ok (.invokestatic 176, 3) := by decide +kernel
theorem dX11_after_26 : decode cX11_after 26 = .ok (.ifCond .eq 16, 3) := by decide +kernel
theorem dX11_after_29 : decode cX11_after 29 = .ok (.iload 4, 2) := by decide +kernel
theorem dX11_after_31 : decode cX11_after 31 = .ok (.ifCond .lt 11, 3) := by decide +kernel
theorem dX11_after_34 : decode cX11_after 34 = .ok (.iload 4, 2) := by decide +kernel
theorem dX11_after_36 : decode cX11_after 36 = .ok (.sipush 1000, 3) := by decide +kernel
theorem dX11_after_39 : decode cX11_after 39 = .ok (.if_icmp .le 11, 3) := by decide +kernel
theorem dX11_after_42 : decode cX11_after 42 = .ok (.aload_n 0, 1) := by decide +kernel
theorem dX11_after_43 : decode cX11_after 43 = .ok (.bipush (-6), 2) := by decide +kernel
theorem dX11_after_45 : decode cX11_after 45 = .ok (.invokevirtual 61, 3) := by decide +kernel
theorem dX11_after_48 : decode cX11_after 48 = .ok (.i2l, 1) := by decide +kernel
theorem dX11_after_49 : decode cX11_after 49 = .ok (.lreturn, 1) := by decide +kernel
theorem dX11_after_50 : decode cX11_after 50 = .ok (.aload_n 0, 1) := by decide +kernel
theorem dX11_after_51 : decode cX11_after 51 = .ok (.aload 5, 2) := by decide +kernel
theorem dX11_after_53 : decode cX11_after 53 = .ok (.lload_n 2, 1) := by decide +kernel
theorem dX11_after_54 : decode cX11_after 54 = .ok (.iload 4, 2) := by decide +kernel
theorem dX11_after_56 : decode cX11_after 56 = .ok (.invokevirtual 214, 3) := by decide +kernel
theorem dX11_after_59 : decode cX11_after 59 = .ok (.lstore 6, 2) := by decide +kernel
theorem dX11_after_61 : decode cX11_after 61 = .ok (.lload 6, 2) := by decide +kernel
theorem dX11_after_63 : decode cX11_after 63 = .ok (.ldc2_w 212, 3) := by decide +kernel
theorem dX11_after_66 : decode cX11_after 66 = .ok (.lcmp, 1) := by decide +kernel
theorem dX11_after_67 : decode cX11_after 67 = .ok (.ifCond .ne 13, 3) := by decide +kernel
theorem dX11_after_70 : decode cX11_after 70 = .ok (.aload_n 0, 1) := by decide +kernel
theorem dX11_after_71 : decode cX11_after 71 = .ok (.bipush (-7), 2) := by decide +kernel
theorem dX11_after_73 : decode cX11_after 73 = .ok (.invokevirtual 61, 3) := by decide +kernel
theorem dX11_after_76 : decode cX11_after 76 = .ok (.i2l, 1) := by decide +kernel
theorem dX11_after_77 : decode cX11_after 77 = .ok (.goto 5, 3) := by decide +kernel
theorem dX11_after_80 : decode cX11_after 80 = .ok (.lload 6, 2) := by decide +kernel
theorem dX11_after_82 : decode cX11_after 82 = .ok (.lreturn, 1) := by decide +kernel
theorem dX11_goes_0 : decode cX11_goes 0 = .ok (.aload_n 0, 1) := by decide +kernel
theorem dX11_goes_1 : decode cX11_goes 1 = .ok (.getfield 10, 3) := by decide +kernel
theorem dX11_goes_4 : decode cX11_goes 4 = .ok (.iload_n 1, 1) := by decide +kernel
theorem dX11_goes_5 : decode cX11_goes 5 = .ok (.invokevirtual 100, 3) := by decide +kernel
theorem dX11_goes_8 : decode cX11_goes 8 = .ok (.astore 4, 2) := by decide +kernel
theorem dX11_goes_10 : decode cX11_goes 10 = .ok (.aload 4, 2) := by decide +kernel
theorem dX11_goes_12 : decode cX11_goes 12 = .ok (.ifnonnull 12, 3) := by decide +kernel
theorem dX11_goes_15 : decode cX11_goes 15 = .ok (.aload_n 0, 1) := by decide +kernel
theorem dX11_goes_16 : decode cX11_goes 16 = .ok (.iconst (-1), 1) := by decide +kernel
theorem dX11_goes_17 : decode cX11_goes 17 = .ok (.invokevirtual 61, 3) := by decide +kernel
theorem dX11_goes_20 : decode cX11_goes 20 = .ok (.bipush 10, 2) := by decide +kernel
theorem dX11_goes_22 : decode cX11_goes 22 = .ok (.isub, 1) := by decide +kernel
theorem dX11_goes_23 : decode cX11_goes 23 = .ok (.ireturn, 1) := by decide +kernel
theorem dX11_goes_24 : decode cX11_goes 24 = .ok (.lload_n 2, 1) := by decide +kernel
theorem dX11_goes_25 : decode cX11_goes 25 = .ok (.invokestatic 176, 3) := by decide +kernel
theorem dX11_goes_28 : decode cX11_goes 28 = .ok (.ifCond .ne 13, 3) := by decide +kernel
theorem dX11_goes_31 : decode cX11_goes 31 = .ok (.aload_n 0, 1) := by decide +kernel
theorem dX11_goes_32 : decode cX11_goes 32 = .ok (.bipush (-6), 2) := by decide +kernel
theorem dX11_goes_34 : decode cX11_goes 34 = .ok (.invokevirtual 61, 3) := by decide +kernel
theorem dX11_goes_37 : decode cX11_goes 37 = .ok (.bipush 10, 2) := by decide +kernel
theorem dX11_goes_39 : decode cX11_goes 39 = .ok (.isub, 1) := by decide +kernel
theorem dX11_goes_40 : decode cX11_goes 40 = .ok (.ireturn, 1) := by decide +kernel
theorem dX11_goes_41 : decode cX11_goes 41 = .ok (.aload_n 0, 1) := by decide +kernel
theorem dX11_goes_42 : decode cX11_goes 42 = .ok (.aload 4, 2) := by decide +kernel
theorem dX11_goes_44 : decode cX11_goes 44 = .ok (.lload_n 2, 1) := by decide +kernel
theorem dX11_goes_45 : decode cX11_goes 45 = .ok (.invokevirtual 218, 3) := by decide +kernel
theorem dX11_goes_48 : decode cX11_goes 48 = .ok (.ireturn, 1) := by decide +kernel
theorem dX11_comes_0 : decode cX11_comes 0 = .ok (.aload_n 0, 1) := by decide +kernel
theorem dX11_comes_1 : decode cX11_comes 1 = .ok (.getfield 10, 3) := by decide +kernel
theorem dX11_comes_4 : decode cX11_comes 4 = .ok (.iload_n 1, 1) := by decide +kernel
theorem dX11_comes_5 : decode cX11_comes 5 = .ok (.invokevirtual 100, 3) := by decide +kernel
theorem dX11_comes_8 : decode cX11_comes 8 = .ok (.astore 4, 2) := by decide +kernel
theorem dX11_comes_10 : decode cX11_comes 10 = .ok (.aload 4, 2) := by decide +kernel
theorem dX11_comes_12 : decode cX11_comes 12 = .ok (.ifnonnull 10, 3) := by decide +kernel
theorem dX11_comes_15 : decode cX11_comes 15 = .ok (.aload_n 0, 1) := by decide +kernel
theorem dX11_comes_16 : decode cX11_comes 16 = .ok (.iconst (-1), 1) := by decide +kernel
theorem dX11_comes_17 : decode cX11_comes 17 = .ok (.invokevirtual 61, 3) := by decide +kernel
theorem dX11_comes_20 : decode cX11_comes 20 = .ok (.i2l, 1) := by decide +kernel
theorem dX11_comes_21 : decode cX11_comes 21 = .ok (.lreturn, 1) := by decide +kernel
theorem dX11_comes_22 : decode cX11_comes 22 = .ok (.lload_n 2, 1) := by decide +kernel
theorem dX11_comes_23 : decode cX11_comes 23 = .ok (.invokestatic 176, 3) := by decide +kernel
theorem dX11_comes_26 : decode cX11_comes 26 = .ok (.ifCond .ne 11, 3) := by decide +kernel
theorem dX11_comes_29 : decode cX11_comes 29 = .ok (.aload_n 0, 1) := by decide +kernel
theorem dX11_comes_30 : decode cX11_comes 30 = .ok (.bipush (-6), 2) := by decide +kernel
theorem dX11_comes_32 : decode cX11_comes 32 = .ok (.invokevirtual 61, 3) := by decide +kernel
theorem dX11_comes_35 : decode cX11_comes 35 = .ok (.i2l, 1) := by decide +kernel
theorem dX11_comes_36 : decode cX11_comes 36 = .ok (.lreturn, 1) := by decide +kernel
theorem dX11_comes_37 : decode cX11_comes 37 = .ok (.aload_n 0, 1) := by decide +kernel
theorem dX11_comes_38 : decode cX11_comes 38 = .ok (.aload 4, 2) := by decide +kernel
theorem dX11_comes_40 : decode cX11_comes 40 = .ok (.lload_n 2, 1) := by decide +kernel
theorem dX11_comes_41 : decode cX11_comes 41 = .ok (.invokevirtual 218, 3) := by decide +kernel
theorem dX11_comes_44 : decode cX11_comes 44 = .ok (.istore 5, 2) := by decide +kernel
theorem dX11_comes_46 : decode cX11_comes 46 = .ok (.iload 5, 2) := by decide +kernel
theorem dX11_comes_48 : decode cX11_comes 48 = .ok (.iconst (-1), 1) := by decide +kernel
theorem dX11_comes_49 : decode cX11_comes 49 = .ok (.if_icmp .ne 13, 3) := by decide +kernel
theorem dX11_comes_52 : decode cX11_comes 52 = .ok (.aload_n 0, 1) := by decide +kernel
theorem dX11_comes_53 : decode cX11_comes 53 = .ok (.bipush (-5), 2) := by decide +kernel
theorem dX11_comes_55 : decode cX11_comes 55 = .ok (.invokevirtual 61, 3) := by decide +kernel
theorem dX11_comes_58 : decode cX11_comes 58 = .ok (.i2l, 1) := by decide +kernel
theorem dX11_comes_59 : decode cX11_comes 59 = .ok (.goto 12, 3) := by decide +kernel
theorem dX11_comes_62 : decode cX11_comes 62 = .ok (.aload_n 0, 1) := by decide +kernel
theorem dX11_comes_63 : decode cX11_comes 63 = .ok (.aload 4, 2) := by decide +kernel
theorem dX11_comes_65 : decode cX11_comes 65 = .ok (.lload_n 2, 1) := by decide +kernel
theorem dX11_comes_66 : decode cX11_comes 66 = .ok (.iload 5, 2) := by decide +kernel
theorem dX11_comes_68 : decode cX11_comes 68 = .ok (.invokevirtual 214, 3) := by decide +kernel
theorem dX11_comes_71 : decode cX11_comes 71 = .ok (.lreturn, 1) := by decide +kernel
theorem dX11_round_0 : decode cX11_round 0 = .ok (.aload_n 0, 1) := by decide +kernel
theorem dX11_round_1 : decode cX11_round 1 = .ok (.getfield 10, 3) := by decide +kernel
theorem dX11_round_4 : decode cX11_round 4 = .ok (.iload_n 1, 1) := by decide +kernel
theorem dX11_round_5 : decode cX11_round 5 = .ok (.invokevirtual 100, 3) := by decide +kernel
theorem dX11_round_8 : decode cX11_round 8 = .ok (.astore 5, 2) := by decide +kernel
theorem dX11_round_10 : decode cX11_round 10 = .ok (.aload 5, 2) := by decide +kernel
theorem dX11_round_12 : decode cX11_round 12 = .ok (.ifnonnull 10, 3) := by decide +kernel
theorem dX11_round_15 : decode cX11_round 15 = .ok (.aload_n 0, 1) := by decide +kernel
theorem dX11_round_16 : decode cX11_round 16 = .ok (.iconst (-1), 1) := by decide +kernel
theorem dX11_round_17 : decode cX11_round 17 = .ok (.invokevirtual 61, 3) := by decide +kernel
theorem dX11_round_20 : decode cX11_round 20 = .ok (.i2l, 1) := by decide +kernel
theorem dX11_round_21 : decode cX11_round 21 = .ok (.lreturn, 1) := by decide +kernel
theorem dX11_round_22 : decode cX11_round 22 = .ok (.iload 4, 2) := by decide +kernel
theorem dX11_round_24 : decode cX11_round 24 = .ok (.ifCond .lt 13, 3) := by decide +kernel
theorem dX11_round_27 : decode cX11_round 27 = .ok (.iload 4, 2) := by decide +kernel
theorem dX11_round_29 : decode cX11_round 29 = .ok (.aload_n 0, 1) := by decide +kernel
theorem dX11_round_30 : decode cX11_round 30 = .ok (.getfield 48, 3) := by decide +kernel
theorem dX11_round_33 : decode cX11_round 33 = .ok (.arraylength, 1) := by decide +kernel
theorem dX11_round_34 : decode cX11_round 34 = .ok (.if_icmp .lt 11, 3) := by decide +kernel
theorem dX11_round_37 : decode cX11_round 37 = .ok (.aload_n 0, 1) := by decide +kernel
theorem dX11_round_38 : decode cX11_round 38 = .ok (.bipush (-5), 2) := by decide +kernel
theorem dX11_round_40 : decode cX11_round 40 = .ok (.invokevirtual 61, 3) := by decide +kernel
theorem dX11_round_43 : decode cX11_round 43 = .ok (.i2l, 1) := by decide +kernel
theorem dX11_round_44 : decode cX11_round 44 = .ok (.lreturn, 1) := by decide +kernel
theorem dX11_round_45 : decode cX11_round 45 = .ok (.lload_n 2, 1) := by decide +kernel
theorem dX11_round_46 : decode cX11_round 46 = .ok (.invokestatic 176, 3) := by decide +kernel
theorem dX11_round_49 : decode cX11_round 49 = .ok (.ifCond .ne 11, 3) := by decide +kernel
theorem dX11_round_52 : decode cX11_round 52 = .ok (.aload_n 0, 1) := by decide +kernel
theorem dX11_round_53 : decode cX11_round 53 = .ok (.bipush (-6), 2) := by decide +kernel
theorem dX11_round_55 : decode cX11_round 55 = .ok (.invokevirtual 61, 3) := by decide +kernel
theorem dX11_round_58 : decode cX11_round 58 = .ok (.i2l, 1) := by decide +kernel
theorem dX11_round_59 : decode cX11_round 59 = .ok (.lreturn, 1) := by decide +kernel
theorem dX11_round_60 : decode cX11_round 60 = .ok (.aload_n 0, 1) := by decide +kernel
theorem dX11_round_61 : decode cX11_round 61 = .ok (.aload 5, 2) := by decide +kernel
theorem dX11_round_63 : decode cX11_round 63 = .ok (.lload_n 2, 1) := by decide +kernel
theorem dX11_round_64 : decode cX11_round 64 = .ok (.invokevirtual 222, 3) := by decide +kernel
theorem dX11_round_67 : decode cX11_round 67 = .ok (.ifCond .eq 13, 3) := by decide +kernel
theorem dX11_round_70 : decode cX11_round 70 = .ok (.aload_n 0, 1) := by decide +kernel
theorem dX11_round_71 : decode cX11_round 71 = .ok (.getfield 48, 3) := by decide +kernel
theorem dX11_round_74 : decode cX11_round 74 = .ok (.iload 4, 2) := by decide +kernel
theorem dX11_round_76 : decode cX11_round 76 = .ok (.laload, 1) := by decide +kernel
theorem dX11_round_77 : decode cX11_round 77 = .ok (.goto 10, 3) := by decide +kernel
theorem dX11_round_80 : decode cX11_round 80 = .ok (.aload_n 0, 1) := by decide +kernel
theorem dX11_round_81 : decode cX11_round 81 = .ok (.bipush (-5), 2) := by decide +kernel
theorem dX11_round_83 : decode cX11_round 83 = .ok (.invokevirtual 61, 3) := by decide +kernel
theorem dX11_round_86 : decode cX11_round 86 = .ok (.i2l, 1) := by decide +kernel
theorem dX11_round_87 : decode cX11_round 87 = .ok (.lreturn, 1) := by decide +kernel
theorem dX11_meet_0 : decode cX11_meet 0 = .ok (.aload_n 0, 1) := by decide +kernel
theorem dX11_meet_1 : decode cX11_meet 1 = .ok (.getfield 10, 3) := by decide +kernel
theorem dX11_meet_4 : decode cX11_meet 4 = .ok (.iload_n 1, 1) := by decide +kernel
theorem dX11_meet_5 : decode cX11_meet 5 = .ok (.invokevirtual 100, 3) := by decide +kernel
theorem dX11_meet_8 : decode cX11_meet 8 = .ok (.astore 6, 2) := by decide +kernel
theorem dX11_meet_10 : decode cX11_meet 10 = .ok (.aload 6, 2) := by decide +kernel
theorem dX11_meet_12 : decode cX11_meet 12 = .ok (.ifnonnull 10, 3) := by decide +kernel
theorem dX11_meet_15 : decode cX11_meet 15 = .ok (.aload_n 0, 1) := by decide +kernel
theorem dX11_meet_16 : decode cX11_meet 16 = .ok (.iconst (-1), 1) := by decide +kernel
theorem dX11_meet_17 : decode cX11_meet 17 = .ok (.invokevirtual 61, 3) := by decide +kernel
theorem dX11_meet_20 : decode cX11_meet 20 = .ok (.i2l, 1) := by decide +kernel
theorem dX11_meet_21 : decode cX11_meet 21 = .ok (.lreturn, 1) := by decide +kernel
theorem dX11_meet_22 : decode cX11_meet 22 = .ok (.lload_n 2, 1) := by decide +kernel
theorem dX11_meet_23 : decode cX11_meet 23 = .ok (.invokestatic 176, 3) := by decide +kernel
theorem dX11_meet_26 : decode cX11_meet 26 = .ok (.ifCond .eq 11, 3) := by decide +kernel
theorem dX11_meet_29 : decode cX11_meet 29 = .ok (.lload 4, 2) := by decide +kernel
theorem dX11_meet_31 : decode cX11_meet 31 = .ok (.invokestatic 176, 3) := by decide +kernel
theorem dX11_meet_34 : decode cX11_meet 34 = .ok (.ifCond .ne 11, 3) := by decide +kernel
theorem dX11_meet_37 : decode cX11_meet 37 = .ok (.aload_n 0, 1) := by decide +kernel
theorem dX11_meet_38 : decode cX11_meet 38 = .ok (.bipush (-6), 2) := by decide +kernel
theorem dX11_meet_40 : decode cX11_meet 40 = .ok (.invokevirtual 61, 3) := by decide +kernel
theorem dX11_meet_43 : decode cX11_meet 43 = .ok (.i2l, 1) := by decide +kernel
theorem dX11_meet_44 : decode cX11_meet 44 = .ok (.lreturn, 1) := by decide +kernel
theorem dX11_meet_45 : decode cX11_meet 45 = .ok (.aload_n 0, 1) := by decide +kernel
theorem dX11_meet_46 : decode cX11_meet 46 = .ok (.aload 6, 2) := by decide +kernel
theorem dX11_meet_48 : decode cX11_meet 48 = .ok (.lload 4, 2) := by decide +kernel
theorem dX11_meet_50 : decode cX11_meet 50 = .ok (.sipush 201, 3) := by decide +kernel
theorem dX11_meet_53 : decode cX11_meet 53 = .ok (.invokevirtual 226, 3) := by decide +kernel
theorem dX11_meet_56 : decode cX11_meet 56 = .ok (.istore 7, 2) := by decide +kernel
theorem dX11_meet_58 : decode cX11_meet 58 = .ok (.lload_n 2, 1) := by decide +kernel
theorem dX11_meet_59 : decode cX11_meet 59 = .ok (.lstore 8, 2) := by decide +kernel
theorem dX11_meet_61 : decode cX11_meet 61 = .ok (.iconst 0, 1) := by decide +kernel
theorem dX11_meet_62 : decode cX11_meet 62 = .ok (.istore 10, 2) := by decide +kernel
theorem dX11_meet_64 : decode cX11_meet 64 = .ok (.iload 10, 2) := by decide +kernel
theorem dX11_meet_66 : decode cX11_meet 66 = .ok (.sipush 200, 3) := by decide +kernel
theorem dX11_meet_69 : decode cX11_meet 69 = .ok (.if_icmp .gt 48, 3) := by decide +kernel
theorem dX11_meet_72 : decode cX11_meet 72 = .ok (.lload 8, 2) := by decide +kernel
theorem dX11_meet_74 : decode cX11_meet 74 = .ok (.ldc2_w 212, 3) := by decide +kernel
theorem dX11_meet_77 : decode cX11_meet 77 = .ok (.lcmp, 1) := by decide +kernel
theorem dX11_meet_78 : decode cX11_meet 78 = .ok (.ifCond .eq 39, 3) := by decide +kernel
theorem dX11_meet_81 : decode cX11_meet 81 = .ok (.aload_n 0, 1) := by decide +kernel
theorem dX11_meet_82 : decode cX11_meet 82 = .ok (.getfield 44, 3) := by decide +kernel
theorem dX11_meet_85 : decode cX11_meet 85 = .ok (.iload 7, 2) := by decide +kernel
theorem dX11_meet_87 : decode cX11_meet 87 = .ok (.lload 8, 2) := by decide +kernel
theorem dX11_meet_89 : decode cX11_meet 89 = .ok (.invokestatic 230, 3) := by decide +kernel
theorem dX11_meet_92 : decode cX11_meet 92 = .ok (.ifCond .eq 6, 3) := by decide +kernel
theorem dX11_meet_95 : decode cX11_meet 95 = .ok (.lload 8, 2) := by decide +kernel
theorem dX11_meet_97 : decode cX11_meet 97 = .ok (.lreturn, 1) := by decide +kernel
theorem dX11_meet_98 : decode cX11_meet 98 = .ok (.aload 6, 2) := by decide +kernel
theorem dX11_meet_100 : decode cX11_meet 100 = .ok (.lload 8, 2) := by decide +kernel
theorem dX11_meet_102 : decode cX11_meet 102 = .ok (.aload_n 0, 1) := by decide +kernel
theorem dX11_meet_103 : decode cX11_meet 103 = .ok (.getfield 10, 3) := by decide +kernel
theorem dX11_meet_106 : decode cX11_meet 106 = .ok (.invokevirtual 120, 3) := by decide +kernel
theorem dX11_meet_109 : decode cX11_meet 109 = .ok (.lstore 8, 2) := by decide +kernel
theorem dX11_meet_111 : decode cX11_meet 111 = .ok (.iinc 10 1, 3) := by decide +kernel
theorem dX11_meet_114 : decode cX11_meet 114 = .ok (.goto (-50), 3) := by decide +kernel
theorem dX11_meet_117 : decode cX11_meet 117 = .ok (.aload_n 0, 1) := by decide +kernel
theorem dX11_meet_118 : decode cX11_meet 118 = .ok (.bipush (-5), 2) := by decide +kernel
theorem dX11_meet_120 : decode cX11_meet 120 = .ok (.invokevirtual 61, 3) := by decide +kernel
theorem dX11_meet_123 : decode cX11_meet 123 = .ok (.i2l, 1) := by decide +kernel
theorem dX11_meet_124 : decode cX11_meet 124 = .ok (.lreturn, 1) := by decide +kernel
theorem dX11_behind_0 : decode cX11_behind 0 = .ok (.lload_n 2, 1) := by decide +kernel
theorem dX11_behind_1 : decode cX11_behind 1 = .ok (.lstore 5, 2) := by decide +kernel
theorem dX11_behind_3 : decode cX11_behind 3 = .ok (.iconst 0, 1) := by decide +kernel
theorem dX11_behind_4 : decode cX11_behind 4 = .ok (.istore 7, 2) := by decide +kernel
theorem dX11_behind_6 : decode cX11_behind 6 = .ok (.iload 7, 2) := by decide +kernel
theorem dX11_behind_8 : decode cX11_behind 8 = .ok (.iload 4, 2) := by decide +kernel
theorem dX11_behind_10 : decode cX11_behind 10 = .ok (.if_icmp .ge 30, 3) := by decide +kernel
theorem dX11_behind_13 : decode cX11_behind 13 = .ok (.lload 5, 2) := by decide +kernel
theorem dX11_behind_15 : decode cX11_behind 15 = .ok (.ldc2_w 212, 3) := by decide +kernel
theorem dX11_behind_18 : decode cX11_behind 18 = .ok (.lcmp, 1) := by decide +kernel
theorem dX11_behind_19 : decode cX11_behind 19 = .ok (.ifCond .eq 21, 3) := by decide +kernel
theorem dX11_behind_22 : decode cX11_behind 22 = .ok (.aload_n 1, 1) := by decide +kernel
theorem dX11_behind_23 : decode cX11_behind 23 = .ok (.lload 5, 2) := by decide +kernel
theorem dX11_behind_25 : decode cX11_behind 25 = .ok (.aload_n 0, 1) := by decide +kernel
theorem dX11_behind_26 : decode cX11_behind 26 = .ok (.getfield 10, 3) := by decide +kernel
theorem dX11_behind_29 : decode cX11_behind 29 = .ok (.invokevirtual 120, 3) := by decide +kernel
theorem dX11_behind_32 : decode cX11_behind 32 = .ok (.lstore 5, 2) := by decide +kernel
theorem dX11_behind_34 : decode cX11_behind 34 = .ok (.iinc 7 1, 3) := by decide +kernel
theorem dX11_behind_37 : decode cX11_behind 37 = .ok (.goto (-31), 3) := by decide +kernel
theorem dX11_behind_40 : decode cX11_behind 40 = .ok (.lload 5, 2) := by decide +kernel
theorem dX11_behind_42 : decode cX11_behind 42 = .ok (.lreturn, 1) := by decide +kernel
theorem dX11_countGoes_0 : decode cX11_countGoes 0 = .ok (.lload_n 2, 1) := by decide +kernel
theorem dX11_countGoes_1 : decode cX11_countGoes 1 = .ok (.lstore 4, 2) := by decide +kernel
theorem dX11_countGoes_3 : decode cX11_countGoes 3 = .ok (.ldc2_w 212, 3) := by decide +kernel
theorem dX11_countGoes_6 : decode cX11_countGoes 6 = .ok (.lstore 6, 2) := by decide +kernel
theorem dX11_countGoes_8 : decode cX11_countGoes 8 = .ok (.iconst 1, 1) := by decide +kernel
theorem dX11_countGoes_9 : decode cX11_countGoes 9 = .ok (.istore 8, 2) := by decide +kernel
theorem dX11_countGoes_11 : decode cX11_countGoes 11 = .ok (.iconst 0, 1) := by decide +kernel
theorem dX11_countGoes_12 : decode cX11_countGoes 12 = .ok (.istore 9, 2) := by decide +kernel
theorem dX11_countGoes_14 : decode cX11_countGoes 14 = .ok (.iload 9, 2) := by decide +kernel
theorem dX11_countGoes_16 : decode cX11_countGoes 16 = .ok (.sipush 200, 3) := by decide +kernel
theorem dX11_countGoes_19 : decode cX11_countGoes 19 = .ok (.if_icmp .gt 69, 3) := by decide +kernel
theorem dX11_countGoes_22 : decode cX11_countGoes 22 = .ok (.lload 4, 2) := by decide +kernel
theorem dX11_countGoes_24 : decode cX11_countGoes 24 = .ok (.ldc2_w 212, 3) := by decide +kernel
theorem dX11_countGoes_27 : decode cX11_countGoes 27 = .ok (.lcmp, 1) := by decide +kernel
theorem dX11_countGoes_28 : decode cX11_countGoes 28 = .ok (.ifCond .eq 60, 3) := by decide +kernel
theorem dX11_countGoes_31 : decode cX11_countGoes 31 = .ok (.aload_n 0, 1) := by decide +kernel
theorem dX11_countGoes_32 : decode cX11_countGoes 32 = .ok (.lload 4, 2) := by decide +kernel
theorem dX11_countGoes_34 : decode cX11_countGoes 34 = .ok (.invokevirtual 194, 3) := by decide +kernel
theorem dX11_countGoes_37 : decode cX11_countGoes 37 = .ok (.ifCond .eq 6, 3) := by decide +kernel
theorem dX11_countGoes_40 : decode cX11_countGoes 40 = .ok (.iload 9, 2) := by decide +kernel
theorem dX11_countGoes_42 : decode cX11_countGoes 42 = .ok (.ireturn, 1) := by decide +kernel
theorem dX11_countGoes_43 : decode cX11_countGoes 43 = .ok (.lload 4, 2) := by decide +kernel
theorem dX11_countGoes_45 : decode cX11_countGoes 45 = .ok (.lload 6, 2) := by decide +kernel
theorem dX11_countGoes_47 : decode cX11_countGoes 47 = .ok (.lcmp, 1) := by decide +kernel
theorem dX11_countGoes_48 : decode cX11_countGoes 48 = .ok (.ifCond .ne 5, 3) := by decide +kernel
theorem dX11_countGoes_51 : decode cX11_countGoes 51 = .ok (.iconst (-1), 1) := by decide +kernel
theorem dX11_countGoes_52 : decode cX11_countGoes 52 = .ok (.ireturn, 1) := by decide +kernel
theorem dX11_countGoes_53 : decode cX11_countGoes 53 = .ok (.iload 9, 2) := by decide +kernel
theorem dX11_countGoes_55 : decode cX11_countGoes 55 = .ok (.iload 8, 2) := by decide +kernel
theorem dX11_countGoes_57 : decode cX11_countGoes 57 = .ok (.if_icmp .ne 13, 3) := by decide +kernel
theorem dX11_countGoes_60 : decode cX11_countGoes 60 = .ok (.lload 4, 2) := by decide +kernel
theorem dX11_countGoes_62 : decode cX11_countGoes 62 = .ok (.lstore 6, 2) := by decide +kernel
theorem dX11_countGoes_64 : decode cX11_countGoes 64 = .ok (.iconst 2, 1) := by decide +kernel
theorem dX11_countGoes_65 : decode cX11_countGoes 65 = .ok (.iload 9, 2) := by decide +kernel
theorem dX11_countGoes_67 : decode cX11_countGoes 67 = .ok (.imul, 1) := by decide +kernel
theorem dX11_countGoes_68 : decode cX11_countGoes 68 = .ok (.istore 8, 2) := by decide +kernel
theorem dX11_countGoes_70 : decode cX11_countGoes 70 = .ok (.aload_n 1, 1) := by decide +kernel
theorem dX11_countGoes_71 : decode cX11_countGoes 71 = .ok (.lload 4, 2) := by decide +kernel
theorem dX11_countGoes_73 : decode cX11_countGoes 73 = .ok (.aload_n 0, 1) := by decide +kernel
theorem dX11_countGoes_74 : decode cX11_countGoes 74 = .ok (.getfield 10, 3) := by decide +kernel
theorem dX11_countGoes_77 : decode cX11_countGoes 77 = .ok (.invokevirtual 120, 3) := by decide +kernel
theorem dX11_countGoes_80 : decode cX11_countGoes 80 = .ok (.lstore 4, 2) := by decide +kernel
theorem dX11_countGoes_82 : decode cX11_countGoes 82 = .ok (.iinc 9 1, 3) := by decide +kernel
theorem dX11_countGoes_85 : decode cX11_countGoes 85 = .ok (.goto (-71), 3) := by decide +kernel
theorem dX11_countGoes_88 : decode cX11_countGoes 88 = .ok (.iconst (-1), 1) := by decide +kernel
theorem dX11_countGoes_89 : decode cX11_countGoes 89 = .ok (.ireturn, 1) := by decide +kernel
theorem dX11_keepRun_0 : decode cX11_keepRun 0 = .ok (.iconst 0, 1) := by decide +kernel
theorem dX11_keepRun_1 : decode cX11_keepRun 1 = .ok (.istore 5, 2) := by decide +kernel
theorem dX11_keepRun_3 : decode cX11_keepRun 3 = .ok (.lload_n 2, 1) := by decide +kernel
theorem dX11_keepRun_4 : decode cX11_keepRun 4 = .ok (.lstore 6, 2) := by decide +kernel
theorem dX11_keepRun_6 : decode cX11_keepRun 6 = .ok (.iload 5, 2) := by decide +kernel
theorem dX11_keepRun_8 : decode cX11_keepRun 8 = .ok (.iload 4, 2) := by decide +kernel
theorem dX11_keepRun_10 : decode cX11_keepRun 10 = .ok (.if_icmp .ge 49, 3) := by decide +kernel
theorem dX11_keepRun_13 : decode cX11_keepRun 13 = .ok (.iload 5, 2) := by decide +kernel
theorem dX11_keepRun_15 : decode cX11_keepRun 15 = .ok (.aload_n 0, 1) := by decide +kernel
theorem dX11_keepRun_16 : decode cX11_keepRun 16 = .ok (.getfield 44, 3) := by decide +kernel
theorem dX11_keepRun_19 : decode cX11_keepRun 19 = .ok (.arraylength, 1) := by decide +kernel
theorem dX11_keepRun_20 : decode cX11_keepRun 20 = .ok (.if_icmp .ge 39, 3) := by decide +kernel
theorem dX11_keepRun_23 : decode cX11_keepRun 23 = .ok (.lload 6, 2) := by decide +kernel
theorem dX11_keepRun_25 : decode cX11_keepRun 25 = .ok (.ldc2_w 212, 3) := by decide +kernel
theorem dX11_keepRun_28 : decode cX11_keepRun 28 = .ok (.lcmp, 1) := by decide +kernel
theorem dX11_keepRun_29 : decode cX11_keepRun 29 = .ok (.ifCond .eq 30, 3) := by decide +kernel
theorem dX11_keepRun_32 : decode cX11_keepRun 32 = .ok (.aload_n 0, 1) := by decide +kernel
theorem dX11_keepRun_33 : decode cX11_keepRun 33 = .ok (.getfield 44, 3) := by decide +kernel
theorem dX11_keepRun_36 : decode cX11_keepRun 36 = .ok (.iload 5, 2) := by decide +kernel
theorem dX11_keepRun_38 : decode cX11_keepRun 38 = .ok (.lload 6, 2) := by decide +kernel
theorem dX11_keepRun_40 : decode cX11_keepRun 40 = .ok (.lastore, 1) := by decide +kernel
theorem dX11_keepRun_41 : decode cX11_keepRun 41 = .ok (.aload_n 1, 1) := by decide +kernel
theorem dX11_keepRun_42 : decode cX11_keepRun 42 = .ok (.lload 6, 2) := by decide +kernel
theorem dX11_keepRun_44 : decode cX11_keepRun 44 = .ok (.aload_n 0, 1) := by decide +kernel
theorem dX11_keepRun_45 : decode cX11_keepRun 45 = .ok (.getfield 10, 3) := by decide +kernel
theorem dX11_keepRun_48 : decode cX11_keepRun 48 = .ok (.invokevirtual 120, 3) := by decide +kernel
theorem dX11_keepRun_51 : decode cX11_keepRun 51 = .ok (.lstore 6, 2) := by decide +kernel
theorem dX11_keepRun_53 : decode cX11_keepRun 53 = .ok (.iinc 5 1, 3) := by decide +kernel
theorem dX11_keepRun_56 : decode cX11_keepRun 56 = .ok (.goto (-50), 3) := by decide +kernel
theorem dX11_keepRun_59 : decode cX11_keepRun 59 = .ok (.iload 5, 2) := by decide +kernel
theorem dX11_keepRun_61 : decode cX11_keepRun 61 = .ok (.ireturn, 1) := by decide +kernel
theorem dX11_findRound_0 : decode cX11_findRound 0 = .ok (.iconst 0, 1) := by decide +kernel
theorem dX11_findRound_1 : decode cX11_findRound 1 = .ok (.istore 4, 2) := by decide +kernel
theorem dX11_findRound_3 : decode cX11_findRound 3 = .ok (.aload_n 0, 1) := by decide +kernel
theorem dX11_findRound_4 : decode cX11_findRound 4 = .ok (.getfield 44, 3) := by decide +kernel
theorem dX11_findRound_7 : decode cX11_findRound 7 = .ok (.iconst 0, 1) := by decide +kernel
theorem dX11_findRound_8 : decode cX11_findRound 8 = .ok (.lload_n 2, 1) := by decide +kernel
theorem dX11_findRound_9 : decode cX11_findRound 9 = .ok (.lastore, 1) := by decide +kernel
theorem dX11_findRound_10 : decode cX11_findRound 10 = .ok (.iconst 1, 1) := by decide +kernel
theorem dX11_findRound_11 : decode cX11_findRound 11 = .ok (.istore 5, 2) := by decide +kernel
theorem dX11_findRound_13 : decode cX11_findRound 13 = .ok (.iload 5, 2) := by decide +kernel
theorem dX11_findRound_15 : decode cX11_findRound 15 = .ok (.aload_n 0, 1) := by decide +kernel
theorem dX11_findRound_16 : decode cX11_findRound 16 = .ok (.getfield 44, 3) := by decide +kernel
theorem dX11_findRound_19 : decode cX11_findRound 19 = .ok (.arraylength, 1) := by decide +kernel
theorem dX11_findRound_20 : decode cX11_findRound 20 = .ok (.if_icmp .ge 88, 3) := by decide +kernel
theorem dX11_findRound_23 : decode cX11_findRound 23 = .ok (.aload_n 1, 1) := by decide +kernel
theorem dX11_findRound_24 : decode cX11_findRound 24 = .ok (.aload_n 0, 1) := by decide +kernel
theorem dX11_findRound_25 : decode cX11_findRound 25 = .ok (.getfield 44, 3) := by decide +kernel
theorem dX11_findRound_28 : decode cX11_findRound 28 = .ok (.iload 5, 2) := by decide +kernel
theorem dX11_findRound_30 : decode cX11_findRound 30 = .ok (.iconst 1, 1) := by decide +kernel
theorem dX11_findRound_31 : decode cX11_findRound 31 = .ok (.isub, 1) := by decide +kernel
theorem dX11_findRound_32 : decode cX11_findRound 32 = .ok (.laload, 1) := by decide +kernel
theorem dX11_findRound_33 : decode cX11_findRound 33 = .ok (.aload_n 0, 1) := by decide +kernel
theorem dX11_findRound_34 : decode cX11_findRound 34 = .ok (.getfield 10, 3) := by decide +kernel
theorem dX11_findRound_37 : decode cX11_findRound 37 = .ok (.invokevirtual 120, 3) := by decide +kernel
theorem dX11_findRound_40 : decode cX11_findRound 40 = .ok (.lstore 6, 2) := by decide +kernel
theorem dX11_findRound_42 : decode cX11_findRound 42 = .ok (.lload 6, 2) := by decide +kernel
theorem dX11_findRound_44 : decode cX11_findRound 44 = .ok (.ldc2_w 212, 3) := by decide +kernel
theorem dX11_findRound_47 : decode cX11_findRound 47 = .ok (.lcmp, 1) := by decide +kernel
theorem dX11_findRound_48 : decode cX11_findRound 48 = .ok (.ifCond .ne 5, 3) := by decide +kernel
theorem dX11_findRound_51 : decode cX11_findRound 51 = .ok (.iconst 0, 1) := by decide +kernel
theorem dX11_findRound_52 : decode cX11_findRound 52 = .ok (.ireturn, 1) := by decide +kernel
theorem dX11_findRound_53 : decode cX11_findRound 53 = .ok (.aload_n 0, 1) := by decide +kernel
theorem dX11_findRound_54 : decode cX11_findRound 54 = .ok (.getfield 44, 3) := by decide +kernel
theorem dX11_findRound_57 : decode cX11_findRound 57 = .ok (.iload 5, 2) := by decide +kernel
theorem dX11_findRound_59 : decode cX11_findRound 59 = .ok (.lload 6, 2) := by decide +kernel
theorem dX11_findRound_61 : decode cX11_findRound 61 = .ok (.lastore, 1) := by decide +kernel
theorem dX11_findRound_62 : decode cX11_findRound 62 = .ok (.lload 6, 2) := by decide +kernel
theorem dX11_findRound_64 : decode cX11_findRound 64 = .ok (.aload_n 0, 1) := by decide +kernel
theorem dX11_findRound_65 : decode cX11_findRound 65 = .ok (.getfield 44, 3) := by decide +kernel
theorem dX11_findRound_68 : decode cX11_findRound 68 = .ok (.iload 4, 2) := by decide +kernel
theorem dX11_findRound_70 : decode cX11_findRound 70 = .ok (.laload, 1) := by decide +kernel
theorem dX11_findRound_71 : decode cX11_findRound 71 = .ok (.lcmp, 1) := by decide +kernel
theorem dX11_findRound_72 : decode cX11_findRound 72 = .ok (.ifCond .ne 15, 3) := by decide +kernel
theorem dX11_findRound_75 : decode cX11_findRound 75 = .ok (.aload_n 0, 1) := by decide +kernel
theorem dX11_findRound_76 : decode cX11_findRound 76 = .ok (.iload 5, 2) := by decide +kernel
theorem dX11_findRound_78 : decode cX11_findRound 78 = .ok (.iload 5, 2) := by decide +kernel
theorem dX11_findRound_80 : decode cX11_findRound 80 = .ok (.iload 4, 2) := by decide +kernel
theorem dX11_findRound_82 : decode cX11_findRound 82 = .ok (.isub, 1) := by decide +kernel
theorem dX11_findRound_83 : decode cX11_findRound 83 = .ok (.invokevirtual 234, 3) := by decide +kernel
theorem dX11_findRound_86 : decode cX11_findRound 86 = .ok (.ireturn, 1) := by decide +kernel
theorem dX11_findRound_87 : decode cX11_findRound 87 = .ok (.iload 5, 2) := by decide +kernel
theorem dX11_findRound_89 : decode cX11_findRound 89 = .ok (.iconst 2, 1) := by decide +kernel
theorem dX11_findRound_90 : decode cX11_findRound 90 = .ok (.iload 4, 2) := by decide +kernel
theorem dX11_findRound_92 : decode cX11_findRound 92 = .ok (.imul, 1) := by decide +kernel
theorem dX11_findRound_93 : decode cX11_findRound 93 = .ok (.iconst 1, 1) := by decide +kernel
theorem dX11_findRound_94 : decode cX11_findRound 94 = .ok (.iadd, 1) := by decide +kernel
theorem dX11_findRound_95 : decode cX11_findRound 95 = .ok (.if_icmp .ne 7, 3) := by decide +kernel
theorem dX11_findRound_98 : decode cX11_findRound 98 = .ok (.iload 5, 2) := by decide +kernel
theorem dX11_findRound_100 : decode cX11_findRound 100 = .ok (.istore 4, 2) := by decide +kernel
theorem dX11_findRound_102 : decode cX11_findRound 102 = .ok (.iinc 5 1, 3) := by decide +kernel
theorem dX11_findRound_105 : decode cX11_findRound 105 = .ok (.goto (-92), 3) := by decide +kernel
theorem dX11_findRound_108 : decode cX11_findRound 108 = .ok (.aload_n 0, 1) := by decide +kernel
theorem dX11_findRound_109 : decode cX11_findRound 109 = .ok (.getfield 44, 3) := by decide +kernel
theorem dX11_findRound_112 : decode cX11_findRound 112 = .ok (.arraylength, 1) := by decide +kernel
theorem dX11_findRound_113 : decode cX11_findRound 113 = .ok (.iconst 1, 1) := by decide +kernel
theorem dX11_findRound_114 : decode cX11_findRound 114 = .ok (.isub, 1) := by decide +kernel
theorem dX11_findRound_115 : decode cX11_findRound 115 = .ok (.istore 5, 2) := by decide +kernel
theorem dX11_findRound_117 : decode cX11_findRound 117 = .ok (.iload 5, 2) := by decide +kernel
theorem dX11_findRound_119 : decode cX11_findRound 119 = .ok (.iconst 1, 1) := by decide +kernel
theorem dX11_findRound_120 : decode cX11_findRound 120 = .ok (.isub, 1) := by decide +kernel
theorem dX11_findRound_121 : decode cX11_findRound 121 = .ok (.istore 6, 2) := by decide +kernel
theorem dX11_findRound_123 : decode cX11_findRound 123 = .ok (.iload 6, 2) := by decide +kernel
theorem dX11_findRound_125 : decode cX11_findRound 125 = .ok (.ifCond .lt 39, 3) := by decide +kernel
theorem dX11_findRound_128 : decode cX11_findRound 128 = .ok (.aload_n 0, 1) := by decide +kernel
theorem dX11_findRound_129 : decode cX11_findRound 129 = .ok (.getfield 44, 3) := by decide +kernel
theorem dX11_findRound_132 : decode cX11_findRound 132 = .ok (.iload 6, 2) := by decide +kernel
theorem dX11_findRound_134 : decode cX11_findRound 134 = .ok (.laload, 1) := by decide +kernel
theorem dX11_findRound_135 : decode cX11_findRound 135 = .ok (.aload_n 0, 1) := by decide +kernel
theorem dX11_findRound_136 : decode cX11_findRound 136 = .ok (.getfield 44, 3) := by decide +kernel
theorem dX11_findRound_139 : decode cX11_findRound 139 = .ok (.iload 5, 2) := by decide +kernel
theorem dX11_findRound_141 : decode cX11_findRound 141 = .ok (.laload, 1) := by decide +kernel
theorem dX11_findRound_142 : decode cX11_findRound 142 = .ok (.lcmp, 1) := by decide +kernel
theorem dX11_findRound_143 : decode cX11_findRound 143 = .ok (.ifCond .ne 15, 3) := by decide +kernel
theorem dX11_findRound_146 : decode cX11_findRound 146 = .ok (.aload_n 0, 1) := by decide +kernel
theorem dX11_findRound_147 : decode cX11_findRound 147 = .ok (.iload 5, 2) := by decide +kernel
theorem dX11_findRound_149 : decode cX11_findRound 149 = .ok (.iload 5, 2) := by decide +kernel
theorem dX11_findRound_151 : decode cX11_findRound 151 = .ok (.iload 6, 2) := by decide +kernel
theorem dX11_findRound_153 : decode cX11_findRound 153 = .ok (.isub, 1) := by decide +kernel
theorem dX11_findRound_154 : decode cX11_findRound 154 = .ok (.invokevirtual 234, 3) := by decide +kernel
theorem dX11_findRound_157 : decode cX11_findRound 157 = .ok (.ireturn, 1) := by decide +kernel
theorem dX11_findRound_158 : decode cX11_findRound 158 = .ok (.iinc 6 (-1), 3) := by decide +kernel
theorem dX11_findRound_161 : decode cX11_findRound 161 = .ok (.goto (-38), 3) := by decide +kernel
theorem dX11_findRound_164 : decode cX11_findRound 164 = .ok (.iconst 0, 1) := by decide +kernel
theorem dX11_findRound_165 : decode cX11_findRound 165 = .ok (.ireturn, 1) := by decide +kernel
theorem dX11_keepRound_0 : decode cX11_keepRound 0 = .ok (.iload_n 2, 1) := by decide +kernel
theorem dX11_keepRound_1 : decode cX11_keepRound 1 = .ok (.iconst 1, 1) := by decide +kernel
theorem dX11_keepRound_2 : decode cX11_keepRound 2 = .ok (.if_icmp .lt 17, 3) := by decide +kernel
theorem dX11_keepRound_5 : decode cX11_keepRound 5 = .ok (.iload_n 2, 1) := by decide +kernel
theorem dX11_keepRound_6 : decode cX11_keepRound 6 = .ok (.iload_n 1, 1) := by decide +kernel
theorem dX11_keepRound_7 : decode cX11_keepRound 7 = .ok (.if_icmp .gt 12, 3) := by decide +kernel
theorem dX11_keepRound_10 : decode cX11_keepRound 10 = .ok (.iload_n 1, 1) := by decide +kernel
theorem dX11_keepRound_11 : decode cX11_keepRound 11 = .ok (.aload_n 0, 1) := by decide +kernel
theorem dX11_keepRound_12 : decode cX11_keepRound 12 = .ok (.getfield 44, 3) := by decide +kernel
theorem dX11_keepRound_15 : decode cX11_keepRound 15 = .ok (.arraylength, 1) := by decide +kernel
theorem dX11_keepRound_16 : decode cX11_keepRound 16 = .ok (.if_icmp .lt 5, 3) := by decide +kernel
theorem dX11_keepRound_19 : decode cX11_keepRound 19 = .ok (.iconst 0, 1) := by decide +kernel
theorem dX11_keepRound_20 : decode cX11_keepRound 20 = .ok (.ireturn, 1) := by decide +kernel
theorem dX11_keepRound_21 : decode cX11_keepRound 21 = .ok (.iconst 0, 1) := by decide +kernel
theorem dX11_keepRound_22 : decode cX11_keepRound 22 = .ok (.istore_n 3, 1) := by decide +kernel
theorem dX11_keepRound_23 : decode cX11_keepRound 23 = .ok (.iload_n 3, 1) := by decide +kernel
theorem dX11_keepRound_24 : decode cX11_keepRound 24 = .ok (.iload_n 1, 1) := by decide +kernel
theorem dX11_keepRound_25 : decode cX11_keepRound 25 = .ok (.iload_n 2, 1) := by decide +kernel
theorem dX11_keepRound_26 : decode cX11_keepRound 26 = .ok (.isub, 1) := by decide +kernel
theorem dX11_keepRound_27 : decode cX11_keepRound 27 = .ok (.if_icmp .ge 27, 3) := by decide +kernel
theorem dX11_keepRound_30 : decode cX11_keepRound 30 = .ok (.aload_n 0, 1) := by decide +kernel
theorem dX11_keepRound_31 : decode cX11_keepRound 31 = .ok (.getfield 44, 3) := by decide +kernel
theorem dX11_keepRound_34 : decode cX11_keepRound 34 = .ok (.iload_n 3, 1) := by decide +kernel
theorem dX11_keepRound_35 : decode cX11_keepRound 35 = .ok (.laload, 1) := by decide +kernel
theorem dX11_keepRound_36 : decode cX11_keepRound 36 = .ok (.aload_n 0, 1) := by decide +kernel
theorem dX11_keepRound_37 : decode cX11_keepRound 37 = .ok (.getfield 44, 3) := by decide +kernel
theorem dX11_keepRound_40 : decode cX11_keepRound 40 = .ok (.iload_n 3, 1) := by decide +kernel
theorem dX11_keepRound_41 : decode cX11_keepRound 41 = .ok (.iload_n 2, 1) := by decide +kernel
theorem dX11_keepRound_42 : decode cX11_keepRound 42 = .ok (.iadd, 1) := by decide +kernel
theorem dX11_keepRound_43 : decode cX11_keepRound 43 = .ok (.laload, 1) := by decide +kernel
theorem dX11_keepRound_44 : decode cX11_keepRound 44 = .ok (.lcmp, 1) := by decide +kernel
theorem dX11_keepRound_45 : decode cX11_keepRound 45 = .ok (.ifCond .eq 9, 3) := by decide +kernel
theorem dX11_keepRound_48 : decode cX11_keepRound 48 = .ok (.iinc 3 1, 3) := by decide +kernel
theorem dX11_keepRound_51 : decode cX11_keepRound 51 = .ok (.goto (-28), 3) := by decide +kernel
theorem dX11_keepRound_54 : decode cX11_keepRound 54 = .ok (.aload_n 0, 1) := by decide +kernel
theorem dX11_keepRound_55 : decode cX11_keepRound 55 = .ok (.getfield 44, 3) := by decide +kernel
theorem dX11_keepRound_58 : decode cX11_keepRound 58 = .ok (.iload_n 3, 1) := by decide +kernel
theorem dX11_keepRound_59 : decode cX11_keepRound 59 = .ok (.laload, 1) := by decide +kernel
theorem dX11_keepRound_60 : decode cX11_keepRound 60 = .ok (.lstore 4, 2) := by decide +kernel
theorem dX11_keepRound_62 : decode cX11_keepRound 62 = .ok (.iload_n 3, 1) := by decide +kernel
theorem dX11_keepRound_63 : decode cX11_keepRound 63 = .ok (.iconst 1, 1) := by decide +kernel
theorem dX11_keepRound_64 : decode cX11_keepRound 64 = .ok (.iadd, 1) := by decide +kernel
theorem dX11_keepRound_65 : decode cX11_keepRound 65 = .ok (.istore 6, 2) := by decide +kernel
theorem dX11_keepRound_67 : decode cX11_keepRound 67 = .ok (.iload 6, 2) := by decide +kernel
theorem dX11_keepRound_69 : decode cX11_keepRound 69 = .ok (.iload_n 3, 1) := by decide +kernel
theorem dX11_keepRound_70 : decode cX11_keepRound 70 = .ok (.iload_n 2, 1) := by decide +kernel
theorem dX11_keepRound_71 : decode cX11_keepRound 71 = .ok (.iadd, 1) := by decide +kernel
theorem dX11_keepRound_72 : decode cX11_keepRound 72 = .ok (.if_icmp .ge 23, 3) := by decide +kernel
theorem dX11_keepRound_75 : decode cX11_keepRound 75 = .ok (.lload 4, 2) := by decide +kernel
theorem dX11_keepRound_77 : decode cX11_keepRound 77 = .ok (.aload_n 0, 1) := by decide +kernel
theorem dX11_keepRound_78 : decode cX11_keepRound 78 = .ok (.getfield 44, 3) := by decide +kernel
theorem dX11_keepRound_81 : decode cX11_keepRound 81 = .ok (.iload 6, 2) := by decide +kernel
theorem dX11_keepRound_83 : decode cX11_keepRound 83 = .ok (.laload, 1) := by decide +kernel
theorem dX11_keepRound_84 : decode cX11_keepRound 84 = .ok (.invokestatic 237, 3) := by decide +kernel
theorem dX11_keepRound_87 : decode cX11_keepRound 87 = .ok (.lstore 4, 2) := by decide +kernel
theorem dX11_keepRound_89 : decode cX11_keepRound 89 = .ok (.iinc 6 1, 3) := by decide +kernel
theorem dX11_keepRound_92 : decode cX11_keepRound 92 = .ok (.goto (-25), 3) := by decide +kernel
theorem dX11_keepRound_95 : decode cX11_keepRound 95 = .ok (.aload_n 0, 1) := by decide +kernel
theorem dX11_keepRound_96 : decode cX11_keepRound 96 = .ok (.getfield 48, 3) := by decide +kernel
theorem dX11_keepRound_99 : decode cX11_keepRound 99 = .ok (.iconst 0, 1) := by decide +kernel
theorem dX11_keepRound_100 : decode cX11_keepRound 100 = .ok (.iload_n 3, 1) := by decide +kernel
theorem dX11_keepRound_101 : decode cX11_keepRound 101 = .ok (.i2l, 1) := by decide +kernel
theorem dX11_keepRound_102 : decode cX11_keepRound 102 = .ok (.lastore, 1) := by decide +kernel
theorem dX11_keepRound_103 : decode cX11_keepRound 103 = .ok (.aload_n 0, 1) := by decide +kernel
theorem dX11_keepRound_104 : decode cX11_keepRound 104 = .ok (.getfield 48, 3) := by decide +kernel
theorem dX11_keepRound_107 : decode cX11_keepRound 107 = .ok (.iconst 1, 1) := by decide +kernel
theorem dX11_keepRound_108 : decode cX11_keepRound 108 = .ok (.iload_n 2, 1) := by decide +kernel
theorem dX11_keepRound_109 : decode cX11_keepRound 109 = .ok (.i2l, 1) := by decide +kernel
theorem dX11_keepRound_110 : decode cX11_keepRound 110 = .ok (.lastore, 1) := by decide +kernel
theorem dX11_keepRound_111 : decode cX11_keepRound 111 = .ok (.aload_n 0, 1) := by decide +kernel
theorem dX11_keepRound_112 : decode cX11_keepRound 112 = .ok (.getfield 48, 3) := by decide +kernel
theorem dX11_keepRound_115 : decode cX11_keepRound 115 = .ok (.iconst 2, 1) := by decide +kernel
theorem dX11_keepRound_116 : decode cX11_keepRound 116 = .ok (.lload 4, 2) := by decide +kernel
theorem dX11_keepRound_118 : decode cX11_keepRound 118 = .ok (.lastore, 1) := by decide +kernel
theorem dX11_keepRound_119 : decode cX11_keepRound 119 = .ok (.iconst 1, 1) := by decide +kernel
theorem dX11_keepRound_120 : decode cX11_keepRound 120 = .ok (.ireturn, 1) := by decide +kernel
theorem dX11_isAmong_0 : decode cX11_isAmong 0 = .ok (.iconst 0, 1) := by decide +kernel
theorem dX11_isAmong_1 : decode cX11_isAmong 1 = .ok (.istore 4, 2) := by decide +kernel
theorem dX11_isAmong_3 : decode cX11_isAmong 3 = .ok (.iload 4, 2) := by decide +kernel
theorem dX11_isAmong_5 : decode cX11_isAmong 5 = .ok (.iload_n 1, 1) := by decide +kernel
theorem dX11_isAmong_6 : decode cX11_isAmong 6 = .ok (.if_icmp .ge 27, 3) := by decide +kernel
theorem dX11_isAmong_9 : decode cX11_isAmong 9 = .ok (.iload 4, 2) := by decide +kernel
theorem dX11_isAmong_11 : decode cX11_isAmong 11 = .ok (.aload_n 0, 1) := by decide +kernel
theorem dX11_isAmong_12 : decode cX11_isAmong 12 = .ok (.arraylength, 1) := by decide +kernel
theorem dX11_isAmong_13 : decode cX11_isAmong 13 = .ok (.if_icmp .ge 20, 3) := by decide +kernel
theorem dX11_isAmong_16 : decode cX11_isAmong 16 = .ok (.aload_n 0, 1) := by decide +kernel
theorem dX11_isAmong_17 : decode cX11_isAmong 17 = .ok (.iload 4, 2) := by decide +kernel
theorem dX11_isAmong_19 : decode cX11_isAmong 19 = .ok (.laload, 1) := by decide +kernel
theorem dX11_isAmong_20 : decode cX11_isAmong 20 = .ok (.lload_n 2, 1) := by decide +kernel
theorem dX11_isAmong_21 : decode cX11_isAmong 21 = .ok (.lcmp, 1) := by decide +kernel
theorem dX11_isAmong_22 : decode cX11_isAmong 22 = .ok (.ifCond .ne 5, 3) := by decide +kernel
theorem dX11_isAmong_25 : decode cX11_isAmong 25 = .ok (.iconst 1, 1) := by decide +kernel
theorem dX11_isAmong_26 : decode cX11_isAmong 26 = .ok (.ireturn, 1) := by decide +kernel
theorem dX11_isAmong_27 : decode cX11_isAmong 27 = .ok (.iinc 4 1, 3) := by decide +kernel
theorem dX11_isAmong_30 : decode cX11_isAmong 30 = .ok (.goto (-27), 3) := by decide +kernel
theorem dX11_isAmong_33 : decode cX11_isAmong 33 = .ok (.iconst 0, 1) := by decide +kernel
theorem dX11_isAmong_34 : decode cX11_isAmong 34 = .ok (.ireturn, 1) := by decide +kernel
theorem dX11_source_0 : decode cX11_source 0 = .ok (.aload_n 0, 1) := by decide +kernel
theorem dX11_source_1 : decode cX11_source 1 = .ok (.getfield 10, 3) := by decide +kernel
theorem dX11_source_4 : decode cX11_source 4 = .ok (.iload_n 1, 1) := by decide +kernel
theorem dX11_source_5 : decode cX11_source 5 = .ok (.invokevirtual 100, 3) := by decide +kernel
theorem dX11_source_8 : decode cX11_source 8 = .ok (.astore 5, 2) := by decide +kernel
theorem dX11_source_10 : decode cX11_source 10 = .ok (.aload 5, 2) := by decide +kernel
theorem dX11_source_12 : decode cX11_source 12 = .ok (.ifnonnull 9, 3) := by decide +kernel
theorem dX11_source_15 : decode cX11_source 15 = .ok (.aload_n 0, 1) := by decide +kernel
theorem dX11_source_16 : decode cX11_source 16 = .ok (.iconst (-1), 1) := by decide +kernel
theorem dX11_source_17 : decode cX11_source 17 = .ok (.invokevirtual 61, 3) := by decide +kernel
theorem dX11_source_20 : decode cX11_source 20 = .ok (.ireturn, 1) := by decide +kernel
theorem dX11_source_21 : decode cX11_source 21 = .ok (.iload 4, 2) := by decide +kernel
theorem dX11_source_23 : decode cX11_source 23 = .ok (.iconst (-1), 1) := by decide +kernel
theorem dX11_source_24 : decode cX11_source 24 = .ok (.if_icmp .ge 10, 3) := by decide +kernel
theorem dX11_source_27 : decode cX11_source 27 = .ok (.aload_n 0, 1) := by decide +kernel
theorem dX11_source_28 : decode cX11_source 28 = .ok (.bipush (-5), 2) := by decide +kernel
theorem dX11_source_30 : decode cX11_source 30 = .ok (.invokevirtual 61, 3) := by decide +kernel
theorem dX11_source_33 : decode cX11_source 33 = .ok (.ireturn, 1) := by decide +kernel
theorem dX11_source_34 : decode cX11_source 34 = .ok (.lload_n 2, 1) := by decide +kernel
theorem dX11_source_35 : decode cX11_source 35 = .ok (.invokestatic 176, 3) := by decide +kernel
theorem dX11_source_38 : decode cX11_source 38 = .ok (.ifCond .ne 10, 3) := by decide +kernel
theorem dX11_source_41 : decode cX11_source 41 = .ok (.aload_n 0, 1) := by decide +kernel
theorem dX11_source_42 : decode cX11_source 42 = .ok (.bipush (-6), 2) := by decide +kernel
theorem dX11_source_44 : decode cX11_source 44 = .ok (.invokevirtual 61, 3) := by decide +kernel
theorem dX11_source_47 : decode cX11_source 47 = .ok (.ireturn, 1) := by decide +kernel
theorem dX11_source_48 : decode cX11_source 48 = .ok (.aload_n 0, 1) := by decide +kernel
theorem dX11_source_49 : decode cX11_source 49 = .ok (.aload 5, 2) := by decide +kernel
theorem dX11_source_51 : decode cX11_source 51 = .ok (.lload_n 2, 1) := by decide +kernel
theorem dX11_source_52 : decode cX11_source 52 = .ok (.iconst 1, 1) := by decide +kernel
theorem dX11_source_53 : decode cX11_source 53 = .ok (.iload 4, 2) := by decide +kernel
theorem dX11_source_55 : decode cX11_source 55 = .ok (.invokevirtual 243, 3) := by decide +kernel
theorem dX11_source_58 : decode cX11_source 58 = .ok (.ireturn, 1) := by decide +kernel
theorem dX11_began_0 : decode cX11_began 0 = .ok (.aload_n 0, 1) := by decide +kernel
theorem dX11_began_1 : decode cX11_began 1 = .ok (.getfield 10, 3) := by decide +kernel
theorem dX11_began_4 : decode cX11_began 4 = .ok (.iload_n 1, 1) := by decide +kernel
theorem dX11_began_5 : decode cX11_began 5 = .ok (.invokevirtual 100, 3) := by decide +kernel
theorem dX11_began_8 : decode cX11_began 8 = .ok (.astore 6, 2) := by decide +kernel
theorem dX11_began_10 : decode cX11_began 10 = .ok (.aload 6, 2) := by decide +kernel
theorem dX11_began_12 : decode cX11_began 12 = .ok (.ifnonnull 9, 3) := by decide +kernel
theorem dX11_began_15 : decode cX11_began 15 = .ok (.aload_n 0, 1) := by decide +kernel
theorem dX11_began_16 : decode cX11_began 16 = .ok (.iconst (-1), 1) := by decide +kernel
theorem dX11_began_17 : decode cX11_began 17 = .ok (.invokevirtual 61, 3) := by decide +kernel
theorem dX11_began_20 : decode cX11_began 20 = .ok (.ireturn, 1) := by decide +kernel
theorem dX11_began_21 : decode cX11_began 21 = .ok (.iload 5, 2) := by decide +kernel
theorem dX11_began_23 : decode cX11_began 23 = .ok (.iconst (-1), 1) := by decide +kernel
theorem dX11_began_24 : decode cX11_began 24 = .ok (.if_icmp .ge 10, 3) := by decide +kernel
theorem dX11_began_27 : decode cX11_began 27 = .ok (.aload_n 0, 1) := by decide +kernel
theorem dX11_began_28 : decode cX11_began 28 = .ok (.bipush (-5), 2) := by decide +kernel
theorem dX11_began_30 : decode cX11_began 30 = .ok (.invokevirtual 61, 3) := by decide +kernel
theorem dX11_began_33 : decode cX11_began 33 = .ok (.ireturn, 1) := by decide +kernel
theorem dX11_began_34 : decode cX11_began 34 = .ok (.lload_n 2, 1) := by decide +kernel
theorem dX11_began_35 : decode cX11_began 35 = .ok (.invokestatic 176, 3) := by decide +kernel
theorem dX11_began_38 : decode cX11_began 38 = .ok (.ifCond .eq 16, 3) := by decide +kernel
theorem dX11_began_41 : decode cX11_began 41 = .ok (.iload 4, 2) := by decide +kernel
theorem dX11_began_43 : decode cX11_began 43 = .ok (.iconst 1, 1) := by decide +kernel
theorem dX11_began_44 : decode cX11_began 44 = .ok (.if_icmp .lt 10, 3) := by decide +kernel
theorem dX11_began_47 : decode cX11_began 47 = .ok (.iload 4, 2) := by decide +kernel
theorem dX11_began_49 : decode cX11_began 49 = .ok (.bipush 20, 2) := by decide +kernel
theorem dX11_began_51 : decode cX11_began 51 = .ok (.if_icmp .le 10, 3) := by decide +kernel
theorem dX11_began_54 : decode cX11_began 54 = .ok (.aload_n 0, 1) := by decide +kernel
theorem dX11_began_55 : decode cX11_began 55 = .ok (.bipush (-6), 2) := by decide +kernel
theorem dX11_began_57 : decode cX11_began 57 = .ok (.invokevirtual 61, 3) := by decide +kernel
theorem dX11_began_60 : decode cX11_began 60 = .ok (.ireturn, 1) := by decide +kernel
theorem dX11_began_61 : decode cX11_began 61 = .ok (.aload_n 0, 1) := by decide +kernel
theorem dX11_began_62 : decode cX11_began 62 = .ok (.aload 6, 2) := by decide +kernel
theorem dX11_began_64 : decode cX11_began 64 = .ok (.lload_n 2, 1) := by decide +kernel
theorem dX11_began_65 : decode cX11_began 65 = .ok (.iload 4, 2) := by decide +kernel
theorem dX11_began_67 : decode cX11_began 67 = .ok (.iload 5, 2) := by decide +kernel
theorem dX11_began_69 : decode cX11_began 69 = .ok (.invokevirtual 243, 3) := by decide +kernel
theorem dX11_began_72 : decode cX11_began 72 = .ok (.ireturn, 1) := by decide +kernel
theorem dX11_beginner_0 : decode cX11_beginner 0 = .ok (.iconst 0, 1) := by decide +kernel
theorem dX11_beginner_1 : decode cX11_beginner 1 = .ok (.istore 6, 2) := by decide +kernel
theorem dX11_beginner_3 : decode cX11_beginner 3 = .ok (.iconst 0, 1) := by decide +kernel
theorem dX11_beginner_4 : decode cX11_beginner 4 = .ok (.istore 7, 2) := by decide +kernel
theorem dX11_beginner_6 : decode cX11_beginner 6 = .ok (.iload 7, 2) := by decide +kernel
theorem dX11_beginner_8 : decode cX11_beginner 8 = .ok (.sipush 10000, 3) := by decide +kernel
theorem dX11_beginner_11 : decode cX11_beginner 11 = .ok (.if_icmp .ge 37, 3) := by decide +kernel
theorem dX11_beginner_14 : decode cX11_beginner 14 = .ok (.aload_n 0, 1) := by decide +kernel
theorem dX11_beginner_15 : decode cX11_beginner 15 = .ok (.aload_n 1, 1) := by decide +kernel
theorem dX11_beginner_16 : decode cX11_beginner 16 = .ok (.iload 7, 2) := by decide +kernel
theorem dX11_beginner_18 : decode cX11_beginner 18 = .ok (.i2l, 1) := by decide +kernel
theorem dX11_beginner_19 : decode cX11_beginner 19 = .ok (.iload 4, 2) := by decide +kernel
theorem dX11_beginner_21 : decode cX11_beginner 21 = .ok (.invokevirtual 214, 3) := by decide +kernel
theorem dX11_beginner_24 : decode cX11_beginner 24 = .ok (.lload_n 2, 1) := by decide +kernel
theorem dX11_beginner_25 : decode cX11_beginner 25 = .ok (.lcmp, 1) := by decide +kernel
theorem dX11_beginner_26 : decode cX11_beginner 26 = .ok (.ifCond .ne 16, 3) := by decide +kernel
theorem dX11_beginner_29 : decode cX11_beginner 29 = .ok (.iload 6, 2) := by decide +kernel
theorem dX11_beginner_31 : decode cX11_beginner 31 = .ok (.iload 5, 2) := by decide +kernel
theorem dX11_beginner_33 : decode cX11_beginner 33 = .ok (.if_icmp .ne 6, 3) := by decide +kernel
theorem dX11_beginner_36 : decode cX11_beginner 36 = .ok (.iload 7, 2) := by decide +kernel
theorem dX11_beginner_38 : decode cX11_beginner 38 = .ok (.ireturn, 1) := by decide +kernel
theorem dX11_beginner_39 : decode cX11_beginner 39 = .ok (.iinc 6 1, 3) := by decide +kernel
theorem dX11_beginner_42 : decode cX11_beginner 42 = .ok (.iinc 7 1, 3) := by decide +kernel
theorem dX11_beginner_45 : decode cX11_beginner 45 = .ok (.goto (-39), 3) := by decide +kernel
theorem dX11_beginner_48 : decode cX11_beginner 48 = .ok (.iload 5, 2) := by decide +kernel
theorem dX11_beginner_50 : decode cX11_beginner 50 = .ok (.iconst (-1), 1) := by decide +kernel
theorem dX11_beginner_51 : decode cX11_beginner 51 = .ok (.if_icmp .ne 8, 3) := by decide +kernel
theorem dX11_beginner_54 : decode cX11_beginner 54 = .ok (.iload 6, 2) := by decide +kernel
theorem dX11_beginner_56 : decode cX11_beginner 56 = .ok (.goto 9, 3) := by decide +kernel
theorem dX11_beginner_59 : decode cX11_beginner 59 = .ok (.aload_n 0, 1) := by decide +kernel
theorem dX11_beginner_60 : decode cX11_beginner 60 = .ok (.bipush (-5), 2) := by decide +kernel
theorem dX11_beginner_62 : decode cX11_beginner 62 = .ok (.invokevirtual 61, 3) := by decide +kernel
theorem dX11_beginner_65 : decode cX11_beginner 65 = .ok (.ireturn, 1) := by decide +kernel
theorem dX11_barren_0 : decode cX11_barren 0 = .ok (.aload_n 0, 1) := by decide +kernel
theorem dX11_barren_1 : decode cX11_barren 1 = .ok (.getfield 10, 3) := by decide +kernel
theorem dX11_barren_4 : decode cX11_barren 4 = .ok (.iload_n 1, 1) := by decide +kernel
theorem dX11_barren_5 : decode cX11_barren 5 = .ok (.invokevirtual 100, 3) := by decide +kernel
theorem dX11_barren_8 : decode cX11_barren 8 = .ok (.astore 4, 2) := by decide +kernel
theorem dX11_barren_10 : decode cX11_barren 10 = .ok (.aload 4, 2) := by decide +kernel
theorem dX11_barren_12 : decode cX11_barren 12 = .ok (.ifnonnull 9, 3) := by decide +kernel
theorem dX11_barren_15 : decode cX11_barren 15 = .ok (.aload_n 0, 1) := by decide +kernel
theorem dX11_barren_16 : decode cX11_barren 16 = .ok (.iconst (-1), 1) := by decide +kernel
theorem dX11_barren_17 : decode cX11_barren 17 = .ok (.invokevirtual 61, 3) := by decide +kernel
theorem dX11_barren_20 : decode cX11_barren 20 = .ok (.ireturn, 1) := by decide +kernel
theorem dX11_barren_21 : decode cX11_barren 21 = .ok (.iload_n 2, 1) := by decide +kernel
theorem dX11_barren_22 : decode cX11_barren 22 = .ok (.ifCond .lt 15, 3) := by decide +kernel
theorem dX11_barren_25 : decode cX11_barren 25 = .ok (.iload_n 3, 1) := by decide +kernel
theorem dX11_barren_26 : decode cX11_barren 26 = .ok (.sipush 10000, 3) := by decide +kernel
theorem dX11_barren_29 : decode cX11_barren 29 = .ok (.if_icmp .ge 8, 3) := by decide +kernel
theorem dX11_barren_32 : decode cX11_barren 32 = .ok (.iload_n 2, 1) := by decide +kernel
theorem dX11_barren_33 : decode cX11_barren 33 = .ok (.iload_n 3, 1) := by decide +kernel
theorem dX11_barren_34 : decode cX11_barren 34 = .ok (.if_icmp .le 10, 3) := by decide +kernel
theorem dX11_barren_37 : decode cX11_barren 37 = .ok (.aload_n 0, 1) := by decide +kernel
theorem dX11_barren_38 : decode cX11_barren 38 = .ok (.bipush (-6), 2) := by decide +kernel
theorem dX11_barren_40 : decode cX11_barren 40 = .ok (.invokevirtual 61, 3) := by decide +kernel
theorem dX11_barren_43 : decode cX11_barren 43 = .ok (.ireturn, 1) := by decide +kernel
theorem dX11_barren_44 : decode cX11_barren 44 = .ok (.aload_n 0, 1) := by decide +kernel
theorem dX11_barren_45 : decode cX11_barren 45 = .ok (.getfield 54, 3) := by decide +kernel
theorem dX11_barren_48 : decode cX11_barren 48 = .ok (.lconst 0, 1) := by decide +kernel
theorem dX11_barren_49 : decode cX11_barren 49 = .ok (.invokestatic 247, 3) := by decide +kernel
theorem dX11_barren_52 : decode cX11_barren 52 = .ok (.iconst 0, 1) := by decide +kernel
theorem dX11_barren_53 : decode cX11_barren 53 = .ok (.istore 5, 2) := by decide +kernel
theorem dX11_barren_55 : decode cX11_barren 55 = .ok (.iload 5, 2) := by decide +kernel
theorem dX11_barren_57 : decode cX11_barren 57 = .ok (.sipush 10000, 3) := by decide +kernel
theorem dX11_barren_60 : decode cX11_barren 60 = .ok (.if_icmp .ge 25, 3) := by decide +kernel
theorem dX11_barren_63 : decode cX11_barren 63 = .ok (.aload_n 0, 1) := by decide +kernel
theorem dX11_barren_64 : decode cX11_barren 64 = .ok (.aload 4, 2) := by decide +kernel
theorem dX11_barren_66 : decode cX11_barren 66 = .ok (.iload 5, 2) := by decide +kernel
theorem dX11_barren_68 : decode cX11_barren 68 = .ok (.i2l, 1) := by decide +kernel
theorem dX11_barren_69 : decode cX11_barren 69 = .ok (.aload_n 0, 1) := by decide +kernel
theorem dX11_barren_70 : decode cX11_barren 70 = .ok (.getfield 10, 3) := by decide +kernel
theorem dX11_barren_73 : decode cX11_barren 73 = .ok (.invokevirtual 120, 3) := by decide +kernel
theorem dX11_barren_76 : decode cX11_barren 76 = .ok (.invokevirtual 253, 3) := by decide +kernel
theorem dX11_barren_79 : decode cX11_barren 79 = .ok (.iinc 5 1, 3) := by decide +kernel
theorem dX11_barren_82 : decode cX11_barren 82 = .ok (.goto (-27), 3) := by decide +kernel
theorem dX11_barren_85 : decode cX11_barren 85 = .ok (.iconst 0, 1) := by decide +kernel
theorem dX11_barren_86 : decode cX11_barren 86 = .ok (.istore 5, 2) := by decide +kernel
theorem dX11_barren_88 : decode cX11_barren 88 = .ok (.iload_n 2, 1) := by decide +kernel
theorem dX11_barren_89 : decode cX11_barren 89 = .ok (.istore 6, 2) := by decide +kernel
theorem dX11_barren_91 : decode cX11_barren 91 = .ok (.iload 6, 2) := by decide +kernel
theorem dX11_barren_93 : decode cX11_barren 93 = .ok (.iload_n 3, 1) := by decide +kernel
theorem dX11_barren_94 : decode cX11_barren 94 = .ok (.if_icmp .gt 21, 3) := by decide +kernel
theorem dX11_barren_97 : decode cX11_barren 97 = .ok (.aload_n 0, 1) := by decide +kernel
theorem dX11_barren_98 : decode cX11_barren 98 = .ok (.iload 6, 2) := by decide +kernel
theorem dX11_barren_100 : decode cX11_barren 100 = .ok (.invokevirtual 257, 3) := by decide +kernel
theorem dX11_barren_103 : decode cX11_barren 103 = .ok (.ifCond .ne 6, 3) := by decide +kernel
theorem dX11_barren_106 : decode cX11_barren 106 = .ok (.iinc 5 1, 3) := by decide +kernel
theorem dX11_barren_109 : decode cX11_barren 109 = .ok (.iinc 6 1, 3) := by decide +kernel
theorem dX11_barren_112 : decode cX11_barren 112 = .ok (.goto (-21), 3) := by decide +kernel
theorem dX11_barren_115 : decode cX11_barren 115 = .ok (.iload 5, 2) := by decide +kernel
theorem dX11_barren_117 : decode cX11_barren 117 = .ok (.ireturn, 1) := by decide +kernel
theorem dX11_mark_0 : decode cX11_mark 0 = .ok (.lload_n 1, 1) := by decide +kernel
theorem dX11_mark_1 : decode cX11_mark 1 = .ok (.lconst 0, 1) := by decide +kernel
theorem dX11_mark_2 : decode cX11_mark 2 = .ok (.lcmp, 1) := by decide +kernel
theorem dX11_mark_3 : decode cX11_mark 3 = .ok (.ifCond .lt 48, 3) := by decide +kernel
theorem dX11_mark_6 : decode cX11_mark 6 = .ok (.lload_n 1, 1) := by decide +kernel
theorem dX11_mark_7 : decode cX11_mark 7 = .ok (.ldc2_w 260, 3) := by decide +kernel
theorem dX11_mark_10 : decode cX11_mark 10 = .ok (.lcmp, 1) := by decide +kernel
theorem dX11_mark_11 : decode cX11_mark 11 = .ok (.ifCond .ge 40, 3) := by decide +kernel
theorem dX11_mark_14 : decode cX11_mark 14 = .ok (.lload_n 1, 1) := by decide +kernel
theorem dX11_mark_15 : decode cX11_mark 15 = .ok (.ldc2_w 262, 3) := by decide +kernel
theorem dX11_mark_18 : decode cX11_mark 18 = .ok (.ldiv, 1) := by decide +kernel
theorem dX11_mark_19 : decode cX11_mark 19 = .ok (.aload_n 0, 1) := by decide +kernel
theorem dX11_mark_20 : decode cX11_mark 20 = .ok (.getfield 54, 3) := by decide +kernel
theorem dX11_mark_23 : decode cX11_mark 23 = .ok (.arraylength, 1) := by decide +kernel
theorem dX11_mark_24 : decode cX11_mark 24 = .ok (.i2l, 1) := by decide +kernel
theorem dX11_mark_25 : decode cX11_mark 25 = .ok (.lcmp, 1) := by decide +kernel
theorem dX11_mark_26 : decode cX11_mark 26 = .ok (.ifCond .ge 25, 3) := by decide +kernel
theorem dX11_mark_29 : decode cX11_mark 29 = .ok (.aload_n 0, 1) := by decide +kernel
theorem dX11_mark_30 : decode cX11_mark 30 = .ok (.getfield 54, 3) := by decide +kernel
theorem dX11_mark_33 : decode cX11_mark 33 = .ok (.lload_n 1, 1) := by decide +kernel
theorem dX11_mark_34 : decode cX11_mark 34 = .ok (.ldc2_w 262, 3) := by decide +kernel
theorem dX11_mark_37 : decode cX11_mark 37 = .ok (.ldiv, 1) := by decide +kernel
theorem dX11_mark_38 : decode cX11_mark 38 = .ok (.l2i, 1) := by decide +kernel
theorem dX11_mark_39 : decode cX11_mark 39 = .ok (.dup2, 1) := by decide +kernel
theorem dX11_mark_40 : decode cX11_mark 40 = .ok (.laload, 1) := by decide +kernel
theorem dX11_mark_41 : decode cX11_mark 41 = .ok (.lconst 1, 1) := by decide +kernel
theorem dX11_mark_42 : decode cX11_mark 42 = .ok (.lload_n 1, 1) := by decide +kernel
theorem dX11_mark_43 : decode cX11_mark 43 = .ok (.ldc2_w 262, 3) := by decide +kernel
theorem dX11_mark_46 : decode cX11_mark 46 = .ok (.lrem, 1) := by decide +kernel
theorem dX11_mark_47 : decode cX11_mark 47 = .ok (.l2i, 1) := by decide +kernel
theorem dX11_mark_48 : decode cX11_mark 48 = .ok (.lshl, 1) := by decide +kernel
theorem dX11_mark_49 : decode cX11_mark 49 = .ok (.lor, 1) := by decide +kernel
theorem dX11_mark_50 : decode cX11_mark 50 = .ok (.lastore, 1) := by decide +kernel
theorem dX11_mark_51 : decode cX11_mark 51 = .ok (.return_, 1) := by decide +kernel
theorem dX11_isMarked_0 : decode cX11_isMarked 0 = .ok (.iload_n 1, 1) := by decide +kernel
theorem dX11_isMarked_1 : decode cX11_isMarked 1 = .ok (.ifCond .lt 40, 3) := by decide +kernel
theorem dX11_isMarked_4 : decode cX11_isMarked 4 = .ok (.iload_n 1, 1) := by decide +kernel
theorem dX11_isMarked_5 : decode cX11_isMarked 5 = .ok (.bipush 64, 2) := by decide +kernel
theorem dX11_isMarked_7 : decode cX11_isMarked 7 = .ok (.idiv, 1) := by decide +kernel
theorem dX11_isMarked_8 : decode cX11_isMarked 8 = .ok (.aload_n 0, 1) := by decide +kernel
theorem dX11_isMarked_9 : decode cX11_isMarked 9 = .ok (.getfield 54, 3) := by decide +kernel
theorem dX11_isMarked_12 : decode cX11_isMarked 12 = .ok (.arraylength, 1) := by decide +kernel
theorem dX11_isMarked_13 : decode cX11_isMarked 13 = .ok (.if_icmp .ge 28, 3) := by decide +kernel
theorem dX11_isMarked_16 : decode cX11_isMarked 16 = .ok (.aload_n 0, 1) := by decide +kernel
theorem dX11_isMarked_17 : decode cX11_isMarked 17 = .ok (.getfield 54, 3) := by decide +kernel
theorem dX11_isMarked_20 : decode cX11_isMarked 20 = .ok (.iload_n 1, 1) := by decide +kernel
theorem dX11_isMarked_21 : decode cX11_isMarked 21 = .ok (.bipush 64, 2) := by decide +kernel
theorem dX11_isMarked_23 : decode cX11_isMarked 23 = .ok (.idiv, 1) := by decide +kernel
theorem dX11_isMarked_24 : decode cX11_isMarked 24 = .ok (.laload, 1) := by decide +kernel
theorem dX11_isMarked_25 : decode cX11_isMarked 25 = .ok (.iload_n 1, 1) := by decide +kernel
theorem dX11_isMarked_26 : decode cX11_isMarked 26 = .ok (.bipush 64, 2) := by decide +kernel
theorem dX11_isMarked_28 : decode cX11_isMarked 28 = .ok (.irem, 1) := by decide +kernel
theorem dX11_isMarked_29 : decode cX11_isMarked 29 = .ok (.lushr, 1) := by decide +kernel
theorem dX11_isMarked_30 : decode cX11_isMarked 30 = .ok (.lconst 1, 1) := by decide +kernel
theorem dX11_isMarked_31 : decode cX11_isMarked 31 = .ok (.land, 1) := by decide +kernel
theorem dX11_isMarked_32 : decode cX11_isMarked 32 = .ok (.lconst 1, 1) := by decide +kernel
theorem dX11_isMarked_33 : decode cX11_isMarked 33 = .ok (.lcmp, 1) := by decide +kernel
theorem dX11_isMarked_34 : decode cX11_isMarked 34 = .ok (.ifCond .ne 7, 3) := by decide +kernel
theorem dX11_isMarked_37 : decode cX11_isMarked 37 = .ok (.iconst 1, 1) := by decide +kernel
theorem dX11_isMarked_38 : decode cX11_isMarked 38 = .ok (.goto 4, 3) := by decide +kernel
theorem dX11_isMarked_41 : decode cX11_isMarked 41 = .ok (.iconst 0, 1) := by decide +kernel
theorem dX11_isMarked_42 : decode cX11_isMarked 42 = .ok (.ireturn, 1) := by decide +kernel
theorem dX11_longest_0 : decode cX11_longest 0 = .ok (.aload_n 0, 1) := by decide +kernel
theorem dX11_longest_1 : decode cX11_longest 1 = .ok (.getfield 10, 3) := by decide +kernel
theorem dX11_longest_4 : decode cX11_longest 4 = .ok (.iload_n 1, 1) := by decide +kernel
theorem dX11_longest_5 : decode cX11_longest 5 = .ok (.invokevirtual 100, 3) := by decide +kernel
theorem dX11_longest_8 : decode cX11_longest 8 = .ok (.astore_n 3, 1) := by decide +kernel
theorem dX11_longest_9 : decode cX11_longest 9 = .ok (.aload_n 3, 1) := by decide +kernel
theorem dX11_longest_10 : decode cX11_longest 10 = .ok (.ifnonnull 12, 3) := by decide +kernel
theorem dX11_longest_13 : decode cX11_longest 13 = .ok (.aload_n 0, 1) := by decide +kernel
theorem dX11_longest_14 : decode cX11_longest 14 = .ok (.iconst (-1), 1) := by decide +kernel
theorem dX11_longest_15 : decode cX11_longest 15 = .ok (.invokevirtual 61, 3) := by decide +kernel
theorem dX11_longest_18 : decode cX11_longest 18 = .ok (.bipush 10, 2) := by decide +kernel
theorem dX11_longest_20 : decode cX11_longest 20 = .ok (.isub, 1) := by decide +kernel
theorem dX11_longest_21 : decode cX11_longest 21 = .ok (.ireturn, 1) := by decide +kernel
theorem dX11_longest_22 : decode cX11_longest 22 = .ok (.iload_n 2, 1) := by decide +kernel
theorem dX11_longest_23 : decode cX11_longest 23 = .ok (.iconst 1, 1) := by decide +kernel
theorem dX11_longest_24 : decode cX11_longest 24 = .ok (.if_icmp .lt 10, 3) := by decide +kernel
theorem dX11_longest_27 : decode cX11_longest 27 = .ok (.iload_n 2, 1) := by decide +kernel
theorem dX11_longest_28 : decode cX11_longest 28 = .ok (.sipush 2000, 3) := by decide +kernel
theorem dX11_longest_31 : decode cX11_longest 31 = .ok (.if_icmp .le 13, 3) := by decide +kernel
theorem dX11_longest_34 : decode cX11_longest 34 = .ok (.aload_n 0, 1) := by decide +kernel
theorem dX11_longest_35 : decode cX11_longest 35 = .ok (.bipush (-6), 2) := by decide +kernel
theorem dX11_longest_37 : decode cX11_longest 37 = .ok (.invokevirtual 61, 3) := by decide +kernel
theorem dX11_longest_40 : decode cX11_longest 40 = .ok (.bipush 10, 2) := by decide +kernel
theorem dX11_longest_42 : decode cX11_longest 42 = .ok (.isub, 1) := by decide +kernel
theorem dX11_longest_43 : decode cX11_longest 43 = .ok (.ireturn, 1) := by decide +kernel
theorem dX11_longest_44 : decode cX11_longest 44 = .ok (.iconst (-1), 1) := by decide +kernel
theorem dX11_longest_45 : decode cX11_longest 45 = .ok (.istore 4, 2) := by decide +kernel
theorem dX11_longest_47 : decode cX11_longest 47 = .ok (.iconst (-1), 1) := by decide +kernel
theorem dX11_longest_48 : decode cX11_longest 48 = .ok (.istore 5, 2) := by decide +kernel
theorem dX11_longest_50 : decode cX11_longest 50 = .ok (.iconst 0, 1) := by decide +kernel
theorem dX11_longest_51 : decode cX11_longest 51 = .ok (.istore 6, 2) := by decide +kernel
theorem dX11_longest_53 : decode cX11_longest 53 = .ok (.iload 6, 2) := by decide +kernel
theorem dX11_longest_55 : decode cX11_longest 55 = .ok (.iload_n 2, 1) := by decide +kernel
theorem dX11_longest_56 : decode cX11_longest 56 = .ok (.if_icmp .ge 34, 3) := by decide +kernel
theorem dX11_longest_59 : decode cX11_longest 59 = .ok (.aload_n 0, 1) := by decide +kernel
theorem dX11_longest_60 : decode cX11_longest 60 = .ok (.aload_n 3, 1) := by decide +kernel
theorem dX11_longest_61 : decode cX11_longest 61 = .ok (.iload 6, 2) := by decide +kernel
theorem dX11_longest_63 : decode cX11_longest 63 = .ok (.i2l, 1) := by decide +kernel
theorem dX11_longest_64 : decode cX11_longest 64 = .ok (.invokevirtual 218, 3) := by decide +kernel
theorem dX11_longest_67 : decode cX11_longest 67 = .ok (.istore 7, 2) := by decide +kernel
theorem dX11_longest_69 : decode cX11_longest 69 = .ok (.iload 7, 2) := by decide +kernel
theorem dX11_longest_71 : decode cX11_longest 71 = .ok (.iload 5, 2) := by decide +kernel
theorem dX11_longest_73 : decode cX11_longest 73 = .ok (.if_icmp .le 11, 3) := by decide +kernel
theorem dX11_longest_76 : decode cX11_longest 76 = .ok (.iload 7, 2) := by decide +kernel
theorem dX11_longest_78 : decode cX11_longest 78 = .ok (.istore 5, 2) := by decide +kernel
theorem dX11_longest_80 : decode cX11_longest 80 = .ok (.iload 6, 2) := by decide +kernel
theorem dX11_longest_82 : decode cX11_longest 82 = .ok (.istore 4, 2) := by decide +kernel
theorem dX11_longest_84 : decode cX11_longest 84 = .ok (.iinc 6 1, 3) := by decide +kernel
theorem dX11_longest_87 : decode cX11_longest 87 = .ok (.goto (-34), 3) := by decide +kernel
theorem dX11_longest_90 : decode cX11_longest 90 = .ok (.iload 4, 2) := by decide +kernel
theorem dX11_longest_92 : decode cX11_longest 92 = .ok (.ireturn, 1) := by decide +kernel
theorem dX11_many_0 : decode cX11_many 0 = .ok (.aload_n 0, 1) := by decide +kernel
theorem dX11_many_1 : decode cX11_many 1 = .ok (.getfield 10, 3) := by decide +kernel
theorem dX11_many_4 : decode cX11_many 4 = .ok (.iload_n 1, 1) := by decide +kernel
theorem dX11_many_5 : decode cX11_many 5 = .ok (.invokevirtual 100, 3) := by decide +kernel
theorem dX11_many_8 : decode cX11_many 8 = .ok (.astore 5, 2) := by decide +kernel
theorem dX11_many_10 : decode cX11_many 10 = .ok (.aload 5, 2) := by decide +kernel
theorem dX11_many_12 : decode cX11_many 12 = .ok (.ifnonnull 9, 3) := by decide +kernel
theorem dX11_many_15 : decode cX11_many 15 = .ok (.aload_n 0, 1) := by decide +kernel
theorem dX11_many_16 : decode cX11_many 16 = .ok (.iconst (-1), 1) := by decide +kernel
theorem dX11_many_17 : decode cX11_many 17 = .ok (.invokevirtual 61, 3) := by decide +kernel
theorem dX11_many_20 : decode cX11_many 20 = .ok (.ireturn, 1) := by decide +kernel
theorem dX11_many_21 : decode cX11_many 21 = .ok (.iload_n 2, 1) := by decide +kernel
theorem dX11_many_22 : decode cX11_many 22 = .ok (.ifCond .lt 31, 3) := by decide +kernel
theorem dX11_many_25 : decode cX11_many 25 = .ok (.iload_n 2, 1) := by decide +kernel
theorem dX11_many_26 : decode cX11_many 26 = .ok (.iload_n 3, 1) := by decide +kernel
theorem dX11_many_27 : decode cX11_many 27 = .ok (.if_icmp .gt 26, 3) := by decide +kernel
theorem dX11_many_30 : decode cX11_many 30 = .ok (.iload_n 3, 1) := by decide +kernel
theorem dX11_many_31 : decode cX11_many 31 = .ok (.iload_n 2, 1) := by decide +kernel
theorem dX11_many_32 : decode cX11_many 32 = .ok (.isub, 1) := by decide +kernel
theorem dX11_many_33 : decode cX11_many 33 = .ok (.sipush 2000, 3) := by decide +kernel
theorem dX11_many_36 : decode cX11_many 36 = .ok (.if_icmp .ge 17, 3) := by decide +kernel
theorem dX11_many_39 : decode cX11_many 39 = .ok (.iload 4, 2) := by decide +kernel
theorem dX11_many_41 : decode cX11_many 41 = .ok (.iconst (-1), 1) := by decide +kernel
theorem dX11_many_42 : decode cX11_many 42 = .ok (.if_icmp .lt 11, 3) := by decide +kernel
theorem dX11_many_45 : decode cX11_many 45 = .ok (.iload 4, 2) := by decide +kernel
theorem dX11_many_47 : decode cX11_many 47 = .ok (.sipush 200, 3) := by decide +kernel
theorem dX11_many_50 : decode cX11_many 50 = .ok (.if_icmp .le 10, 3) := by decide +kernel
theorem dX11_many_53 : decode cX11_many 53 = .ok (.aload_n 0, 1) := by decide +kernel
theorem dX11_many_54 : decode cX11_many 54 = .ok (.bipush (-6), 2) := by decide +kernel
theorem dX11_many_56 : decode cX11_many 56 = .ok (.invokevirtual 61, 3) := by decide +kernel
theorem dX11_many_59 : decode cX11_many 59 = .ok (.ireturn, 1) := by decide +kernel
theorem dX11_many_60 : decode cX11_many 60 = .ok (.iconst 0, 1) := by decide +kernel
theorem dX11_many_61 : decode cX11_many 61 = .ok (.istore 6, 2) := by decide +kernel
theorem dX11_many_63 : decode cX11_many 63 = .ok (.iconst 0, 1) := by decide +kernel
theorem dX11_many_64 : decode cX11_many 64 = .ok (.istore 7, 2) := by decide +kernel
theorem dX11_many_66 : decode cX11_many 66 = .ok (.iload 7, 2) := by decide +kernel
theorem dX11_many_68 : decode cX11_many 68 = .ok (.iload_n 3, 1) := by decide +kernel
theorem dX11_many_69 : decode cX11_many 69 = .ok (.iload_n 2, 1) := by decide +kernel
theorem dX11_many_70 : decode cX11_many 70 = .ok (.isub, 1) := by decide +kernel
theorem dX11_many_71 : decode cX11_many 71 = .ok (.if_icmp .gt 29, 3) := by decide +kernel
theorem dX11_many_74 : decode cX11_many 74 = .ok (.aload_n 0, 1) := by decide +kernel
theorem dX11_many_75 : decode cX11_many 75 = .ok (.aload 5, 2) := by decide +kernel
theorem dX11_many_77 : decode cX11_many 77 = .ok (.iload_n 2, 1) := by decide +kernel
theorem dX11_many_78 : decode cX11_many 78 = .ok (.i2l, 1) := by decide +kernel
theorem dX11_many_79 : decode cX11_many 79 = .ok (.iload 7, 2) := by decide +kernel
theorem dX11_many_81 : decode cX11_many 81 = .ok (.i2l, 1) := by decide +kernel
theorem dX11_many_82 : decode cX11_many 82 = .ok (.ladd, 1) := by decide +kernel
theorem dX11_many_83 : decode cX11_many 83 = .ok (.invokevirtual 218, 3) := by decide +kernel
theorem dX11_many_86 : decode cX11_many 86 = .ok (.iload 4, 2) := by decide +kernel
theorem dX11_many_88 : decode cX11_many 88 = .ok (.if_icmp .ne 6, 3) := by decide +kernel
theorem dX11_many_91 : decode cX11_many 91 = .ok (.iinc 6 1, 3) := by decide +kernel
theorem dX11_many_94 : decode cX11_many 94 = .ok (.iinc 7 1, 3) := by decide +kernel
theorem dX11_many_97 : decode cX11_many 97 = .ok (.goto (-31), 3) := by decide +kernel
theorem dX11_many_100 : decode cX11_many 100 = .ok (.iload 6, 2) := by decide +kernel
theorem dX11_many_102 : decode cX11_many 102 = .ok (.ireturn, 1) := by decide +kernel
theorem dX11_rounds_0 : decode cX11_rounds 0 = .ok (.aload_n 0, 1) := by decide +kernel
theorem dX11_rounds_1 : decode cX11_rounds 1 = .ok (.getfield 10, 3) := by decide +kernel
theorem dX11_rounds_4 : decode cX11_rounds 4 = .ok (.iload_n 1, 1) := by decide +kernel
theorem dX11_rounds_5 : decode cX11_rounds 5 = .ok (.invokevirtual 100, 3) := by decide +kernel
theorem dX11_rounds_8 : decode cX11_rounds 8 = .ok (.astore_n 3, 1) := by decide +kernel
theorem dX11_rounds_9 : decode cX11_rounds 9 = .ok (.aload_n 3, 1) := by decide +kernel
theorem dX11_rounds_10 : decode cX11_rounds 10 = .ok (.ifnonnull 9, 3) := by decide +kernel
theorem dX11_rounds_13 : decode cX11_rounds 13 = .ok (.aload_n 0, 1) := by decide +kernel
theorem dX11_rounds_14 : decode cX11_rounds 14 = .ok (.iconst (-1), 1) := by decide +kernel
theorem dX11_rounds_15 : decode cX11_rounds 15 = .ok (.invokevirtual 61, 3) := by decide +kernel
theorem dX11_rounds_18 : decode cX11_rounds 18 = .ok (.ireturn, 1) := by decide +kernel
theorem dX11_rounds_19 : decode cX11_rounds 19 = .ok (.iload_n 2, 1) := by decide +kernel
theorem dX11_rounds_20 : decode cX11_rounds 20 = .ok (.iconst 1, 1) := by decide +kernel
theorem dX11_rounds_21 : decode cX11_rounds 21 = .ok (.if_icmp .lt 10, 3) := by decide +kernel
theorem dX11_rounds_24 : decode cX11_rounds 24 = .ok (.iload_n 2, 1) := by decide +kernel
theorem dX11_rounds_25 : decode cX11_rounds 25 = .ok (.sipush 500, 3) := by decide +kernel
theorem dX11_rounds_28 : decode cX11_rounds 28 = .ok (.if_icmp .le 10, 3) := by decide +kernel
theorem dX11_rounds_31 : decode cX11_rounds 31 = .ok (.aload_n 0, 1) := by decide +kernel
theorem dX11_rounds_32 : decode cX11_rounds 32 = .ok (.bipush (-6), 2) := by decide +kernel
theorem dX11_rounds_34 : decode cX11_rounds 34 = .ok (.invokevirtual 61, 3) := by decide +kernel
theorem dX11_rounds_37 : decode cX11_rounds 37 = .ok (.ireturn, 1) := by decide +kernel
theorem dX11_rounds_38 : decode cX11_rounds 38 = .ok (.iconst 0, 1) := by decide +kernel
theorem dX11_rounds_39 : decode cX11_rounds 39 = .ok (.istore 4, 2) := by decide +kernel
theorem dX11_rounds_41 : decode cX11_rounds 41 = .ok (.iconst 0, 1) := by decide +kernel
theorem dX11_rounds_42 : decode cX11_rounds 42 = .ok (.istore 5, 2) := by decide +kernel
theorem dX11_rounds_44 : decode cX11_rounds 44 = .ok (.iload 5, 2) := by decide +kernel
theorem dX11_rounds_46 : decode cX11_rounds 46 = .ok (.iload_n 2, 1) := by decide +kernel
theorem dX11_rounds_47 : decode cX11_rounds 47 = .ok (.if_icmp .ge 76, 3) := by decide +kernel
theorem dX11_rounds_50 : decode cX11_rounds 50 = .ok (.aload_n 0, 1) := by decide +kernel
theorem dX11_rounds_51 : decode cX11_rounds 51 = .ok (.aload_n 3, 1) := by decide +kernel
theorem dX11_rounds_52 : decode cX11_rounds 52 = .ok (.iload 5, 2) := by decide +kernel
theorem dX11_rounds_54 : decode cX11_rounds 54 = .ok (.i2l, 1) := by decide +kernel
theorem dX11_rounds_55 : decode cX11_rounds 55 = .ok (.invokevirtual 222, 3) := by decide +kernel
theorem dX11_rounds_58 : decode cX11_rounds 58 = .ok (.ifCond .eq 25, 3) := by decide +kernel
theorem dX11_rounds_61 : decode cX11_rounds 61 = .ok (.aload_n 0, 1) := by decide +kernel
theorem dX11_rounds_62 : decode cX11_rounds 62 = .ok (.getfield 51, 3) := by decide +kernel
theorem dX11_rounds_65 : decode cX11_rounds 65 = .ok (.iload 4, 2) := by decide +kernel
theorem dX11_rounds_67 : decode cX11_rounds 67 = .ok (.aload_n 0, 1) := by decide +kernel
theorem dX11_rounds_68 : decode cX11_rounds 68 = .ok (.getfield 48, 3) := by decide +kernel
theorem dX11_rounds_71 : decode cX11_rounds 71 = .ok (.iconst 2, 1) := by decide +kernel
theorem dX11_rounds_72 : decode cX11_rounds 72 = .ok (.laload, 1) := by decide +kernel
theorem dX11_rounds_73 : decode cX11_rounds 73 = .ok (.invokestatic 230, 3) := by decide +kernel
theorem dX11_rounds_76 : decode cX11_rounds 76 = .ok (.ifCond .ne 7, 3) := by decide +kernel
theorem dX11_rounds_79 : decode cX11_rounds 79 = .ok (.iconst 1, 1) := by decide +kernel
theorem dX11_rounds_80 : decode cX11_rounds 80 = .ok (.goto 4, 3) := by decide +kernel
theorem dX11_rounds_83 : decode cX11_rounds 83 = .ok (.iconst 0, 1) := by decide +kernel
theorem dX11_rounds_84 : decode cX11_rounds 84 = .ok (.istore 6, 2) := by decide +kernel
theorem dX11_rounds_86 : decode cX11_rounds 86 = .ok (.iload 6, 2) := by decide +kernel
theorem dX11_rounds_88 : decode cX11_rounds 88 = .ok (.ifCond .eq 29, 3) := by decide +kernel
theorem dX11_rounds_91 : decode cX11_rounds 91 = .ok (.iload 4, 2) := by decide +kernel
theorem dX11_rounds_93 : decode cX11_rounds 93 = .ok (.aload_n 0, 1) := by decide +kernel
theorem dX11_rounds_94 : decode cX11_rounds 94 = .ok (.getfield 51, 3) := by decide +kernel
theorem dX11_rounds_97 : decode cX11_rounds 97 = .ok (.arraylength, 1) := by decide +kernel
theorem dX11_rounds_98 : decode cX11_rounds 98 = .ok (.if_icmp .ge 19, 3) := by decide +kernel
theorem dX11_rounds_101 : decode cX11_rounds 101 = .ok (.aload_n 0, 1) := by decide +kernel
theorem dX11_rounds_102 : decode cX11_rounds 102 = .ok (.getfield 51, 3) := by decide +kernel
theorem dX11_rounds_105 : decode cX11_rounds 105 = .ok (.iload 4, 2) := by decide +kernel
theorem dX11_rounds_107 : decode cX11_rounds 107 = .ok (.aload_n 0, 1) := by decide +kernel
theorem dX11_rounds_108 : decode cX11_rounds 108 = .ok (.getfield 48, 3) := by decide +kernel
theorem dX11_rounds_111 : decode cX11_rounds 111 = .ok (.iconst 2, 1) := by decide +kernel
theorem dX11_rounds_112 : decode cX11_rounds 112 = .ok (.laload, 1) := by decide +kernel
theorem dX11_rounds_113 : decode cX11_rounds 113 = .ok (.lastore, 1) := by decide +kernel
theorem dX11_rounds_114 : decode cX11_rounds 114 = .ok (.iinc 4 1, 3) := by decide +kernel
theorem dX11_rounds_117 : decode cX11_rounds 117 = .ok (.iinc 5 1, 3) := by decide +kernel
theorem dX11_rounds_120 : decode cX11_rounds 120 = .ok (.goto (-76), 3) := by decide +kernel
theorem dX11_rounds_123 : decode cX11_rounds 123 = .ok (.iload 4, 2) := by decide +kernel
theorem dX11_rounds_125 : decode cX11_rounds 125 = .ok (.ireturn, 1) := by decide +kernel
theorem dX11_fit_0 : decode cX11_fit 0 = .ok (.lload_n 1, 1) := by decide +kernel
theorem dX11_fit_1 : decode cX11_fit 1 = .ok (.invokestatic 176, 3) := by decide +kernel
theorem dX11_fit_4 : decode cX11_fit 4 = .ok (.ifCond .eq 10, 3) := by decide +kernel
theorem dX11_fit_7 : decode cX11_fit 7 = .ok (.lload_n 3, 1) := by decide +kernel
theorem dX11_fit_8 : decode cX11_fit 8 = .ok (.invokestatic 176, 3) := by decide +kernel
theorem dX11_fit_11 : decode cX11_fit 11 = .ok (.ifCond .ne 10, 3) := by decide +kernel
theorem dX11_fit_14 : decode cX11_fit 14 = .ok (.aload_n 0, 1) := by decide +kernel
theorem dX11_fit_15 : decode cX11_fit 15 = .ok (.bipush (-6), 2) := by decide +kernel
theorem dX11_fit_17 : decode cX11_fit 17 = .ok (.invokevirtual 61, 3) := by decide +kernel
theorem dX11_fit_20 : decode cX11_fit 20 = .ok (.ireturn, 1) := by decide +kernel
theorem dX11_fit_21 : decode cX11_fit 21 = .ok (.iconst 0, 1) := by decide +kernel
theorem dX11_fit_22 : decode cX11_fit 22 = .ok (.istore 5, 2) := by decide +kernel
theorem dX11_fit_24 : decode cX11_fit 24 = .ok (.iconst 0, 1) := by decide +kernel
theorem dX11_fit_25 : decode cX11_fit 25 = .ok (.istore 6, 2) := by decide +kernel
theorem dX11_fit_27 : decode cX11_fit 27 = .ok (.iload 6, 2) := by decide +kernel
theorem dX11_fit_29 : decode cX11_fit 29 = .ok (.aload_n 0, 1) := by decide +kernel
theorem dX11_fit_30 : decode cX11_fit 30 = .ok (.getfield 10, 3) := by decide +kernel
theorem dX11_fit_33 : decode cX11_fit 33 = .ok (.getfield 264, 3) := by decide +kernel
theorem dX11_fit_36 : decode cX11_fit 36 = .ok (.if_icmp .ge 49, 3) := by decide +kernel
theorem dX11_fit_39 : decode cX11_fit 39 = .ok (.aload_n 0, 1) := by decide +kernel
theorem dX11_fit_40 : decode cX11_fit 40 = .ok (.getfield 10, 3) := by decide +kernel
theorem dX11_fit_43 : decode cX11_fit 43 = .ok (.iload 6, 2) := by decide +kernel
theorem dX11_fit_45 : decode cX11_fit 45 = .ok (.invokevirtual 100, 3) := by decide +kernel
theorem dX11_fit_48 : decode cX11_fit 48 = .ok (.astore 7, 2) := by decide +kernel
theorem dX11_fit_50 : decode cX11_fit 50 = .ok (.aload 7, 2) := by decide +kernel
theorem dX11_fit_52 : decode cX11_fit 52 = .ok (.ifnull 27, 3) := by decide +kernel
theorem dX11_fit_55 : decode cX11_fit 55 = .ok (.aload 7, 2) := by decide +kernel
theorem dX11_fit_57 : decode cX11_fit 57 = .ok (.lload_n 1, 1) := by decide +kernel
theorem dX11_fit_58 : decode cX11_fit 58 = .ok (.aload_n 0, 1) := by decide +kernel
theorem dX11_fit_59 : decode cX11_fit 59 = .ok (.getfield 10, 3) := by decide +kernel
theorem dX11_fit_62 : decode cX11_fit 62 = .ok (.invokevirtual 120, 3) := by decide +kernel
theorem dX11_fit_65 : decode cX11_fit 65 = .ok (.lload_n 3, 1) := by decide +kernel
theorem dX11_fit_66 : decode cX11_fit 66 = .ok (.lcmp, 1) := by decide +kernel
theorem dX11_fit_67 : decode cX11_fit 67 = .ok (.ifCond .ne 12, 3) := by decide +kernel
theorem dX11_fit_70 : decode cX11_fit 70 = .ok (.iload 5, 2) := by decide +kernel
theorem dX11_fit_72 : decode cX11_fit 72 = .ok (.iconst 1, 1) := by decide +kernel
theorem dX11_fit_73 : decode cX11_fit 73 = .ok (.iload 6, 2) := by decide +kernel
theorem dX11_fit_75 : decode cX11_fit 75 = .ok (.ishl, 1) := by decide +kernel
theorem dX11_fit_76 : decode cX11_fit 76 = .ok (.ior, 1) := by decide +kernel
theorem dX11_fit_77 : decode cX11_fit 77 = .ok (.istore 5, 2) := by decide +kernel
theorem dX11_fit_79 : decode cX11_fit 79 = .ok (.iinc 6 1, 3) := by decide +kernel
theorem dX11_fit_82 : decode cX11_fit 82 = .ok (.goto (-55), 3) := by decide +kernel
theorem dX11_fit_85 : decode cX11_fit 85 = .ok (.iload 5, 2) := by decide +kernel
theorem dX11_fit_87 : decode cX11_fit 87 = .ok (.ireturn, 1) := by decide +kernel
theorem dX11_judge_0 : decode cX11_judge 0 = .ok (.aload_n 0, 1) := by decide +kernel
theorem dX11_judge_1 : decode cX11_judge 1 = .ok (.getfield 10, 3) := by decide +kernel
theorem dX11_judge_4 : decode cX11_judge 4 = .ok (.iload_n 1, 1) := by decide +kernel
theorem dX11_judge_5 : decode cX11_judge 5 = .ok (.invokevirtual 100, 3) := by decide +kernel
theorem dX11_judge_8 : decode cX11_judge 8 = .ok (.astore 4, 2) := by decide +kernel
theorem dX11_judge_10 : decode cX11_judge 10 = .ok (.aload_n 0, 1) := by decide +kernel
theorem dX11_judge_11 : decode cX11_judge 11 = .ok (.iload_n 2, 1) := by decide +kernel
theorem dX11_judge_12 : decode cX11_judge 12 = .ok (.invokevirtual 57, 3) := by decide +kernel
theorem dX11_judge_15 : decode cX11_judge 15 = .ok (.astore 5, 2) := by decide +kernel
theorem dX11_judge_17 : decode cX11_judge 17 = .ok (.aload 4, 2) := by decide +kernel
theorem dX11_judge_19 : decode cX11_judge 19 = .ok (.ifnull 8, 3) := by decide +kernel
theorem dX11_judge_22 : decode cX11_judge 22 = .ok (.aload 5, 2) := by decide +kernel
theorem dX11_judge_24 : decode cX11_judge 24 = .ok (.ifnonnull 12, 3) := by decide +kernel
theorem dX11_judge_27 : decode cX11_judge 27 = .ok (.aload_n 0, 1) := by decide +kernel
theorem dX11_judge_28 : decode cX11_judge 28 = .ok (.iconst (-1), 1) := by decide +kernel
theorem dX11_judge_29 : decode cX11_judge 29 = .ok (.invokevirtual 61, 3) := by decide +kernel
theorem dX11_judge_32 : decode cX11_judge 32 = .ok (.bipush 10, 2) := by decide +kernel
theorem dX11_judge_34 : decode cX11_judge 34 = .ok (.isub, 1) := by decide +kernel
theorem dX11_judge_35 : decode cX11_judge 35 = .ok (.ireturn, 1) := by decide +kernel
theorem dX11_judge_36 : decode cX11_judge 36 = .ok (.aload 5, 2) := by decide +kernel
theorem dX11_judge_38 : decode cX11_judge 38 = .ok (.iload_n 3, 1) := by decide +kernel
theorem dX11_judge_39 : decode cX11_judge 39 = .ok (.invokestatic 267, 3) := by decide +kernel
theorem dX11_judge_42 : decode cX11_judge 42 = .ok (.istore 6, 2) := by decide +kernel
theorem dX11_judge_44 : decode cX11_judge 44 = .ok (.iload 6, 2) := by decide +kernel
theorem dX11_judge_46 : decode cX11_judge 46 = .ok (.ifCond .eq 15, 3) := by decide +kernel
theorem dX11_judge_49 : decode cX11_judge 49 = .ok (.aload_n 0, 1) := by decide +kernel
theorem dX11_judge_50 : decode cX11_judge 50 = .ok (.iload 6, 2) := by decide +kernel
theorem dX11_judge_52 : decode cX11_judge 52 = .ok (.invokevirtual 61, 3) := by decide +kernel
theorem dX11_judge_55 : decode cX11_judge 55 = .ok (.bipush 10, 2) := by decide +kernel
theorem dX11_judge_57 : decode cX11_judge 57 = .ok (.isub, 1) := by decide +kernel
theorem dX11_judge_58 : decode cX11_judge 58 = .ok (.goto 12, 3) := by decide +kernel
theorem dX11_judge_61 : decode cX11_judge 61 = .ok (.aload_n 0, 1) := by decide +kernel
theorem dX11_judge_62 : decode cX11_judge 62 = .ok (.aload 4, 2) := by decide +kernel
theorem dX11_judge_64 : decode cX11_judge 64 = .ok (.aload 5, 2) := by decide +kernel
theorem dX11_judge_66 : decode cX11_judge 66 = .ok (.iload_n 3, 1) := by decide +kernel
theorem dX11_judge_67 : decode cX11_judge 67 = .ok (.invokevirtual 271, 3) := by decide +kernel
theorem dX11_judge_70 : decode cX11_judge 70 = .ok (.ireturn, 1) := by decide +kernel
theorem dX11_laws_0 : decode cX11_laws 0 = .ok (.aload_n 0, 1) := by decide +kernel
theorem dX11_laws_1 : decode cX11_laws 1 = .ok (.iload_n 1, 1) := by decide +kernel
theorem dX11_laws_2 : decode cX11_laws 2 = .ok (.invokevirtual 57, 3) := by decide +kernel
theorem dX11_laws_5 : decode cX11_laws 5 = .ok (.astore_n 3, 1) := by decide +kernel
theorem dX11_laws_6 : decode cX11_laws 6 = .ok (.aload_n 3, 1) := by decide +kernel
theorem dX11_laws_7 : decode cX11_laws 7 = .ok (.ifnonnull 9, 3) := by decide +kernel
theorem dX11_laws_10 : decode cX11_laws 10 = .ok (.aload_n 0, 1) := by decide +kernel
theorem dX11_laws_11 : decode cX11_laws 11 = .ok (.iconst (-1), 1) := by decide +kernel
theorem dX11_laws_12 : decode cX11_laws 12 = .ok (.invokevirtual 61, 3) := by decide +kernel
theorem dX11_laws_15 : decode cX11_laws 15 = .ok (.ireturn, 1) := by decide +kernel
theorem dX11_laws_16 : decode cX11_laws 16 = .ok (.aload_n 3, 1) := by decide +kernel
theorem dX11_laws_17 : decode cX11_laws 17 = .ok (.iload_n 2, 1) := by decide +kernel
theorem dX11_laws_18 : decode cX11_laws 18 = .ok (.invokestatic 267, 3) := by decide +kernel
theorem dX11_laws_21 : decode cX11_laws 21 = .ok (.istore 4, 2) := by decide +kernel
theorem dX11_laws_23 : decode cX11_laws 23 = .ok (.iload 4, 2) := by decide +kernel
theorem dX11_laws_25 : decode cX11_laws 25 = .ok (.ifCond .eq 10, 3) := by decide +kernel
theorem dX11_laws_28 : decode cX11_laws 28 = .ok (.aload_n 0, 1) := by decide +kernel
theorem dX11_laws_29 : decode cX11_laws 29 = .ok (.iload 4, 2) := by decide +kernel
theorem dX11_laws_31 : decode cX11_laws 31 = .ok (.invokevirtual 61, 3) := by decide +kernel
theorem dX11_laws_34 : decode cX11_laws 34 = .ok (.ireturn, 1) := by decide +kernel
theorem dX11_laws_35 : decode cX11_laws 35 = .ok (.iconst 0, 1) := by decide +kernel
theorem dX11_laws_36 : decode cX11_laws 36 = .ok (.istore 5, 2) := by decide +kernel
theorem dX11_laws_38 : decode cX11_laws 38 = .ok (.iconst 0, 1) := by decide +kernel
theorem dX11_laws_39 : decode cX11_laws 39 = .ok (.istore 6, 2) := by decide +kernel
theorem dX11_laws_41 : decode cX11_laws 41 = .ok (.iload 6, 2) := by decide +kernel
theorem dX11_laws_43 : decode cX11_laws 43 = .ok (.aload_n 0, 1) := by decide +kernel
theorem dX11_laws_44 : decode cX11_laws 44 = .ok (.getfield 10, 3) := by decide +kernel
theorem dX11_laws_47 : decode cX11_laws 47 = .ok (.getfield 264, 3) := by decide +kernel
theorem dX11_laws_50 : decode cX11_laws 50 = .ok (.if_icmp .ge 46, 3) := by decide +kernel
theorem dX11_laws_53 : decode cX11_laws 53 = .ok (.aload_n 0, 1) := by decide +kernel
theorem dX11_laws_54 : decode cX11_laws 54 = .ok (.getfield 10, 3) := by decide +kernel
theorem dX11_laws_57 : decode cX11_laws 57 = .ok (.iload 6, 2) := by decide +kernel
theorem dX11_laws_59 : decode cX11_laws 59 = .ok (.invokevirtual 100, 3) := by decide +kernel
theorem dX11_laws_62 : decode cX11_laws 62 = .ok (.astore 7, 2) := by decide +kernel
theorem dX11_laws_64 : decode cX11_laws 64 = .ok (.aload 7, 2) := by decide +kernel
theorem dX11_laws_66 : decode cX11_laws 66 = .ok (.ifnull 24, 3) := by decide +kernel
theorem dX11_laws_69 : decode cX11_laws 69 = .ok (.aload_n 0, 1) := by decide +kernel
theorem dX11_laws_70 : decode cX11_laws 70 = .ok (.aload 7, 2) := by decide +kernel
theorem dX11_laws_72 : decode cX11_laws 72 = .ok (.aload_n 3, 1) := by decide +kernel
theorem dX11_laws_73 : decode cX11_laws 73 = .ok (.iload_n 2, 1) := by decide +kernel
theorem dX11_laws_74 : decode cX11_laws 74 = .ok (.invokevirtual 271, 3) := by decide +kernel
theorem dX11_laws_77 : decode cX11_laws 77 = .ok (.iconst (-1), 1) := by decide +kernel
theorem dX11_laws_78 : decode cX11_laws 78 = .ok (.if_icmp .ne 12, 3) := by decide +kernel
theorem dX11_laws_81 : decode cX11_laws 81 = .ok (.iload 5, 2) := by decide +kernel
theorem dX11_laws_83 : decode cX11_laws 83 = .ok (.iconst 1, 1) := by decide +kernel
theorem dX11_laws_84 : decode cX11_laws 84 = .ok (.iload 6, 2) := by decide +kernel
theorem dX11_laws_86 : decode cX11_laws 86 = .ok (.ishl, 1) := by decide +kernel
theorem dX11_laws_87 : decode cX11_laws 87 = .ok (.ior, 1) := by decide +kernel
theorem dX11_laws_88 : decode cX11_laws 88 = .ok (.istore 5, 2) := by decide +kernel
theorem dX11_laws_90 : decode cX11_laws 90 = .ok (.iinc 6 1, 3) := by decide +kernel
theorem dX11_laws_93 : decode cX11_laws 93 = .ok (.goto (-52), 3) := by decide +kernel
theorem dX11_laws_96 : decode cX11_laws 96 = .ok (.iload 5, 2) := by decide +kernel
theorem dX11_laws_98 : decode cX11_laws 98 = .ok (.ireturn, 1) := by decide +kernel
theorem dX11_refusalOfSlate_0 : decode cX11_refusalOfSlate 0 = .ok (.aload_n 0, 1) := by decide +kernel
theorem dX11_refusalOfSlate_1 : decode cX11_refusalOfSlate 1 = .ok (.invokevirtual 69, 3) := by decide +kernel
theorem dX11_refusalOfSlate_4 : decode cX11_refusalOfSlate 4 = .ok (.istore_n 2, 1) := by decide +kernel
theorem dX11_refusalOfSlate_5 : decode cX11_refusalOfSlate 5 = .ok (.iload_n 2, 1) := by decide +kernel
theorem dX11_refusalOfSlate_6 : decode cX11_refusalOfSlate 6 = .ok (.ifCond .eq 5, 3) := by decide +kernel
theorem dX11_refusalOfSlate_9 : decode cX11_refusalOfSlate 9 = .ok (.iload_n 2, 1) := by decide +kernel
theorem dX11_refusalOfSlate_10 : decode cX11_refusalOfSlate 10 = .ok (.ireturn, 1) := by decide +kernel
theorem dX11_refusalOfSlate_11 : decode cX11_refusalOfSlate 11 = .ok (.iload_n 1, 1) := by decide +kernel
theorem dX11_refusalOfSlate_12 : decode cX11_refusalOfSlate 12 = .ok (.ifCond .ge 6, 3) := by decide +kernel
theorem dX11_refusalOfSlate_15 : decode cX11_refusalOfSlate 15 = .ok (.bipush (-4), 2) := by decide +kernel
theorem dX11_refusalOfSlate_17 : decode cX11_refusalOfSlate 17 = .ok (.ireturn, 1) := by decide +kernel
theorem dX11_refusalOfSlate_18 : decode cX11_refusalOfSlate 18 = .ok (.iload_n 1, 1) := by decide +kernel
theorem dX11_refusalOfSlate_19 : decode cX11_refusalOfSlate 19 = .ok (.aload_n 0, 1) := by decide +kernel
theorem dX11_refusalOfSlate_20 : decode cX11_refusalOfSlate 20 = .ok (.getfield 275, 3) := by decide +kernel
theorem dX11_refusalOfSlate_23 : decode cX11_refusalOfSlate 23 = .ok (.if_icmp .le 6, 3) := by decide +kernel
theorem dX11_refusalOfSlate_26 : decode cX11_refusalOfSlate 26 = .ok (.bipush (-5), 2) := by decide +kernel
theorem dX11_refusalOfSlate_28 : decode cX11_refusalOfSlate 28 = .ok (.ireturn, 1) := by decide +kernel
theorem dX11_refusalOfSlate_29 : decode cX11_refusalOfSlate 29 = .ok (.iload_n 1, 1) := by decide +kernel
theorem dX11_refusalOfSlate_30 : decode cX11_refusalOfSlate 30 = .ok (.ifCond .eq 9, 3) := by decide +kernel
theorem dX11_refusalOfSlate_33 : decode cX11_refusalOfSlate 33 = .ok (.iload_n 1, 1) := by decide +kernel
theorem dX11_refusalOfSlate_34 : decode cX11_refusalOfSlate 34 = .ok (.bipush 20, 2) := by decide +kernel
theorem dX11_refusalOfSlate_36 : decode cX11_refusalOfSlate 36 = .ok (.if_icmp .le 8, 3) := by decide +kernel
theorem dX11_refusalOfSlate_39 : decode cX11_refusalOfSlate 39 = .ok (.bipush (-6), 2) := by decide +kernel
theorem dX11_refusalOfSlate_41 : decode cX11_refusalOfSlate 41 = .ok (.goto 4, 3) := by decide +kernel
theorem dX11_refusalOfSlate_44 : decode cX11_refusalOfSlate 44 = .ok (.iconst 0, 1) := by decide +kernel
theorem dX11_refusalOfSlate_45 : decode cX11_refusalOfSlate 45 = .ok (.ireturn, 1) := by decide +kernel
theorem dX11_firstWrong_0 : decode cX11_firstWrong 0 = .ok (.iconst 0, 1) := by decide +kernel
theorem dX11_firstWrong_1 : decode cX11_firstWrong 1 = .ok (.istore 4, 2) := by decide +kernel
theorem dX11_firstWrong_3 : decode cX11_firstWrong 3 = .ok (.iload 4, 2) := by decide +kernel
theorem dX11_firstWrong_5 : decode cX11_firstWrong 5 = .ok (.iload_n 3, 1) := by decide +kernel
theorem dX11_firstWrong_6 : decode cX11_firstWrong 6 = .ok (.if_icmp .ge 55, 3) := by decide +kernel
theorem dX11_firstWrong_9 : decode cX11_firstWrong 9 = .ok (.aload_n 2, 1) := by decide +kernel
theorem dX11_firstWrong_10 : decode cX11_firstWrong 10 = .ok (.iload 4, 2) := by decide +kernel
theorem dX11_firstWrong_12 : decode cX11_firstWrong 12 = .ok (.invokevirtual 96, 3) := by decide +kernel
theorem dX11_firstWrong_15 : decode cX11_firstWrong 15 = .ok (.lstore 5, 2) := by decide +kernel
theorem dX11_firstWrong_17 : decode cX11_firstWrong 17 = .ok (.lload 5, 2) := by decide +kernel
theorem dX11_firstWrong_19 : decode cX11_firstWrong 19 = .ok (.invokestatic 176, 3) := by decide +kernel
theorem dX11_firstWrong_22 : decode cX11_firstWrong 22 = .ok (.ifCond .eq 30, 3) := by decide +kernel
theorem dX11_firstWrong_25 : decode cX11_firstWrong 25 = .ok (.iload 4, 2) := by decide +kernel
theorem dX11_firstWrong_27 : decode cX11_firstWrong 27 = .ok (.ifCond .le 28, 3) := by decide +kernel
theorem dX11_firstWrong_30 : decode cX11_firstWrong 30 = .ok (.aload_n 1, 1) := by decide +kernel
theorem dX11_firstWrong_31 : decode cX11_firstWrong 31 = .ok (.aload_n 2, 1) := by decide +kernel
theorem dX11_firstWrong_32 : decode cX11_firstWrong 32 = .ok (.iload 4, 2) := by decide +kernel
theorem dX11_firstWrong_34 : decode cX11_firstWrong 34 = .ok (.iconst 1, 1) := by decide +kernel
theorem dX11_firstWrong_35 : decode cX11_firstWrong 35 = .ok (.isub, 1) := by decide +kernel
theorem dX11_firstWrong_36 : decode cX11_firstWrong 36 = .ok (.invokevirtual 96, 3) := by decide +kernel
theorem dX11_firstWrong_39 : decode cX11_firstWrong 39 = .ok (.aload_n 0, 1) := by decide +kernel
theorem dX11_firstWrong_40 : decode cX11_firstWrong 40 = .ok (.getfield 10, 3) := by decide +kernel
theorem dX11_firstWrong_43 : decode cX11_firstWrong 43 = .ok (.invokevirtual 120, 3) := by decide +kernel
theorem dX11_firstWrong_46 : decode cX11_firstWrong 46 = .ok (.lload 5, 2) := by decide +kernel
theorem dX11_firstWrong_48 : decode cX11_firstWrong 48 = .ok (.lcmp, 1) := by decide +kernel
theorem dX11_firstWrong_49 : decode cX11_firstWrong 49 = .ok (.ifCond .eq 6, 3) := by decide +kernel
theorem dX11_firstWrong_52 : decode cX11_firstWrong 52 = .ok (.iload 4, 2) := by decide +kernel
theorem dX11_firstWrong_54 : decode cX11_firstWrong 54 = .ok (.ireturn, 1) := by decide +kernel
theorem dX11_firstWrong_55 : decode cX11_firstWrong 55 = .ok (.iinc 4 1, 3) := by decide +kernel
theorem dX11_firstWrong_58 : decode cX11_firstWrong 58 = .ok (.goto (-55), 3) := by decide +kernel
theorem dX11_firstWrong_61 : decode cX11_firstWrong 61 = .ok (.iconst (-1), 1) := by decide +kernel
theorem dX11_firstWrong_62 : decode cX11_firstWrong 62 = .ok (.ireturn, 1) := by decide +kernel
theorem dX11_write_0 : decode cX11_write 0 = .ok (.lload_n 1, 1) := by decide +kernel
theorem dX11_write_1 : decode cX11_write 1 = .ok (.invokestatic 176, 3) := by decide +kernel
theorem dX11_write_4 : decode cX11_write 4 = .ok (.ifCond .ne 10, 3) := by decide +kernel
theorem dX11_write_7 : decode cX11_write 7 = .ok (.aload_n 0, 1) := by decide +kernel
theorem dX11_write_8 : decode cX11_write 8 = .ok (.bipush (-6), 2) := by decide +kernel
theorem dX11_write_10 : decode cX11_write 10 = .ok (.invokevirtual 61, 3) := by decide +kernel
theorem dX11_write_13 : decode cX11_write 13 = .ok (.ireturn, 1) := by decide +kernel
theorem dX11_write_14 : decode cX11_write 14 = .ok (.aload_n 0, 1) := by decide +kernel
theorem dX11_write_15 : decode cX11_write 15 = .ok (.getfield 10, 3) := by decide +kernel
theorem dX11_write_18 : decode cX11_write 18 = .ok (.invokevirtual 278, 3) := by decide +kernel
theorem dX11_write_21 : decode cX11_write 21 = .ok (.ifCond .eq 10, 3) := by decide +kernel
theorem dX11_write_24 : decode cX11_write 24 = .ok (.aload_n 0, 1) := by decide +kernel
theorem dX11_write_25 : decode cX11_write 25 = .ok (.bipush (-7), 2) := by decide +kernel
theorem dX11_write_27 : decode cX11_write 27 = .ok (.invokevirtual 61, 3) := by decide +kernel
theorem dX11_write_30 : decode cX11_write 30 = .ok (.ireturn, 1) := by decide +kernel
theorem dX11_write_31 : decode cX11_write 31 = .ok (.aload_n 0, 1) := by decide +kernel
theorem dX11_write_32 : decode cX11_write 32 = .ok (.getfield 10, 3) := by decide +kernel
theorem dX11_write_35 : decode cX11_write 35 = .ok (.lload_n 1, 1) := by decide +kernel
theorem dX11_write_36 : decode cX11_write 36 = .ok (.invokevirtual 281, 3) := by decide +kernel
theorem dX11_write_39 : decode cX11_write 39 = .ok (.aload_n 0, 1) := by decide +kernel
theorem dX11_write_40 : decode cX11_write 40 = .ok (.getfield 10, 3) := by decide +kernel
theorem dX11_write_43 : decode cX11_write 43 = .ok (.getfield 283, 3) := by decide +kernel
theorem dX11_write_46 : decode cX11_write 46 = .ok (.ireturn, 1) := by decide +kernel
theorem dX11_slate_0 : decode cX11_slate 0 = .ok (.iload_n 1, 1) := by decide +kernel
theorem dX11_slate_1 : decode cX11_slate 1 = .ok (.ifCond .lt 30, 3) := by decide +kernel
theorem dX11_slate_4 : decode cX11_slate 4 = .ok (.iload_n 1, 1) := by decide +kernel
theorem dX11_slate_5 : decode cX11_slate 5 = .ok (.aload_n 0, 1) := by decide +kernel
theorem dX11_slate_6 : decode cX11_slate 6 = .ok (.getfield 10, 3) := by decide +kernel
theorem dX11_slate_9 : decode cX11_slate 9 = .ok (.getfield 283, 3) := by decide +kernel
theorem dX11_slate_12 : decode cX11_slate 12 = .ok (.if_icmp .ge 19, 3) := by decide +kernel
theorem dX11_slate_15 : decode cX11_slate 15 = .ok (.iload_n 1, 1) := by decide +kernel
theorem dX11_slate_16 : decode cX11_slate 16 = .ok (.aload_n 0, 1) := by decide +kernel
theorem dX11_slate_17 : decode cX11_slate 17 = .ok (.getfield 10, 3) := by decide +kernel
theorem dX11_slate_20 : decode cX11_slate 20 = .ok (.getfield 286, 3) := by decide +kernel
theorem dX11_slate_23 : decode cX11_slate 23 = .ok (.arraylength, 1) := by decide +kernel
theorem dX11_slate_24 : decode cX11_slate 24 = .ok (.if_icmp .ge 7, 3) := by decide +kernel
theorem dX11_slate_27 : decode cX11_slate 27 = .ok (.iconst 1, 1) := by decide +kernel
theorem dX11_slate_28 : decode cX11_slate 28 = .ok (.goto 4, 3) := by decide +kernel
theorem dX11_slate_31 : decode cX11_slate 31 = .ok (.iconst 0, 1) := by decide +kernel
theorem dX11_slate_32 : decode cX11_slate 32 = .ok (.istore_n 2, 1) := by decide +kernel
theorem dX11_slate_33 : decode cX11_slate 33 = .ok (.iload_n 2, 1) := by decide +kernel
theorem dX11_slate_34 : decode cX11_slate 34 = .ok (.ifCond .eq 15, 3) := by decide +kernel
theorem dX11_slate_37 : decode cX11_slate 37 = .ok (.aload_n 0, 1) := by decide +kernel
theorem dX11_slate_38 : decode cX11_slate 38 = .ok (.getfield 10, 3) := by decide +kernel
theorem dX11_slate_41 : decode cX11_slate 41 = .ok (.getfield 286, 3) := by decide +kernel
theorem dX11_slate_44 : decode cX11_slate 44 = .ok (.iload_n 1, 1) := by decide +kernel
theorem dX11_slate_45 : decode cX11_slate 45 = .ok (.laload, 1) := by decide +kernel
theorem dX11_slate_46 : decode cX11_slate 46 = .ok (.goto 10, 3) := by decide +kernel
theorem dX11_slate_49 : decode cX11_slate 49 = .ok (.aload_n 0, 1) := by decide +kernel
theorem dX11_slate_50 : decode cX11_slate 50 = .ok (.bipush (-5), 2) := by decide +kernel
theorem dX11_slate_52 : decode cX11_slate 52 = .ok (.invokevirtual 61, 3) := by decide +kernel
theorem dX11_slate_55 : decode cX11_slate 55 = .ok (.i2l, 1) := by decide +kernel
theorem dX11_slate_56 : decode cX11_slate 56 = .ok (.lreturn, 1) := by decide +kernel
theorem dX11_on_0 : decode cX11_on 0 = .ok (.aload_n 0, 1) := by decide +kernel
theorem dX11_on_1 : decode cX11_on 1 = .ok (.getfield 10, 3) := by decide +kernel
theorem dX11_on_4 : decode cX11_on 4 = .ok (.iload_n 1, 1) := by decide +kernel
theorem dX11_on_5 : decode cX11_on 5 = .ok (.invokevirtual 100, 3) := by decide +kernel
theorem dX11_on_8 : decode cX11_on 8 = .ok (.astore_n 3, 1) := by decide +kernel
theorem dX11_on_9 : decode cX11_on 9 = .ok (.aload_n 3, 1) := by decide +kernel
theorem dX11_on_10 : decode cX11_on 10 = .ok (.ifnonnull 9, 3) := by decide +kernel
theorem dX11_on_13 : decode cX11_on 13 = .ok (.aload_n 0, 1) := by decide +kernel
theorem dX11_on_14 : decode cX11_on 14 = .ok (.iconst (-1), 1) := by decide +kernel
theorem dX11_on_15 : decode cX11_on 15 = .ok (.invokevirtual 61, 3) := by decide +kernel
theorem dX11_on_18 : decode cX11_on 18 = .ok (.ireturn, 1) := by decide +kernel
theorem dX11_on_19 : decode cX11_on 19 = .ok (.iload_n 2, 1) := by decide +kernel
theorem dX11_on_20 : decode cX11_on 20 = .ok (.iconst 1, 1) := by decide +kernel
theorem dX11_on_21 : decode cX11_on 21 = .ok (.if_icmp .lt 19, 3) := by decide +kernel
theorem dX11_on_24 : decode cX11_on 24 = .ok (.iload_n 2, 1) := by decide +kernel
theorem dX11_on_25 : decode cX11_on 25 = .ok (.bipush 20, 2) := by decide +kernel
theorem dX11_on_27 : decode cX11_on 27 = .ok (.if_icmp .gt 13, 3) := by decide +kernel
theorem dX11_on_30 : decode cX11_on 30 = .ok (.aload_n 0, 1) := by decide +kernel
theorem dX11_on_31 : decode cX11_on 31 = .ok (.getfield 10, 3) := by decide +kernel
theorem dX11_on_34 : decode cX11_on 34 = .ok (.getfield 283, 3) := by decide +kernel
theorem dX11_on_37 : decode cX11_on 37 = .ok (.ifCond .ne 10, 3) := by decide +kernel
theorem dX11_on_40 : decode cX11_on 40 = .ok (.aload_n 0, 1) := by decide +kernel
theorem dX11_on_41 : decode cX11_on 41 = .ok (.bipush (-6), 2) := by decide +kernel
theorem dX11_on_43 : decode cX11_on 43 = .ok (.invokevirtual 61, 3) := by decide +kernel
theorem dX11_on_46 : decode cX11_on 46 = .ok (.ireturn, 1) := by decide +kernel
theorem dX11_on_47 : decode cX11_on 47 = .ok (.iconst 0, 1) := by decide +kernel
theorem dX11_on_48 : decode cX11_on 48 = .ok (.istore 4, 2) := by decide +kernel
theorem dX11_on_50 : decode cX11_on 50 = .ok (.iload 4, 2) := by decide +kernel
theorem dX11_on_52 : decode cX11_on 52 = .ok (.iload_n 2, 1) := by decide +kernel
theorem dX11_on_53 : decode cX11_on 53 = .ok (.if_icmp .ge 20, 3) := by decide +kernel
theorem dX11_on_56 : decode cX11_on 56 = .ok (.aload_n 0, 1) := by decide +kernel
theorem dX11_on_57 : decode cX11_on 57 = .ok (.getfield 10, 3) := by decide +kernel
theorem dX11_on_60 : decode cX11_on 60 = .ok (.aload_n 3, 1) := by decide +kernel
theorem dX11_on_61 : decode cX11_on 61 = .ok (.invokevirtual 289, 3) := by decide +kernel
theorem dX11_on_64 : decode cX11_on 64 = .ok (.ifCond .eq 9, 3) := by decide +kernel
theorem dX11_on_67 : decode cX11_on 67 = .ok (.iinc 4 1, 3) := by decide +kernel
theorem dX11_on_70 : decode cX11_on 70 = .ok (.goto (-20), 3) := by decide +kernel
theorem dX11_on_73 : decode cX11_on 73 = .ok (.iload 4, 2) := by decide +kernel
theorem dX11_on_75 : decode cX11_on 75 = .ok (.ireturn, 1) := by decide +kernel
theorem dX11_wipe_0 : decode cX11_wipe 0 = .ok (.iload_n 1, 1) := by decide +kernel
theorem dX11_wipe_1 : decode cX11_wipe 1 = .ok (.ifCond .lt 9, 3) := by decide +kernel
theorem dX11_wipe_4 : decode cX11_wipe 4 = .ok (.iload_n 1, 1) := by decide +kernel
theorem dX11_wipe_5 : decode cX11_wipe 5 = .ok (.bipush 20, 2) := by decide +kernel
theorem dX11_wipe_7 : decode cX11_wipe 7 = .ok (.if_icmp .le 10, 3) := by decide +kernel
theorem dX11_wipe_10 : decode cX11_wipe 10 = .ok (.aload_n 0, 1) := by decide +kernel
theorem dX11_wipe_11 : decode cX11_wipe 11 = .ok (.bipush (-6), 2) := by decide +kernel
theorem dX11_wipe_13 : decode cX11_wipe 13 = .ok (.invokevirtual 61, 3) := by decide +kernel
theorem dX11_wipe_16 : decode cX11_wipe 16 = .ok (.ireturn, 1) := by decide +kernel
theorem dX11_wipe_17 : decode cX11_wipe 17 = .ok (.aload_n 0, 1) := by decide +kernel
theorem dX11_wipe_18 : decode cX11_wipe 18 = .ok (.getfield 10, 3) := by decide +kernel
theorem dX11_wipe_21 : decode cX11_wipe 21 = .ok (.iconst 0, 1) := by decide +kernel
theorem dX11_wipe_22 : decode cX11_wipe 22 = .ok (.aload_n 0, 1) := by decide +kernel
theorem dX11_wipe_23 : decode cX11_wipe 23 = .ok (.getfield 10, 3) := by decide +kernel
theorem dX11_wipe_26 : decode cX11_wipe 26 = .ok (.getfield 283, 3) := by decide +kernel
theorem dX11_wipe_29 : decode cX11_wipe 29 = .ok (.iload_n 1, 1) := by decide +kernel
theorem dX11_wipe_30 : decode cX11_wipe 30 = .ok (.isub, 1) := by decide +kernel
theorem dX11_wipe_31 : decode cX11_wipe 31 = .ok (.invokestatic 293, 3) := by decide +kernel
theorem dX11_wipe_34 : decode cX11_wipe 34 = .ok (.putfield 283, 3) := by decide +kernel
theorem dX11_wipe_37 : decode cX11_wipe 37 = .ok (.aload_n 0, 1) := by decide +kernel
theorem dX11_wipe_38 : decode cX11_wipe 38 = .ok (.getfield 10, 3) := by decide +kernel
theorem dX11_wipe_41 : decode cX11_wipe 41 = .ok (.getfield 283, 3) := by decide +kernel
theorem dX11_wipe_44 : decode cX11_wipe 44 = .ok (.ireturn, 1) := by decide +kernel
theorem dX11_lessons_0 : decode cX11_lessons 0 = .ok (.aload_n 0, 1) := by decide +kernel
theorem dX11_lessons_1 : decode cX11_lessons 1 = .ok (.getfield 10, 3) := by decide +kernel
theorem dX11_lessons_4 : decode cX11_lessons 4 = .ok (.getfield 264, 3) := by decide +kernel
theorem dX11_lessons_7 : decode cX11_lessons 7 = .ok (.ifCond .ne 10, 3) := by decide +kernel
theorem dX11_lessons_10 : decode cX11_lessons 10 = .ok (.aload_n 0, 1) := by decide +kernel
theorem dX11_lessons_11 : decode cX11_lessons 11 = .ok (.bipush (-5), 2) := by decide +kernel
theorem dX11_lessons_13 : decode cX11_lessons 13 = .ok (.invokevirtual 61, 3) := by decide +kernel
theorem dX11_lessons_16 : decode cX11_lessons 16 = .ok (.ireturn, 1) := by decide +kernel
theorem dX11_lessons_17 : decode cX11_lessons 17 = .ok (.iload_n 1, 1) := by decide +kernel
theorem dX11_lessons_18 : decode cX11_lessons 18 = .ok (.iconst 1, 1) := by decide +kernel
theorem dX11_lessons_19 : decode cX11_lessons 19 = .ok (.if_icmp .lt 9, 3) := by decide +kernel
theorem dX11_lessons_22 : decode cX11_lessons 22 = .ok (.iload_n 1, 1) := by decide +kernel
theorem dX11_lessons_23 : decode cX11_lessons 23 = .ok (.bipush 9, 2) := by decide +kernel
theorem dX11_lessons_25 : decode cX11_lessons 25 = .ok (.if_icmp .le 10, 3) := by decide +kernel
theorem dX11_lessons_28 : decode cX11_lessons 28 = .ok (.aload_n 0, 1) := by decide +kernel
theorem dX11_lessons_29 : decode cX11_lessons 29 = .ok (.bipush (-6), 2) := by decide +kernel
theorem dX11_lessons_31 : decode cX11_lessons 31 = .ok (.invokevirtual 61, 3) := by decide +kernel
theorem dX11_lessons_34 : decode cX11_lessons 34 = .ok (.ireturn, 1) := by decide +kernel
theorem dX11_lessons_35 : decode cX11_lessons 35 = .ok (.iconst 0, 1) := by decide +kernel
theorem dX11_lessons_36 : decode cX11_lessons 36 = .ok (.istore_n 2, 1) := by decide +kernel
theorem dX11_lessons_37 : decode cX11_lessons 37 = .ok (.iconst 0, 1) := by decide +kernel
theorem dX11_lessons_38 : decode cX11_lessons 38 = .ok (.istore_n 3, 1) := by decide +kernel
theorem dX11_lessons_39 : decode cX11_lessons 39 = .ok (.iload_n 3, 1) := by decide +kernel
theorem dX11_lessons_40 : decode cX11_lessons 40 = .ok (.iload_n 1, 1) := by decide +kernel
theorem dX11_lessons_41 : decode cX11_lessons 41 = .ok (.if_icmp .ge 19, 3) := by decide +kernel
theorem dX11_lessons_44 : decode cX11_lessons 44 = .ok (.aload_n 0, 1) := by decide +kernel
theorem dX11_lessons_45 : decode cX11_lessons 45 = .ok (.invokevirtual 296, 3) := by decide +kernel
theorem dX11_lessons_48 : decode cX11_lessons 48 = .ok (.ifCond .eq 6, 3) := by decide +kernel
theorem dX11_lessons_51 : decode cX11_lessons 51 = .ok (.iinc 2 1, 3) := by decide +kernel
theorem dX11_lessons_54 : decode cX11_lessons 54 = .ok (.iinc 3 1, 3) := by decide +kernel
theorem dX11_lessons_57 : decode cX11_lessons 57 = .ok (.goto (-18), 3) := by decide +kernel
theorem dX11_lessons_60 : decode cX11_lessons 60 = .ok (.iload_n 2, 1) := by decide +kernel
theorem dX11_lessons_61 : decode cX11_lessons 61 = .ok (.ireturn, 1) := by decide +kernel
theorem dX11_holdLesson_0 : decode cX11_holdLesson 0 = .ok (.aload_n 0, 1) := by decide +kernel
theorem dX11_holdLesson_1 : decode cX11_holdLesson 1 = .ok (.getfield 10, 3) := by decide +kernel
theorem dX11_holdLesson_4 : decode cX11_holdLesson 4 = .ok (.iconst 0, 1) := by decide +kernel
theorem dX11_holdLesson_5 : decode cX11_holdLesson 5 = .ok (.putfield 283, 3) := by decide +kernel
theorem dX11_holdLesson_8 : decode cX11_holdLesson 8 = .ok (.aload_n 0, 1) := by decide +kernel
theorem dX11_holdLesson_9 : decode cX11_holdLesson 9 = .ok (.getfield 10, 3) := by decide +kernel
theorem dX11_holdLesson_12 : decode cX11_holdLesson 12 = .ok (.aload_n 0, 1) := by decide +kernel
theorem dX11_holdLesson_13 : decode cX11_holdLesson 13 = .ok (.getfield 10, 3) := by decide +kernel
theorem dX11_holdLesson_16 : decode cX11_holdLesson 16 = .ok (.sipush 1000, 3) := by decide +kernel
theorem dX11_holdLesson_19 : decode cX11_holdLesson 19 = .ok (.invokevirtual 299, 3) := by decide +kernel
theorem dX11_holdLesson_22 : decode cX11_holdLesson 22 = .ok (.i2l, 1) := by decide +kernel
theorem dX11_holdLesson_23 : decode cX11_holdLesson 23 = .ok (.invokevirtual 281, 3) := by decide +kernel
theorem dX11_holdLesson_26 : decode cX11_holdLesson 26 = .ok (.aload_n 0, 1) := by decide +kernel
theorem dX11_holdLesson_27 : decode cX11_holdLesson 27 = .ok (.getfield 10, 3) := by decide +kernel
theorem dX11_holdLesson_30 : decode cX11_holdLesson 30 = .ok (.aload_n 0, 1) := by decide +kernel
theorem dX11_holdLesson_31 : decode cX11_holdLesson 31 = .ok (.getfield 10, 3) := by decide +kernel
theorem dX11_holdLesson_34 : decode cX11_holdLesson 34 = .ok (.aload_n 0, 1) := by decide +kernel
theorem dX11_holdLesson_35 : decode cX11_holdLesson 35 = .ok (.getfield 10, 3) := by decide +kernel
theorem dX11_holdLesson_38 : decode cX11_holdLesson 38 = .ok (.getfield 264, 3) := by decide +kernel
theorem dX11_holdLesson_41 : decode cX11_holdLesson 41 = .ok (.invokevirtual 299, 3) := by decide +kernel
theorem dX11_holdLesson_44 : decode cX11_holdLesson 44 = .ok (.invokevirtual 100, 3) := by decide +kernel
theorem dX11_holdLesson_47 : decode cX11_holdLesson 47 = .ok (.astore_n 1, 1) := by decide +kernel
theorem dX11_holdLesson_48 : decode cX11_holdLesson 48 = .ok (.aload_n 1, 1) := by decide +kernel
theorem dX11_holdLesson_49 : decode cX11_holdLesson 49 = .ok (.ifnonnull 5, 3) := by decide +kernel
theorem dX11_holdLesson_52 : decode cX11_holdLesson 52 = .ok (.iconst 0, 1) := by decide +kernel
theorem dX11_holdLesson_53 : decode cX11_holdLesson 53 = .ok (.ireturn, 1) := by decide +kernel
theorem dX11_holdLesson_54 : decode cX11_holdLesson 54 = .ok (.iconst 0, 1) := by decide +kernel
theorem dX11_holdLesson_55 : decode cX11_holdLesson 55 = .ok (.istore_n 2, 1) := by decide +kernel
theorem dX11_holdLesson_56 : decode cX11_holdLesson 56 = .ok (.iload_n 2, 1) := by decide +kernel
theorem dX11_holdLesson_57 : decode cX11_holdLesson 57 = .ok (.bipush 20, 2) := by decide +kernel
theorem dX11_holdLesson_59 : decode cX11_holdLesson 59 = .ok (.if_icmp .ge 38, 3) := by decide +kernel
theorem dX11_holdLesson_62 : decode cX11_holdLesson 62 = .ok (.aload_n 0, 1) := by decide +kernel
theorem dX11_holdLesson_63 : decode cX11_holdLesson 63 = .ok (.aload_n 0, 1) := by decide +kernel
theorem dX11_holdLesson_64 : decode cX11_holdLesson 64 = .ok (.getfield 10, 3) := by decide +kernel
theorem dX11_holdLesson_67 : decode cX11_holdLesson 67 = .ok (.invokevirtual 302, 3) := by decide +kernel
theorem dX11_holdLesson_70 : decode cX11_holdLesson 70 = .ok (.invokevirtual 194, 3) := by decide +kernel
theorem dX11_holdLesson_73 : decode cX11_holdLesson 73 = .ok (.ifCond .eq 5, 3) := by decide +kernel
theorem dX11_holdLesson_76 : decode cX11_holdLesson 76 = .ok (.iconst 1, 1) := by decide +kernel
theorem dX11_holdLesson_77 : decode cX11_holdLesson 77 = .ok (.ireturn, 1) := by decide +kernel
theorem dX11_holdLesson_78 : decode cX11_holdLesson 78 = .ok (.aload_n 0, 1) := by decide +kernel
theorem dX11_holdLesson_79 : decode cX11_holdLesson 79 = .ok (.getfield 10, 3) := by decide +kernel
theorem dX11_holdLesson_82 : decode cX11_holdLesson 82 = .ok (.aload_n 1, 1) := by decide +kernel
theorem dX11_holdLesson_83 : decode cX11_holdLesson 83 = .ok (.invokevirtual 289, 3) := by decide +kernel
theorem dX11_holdLesson_86 : decode cX11_holdLesson 86 = .ok (.ifCond .ne 5, 3) := by decide +kernel
theorem dX11_holdLesson_89 : decode cX11_holdLesson 89 = .ok (.iconst 0, 1) := by decide +kernel
theorem dX11_holdLesson_90 : decode cX11_holdLesson 90 = .ok (.ireturn, 1) := by decide +kernel
theorem dX11_holdLesson_91 : decode cX11_holdLesson 91 = .ok (.iinc 2 1, 3) := by decide +kernel
theorem dX11_holdLesson_94 : decode cX11_holdLesson 94 = .ok (.goto (-38), 3) := by decide +kernel
theorem dX11_holdLesson_97 : decode cX11_holdLesson 97 = .ok (.iconst 0, 1) := by decide +kernel
theorem dX11_holdLesson_98 : decode cX11_holdLesson 98 = .ok (.ireturn, 1) := by decide +kernel
theorem dX11_seed_0 : decode cX11_seed 0 = .ok (.aload_n 0, 1) := by decide +kernel
theorem dX11_seed_1 : decode cX11_seed 1 = .ok (.getfield 10, 3) := by decide +kernel
theorem dX11_seed_4 : decode cX11_seed 4 = .ok (.getfield 306, 3) := by decide +kernel
theorem dX11_seed_7 : decode cX11_seed 7 = .ok (.istore_n 2, 1) := by decide +kernel
theorem dX11_seed_8 : decode cX11_seed 8 = .ok (.aload_n 0, 1) := by decide +kernel
theorem dX11_seed_9 : decode cX11_seed 9 = .ok (.getfield 10, 3) := by decide +kernel
theorem dX11_seed_12 : decode cX11_seed 12 = .ok (.iload_n 1, 1) := by decide +kernel
theorem dX11_seed_13 : decode cX11_seed 13 = .ok (.putfield 306, 3) := by decide +kernel
theorem dX11_seed_16 : decode cX11_seed 16 = .ok (.iload_n 2, 1) := by decide +kernel
theorem dX11_seed_17 : decode cX11_seed 17 = .ok (.ireturn, 1) := by decide +kernel
theorem dX11_act_0 : decode cX11_act 0 = .ok (.aload_n 0, 1) := by decide +kernel
theorem dX11_act_1 : decode cX11_act 1 = .ok (.getfield 41, 3) := by decide +kernel
theorem dX11_act_4 : decode cX11_act 4 = .ok (.iconst 0, 1) := by decide +kernel
theorem dX11_act_5 : decode cX11_act 5 = .ok (.invokestatic 309, 3) := by decide +kernel
theorem dX11_act_8 : decode cX11_act 8 = .ok (.aload_n 0, 1) := by decide +kernel
theorem dX11_act_9 : decode cX11_act 9 = .ok (.getfield 10, 3) := by decide +kernel
theorem dX11_act_12 : decode cX11_act 12 = .ok (.iload_n 1, 1) := by decide +kernel
theorem dX11_act_13 : decode cX11_act 13 = .ok (.invokevirtual 100, 3) := by decide +kernel
theorem dX11_act_16 : decode cX11_act 16 = .ok (.astore 4, 2) := by decide +kernel
theorem dX11_act_18 : decode cX11_act 18 = .ok (.aload 4, 2) := by decide +kernel
theorem dX11_act_20 : decode cX11_act 20 = .ok (.ifnonnull 5, 3) := by decide +kernel
theorem dX11_act_23 : decode cX11_act 23 = .ok (.iconst 0, 1) := by decide +kernel
theorem dX11_act_24 : decode cX11_act 24 = .ok (.ireturn, 1) := by decide +kernel
theorem dX11_act_25 : decode cX11_act 25 = .ok (.iload_n 2, 1) := by decide +kernel
theorem dX11_act_26 : decode cX11_act 26 = .ok (.tableswitch 59 0 2 #[26, 37, 48], 26) := by decide +kernel
theorem dX11_act_52 : decode cX11_act 52 = .ok (.aload 4, 2) := by decide +kernel
theorem dX11_act_54 : decode cX11_act 54 = .ok (.iload_n 3, 1) := by decide +kernel
theorem dX11_act_55 : decode cX11_act 55 = .ok (.aload_n 0, 1) := by decide +kernel
theorem dX11_act_56 : decode cX11_act 56 = .ok (.getfield 41, 3) := by decide +kernel
theorem dX11_act_59 : decode cX11_act 59 = .ok (.invokevirtual 312, 3) := by decide +kernel
theorem dX11_act_62 : decode cX11_act 62 = .ok (.ireturn, 1) := by decide +kernel
theorem dX11_act_63 : decode cX11_act 63 = .ok (.aload 4, 2) := by decide +kernel
theorem dX11_act_65 : decode cX11_act 65 = .ok (.iload_n 3, 1) := by decide +kernel
theorem dX11_act_66 : decode cX11_act 66 = .ok (.aload_n 0, 1) := by decide +kernel
theorem dX11_act_67 : decode cX11_act 67 = .ok (.getfield 41, 3) := by decide +kernel
theorem dX11_act_70 : decode cX11_act 70 = .ok (.invokevirtual 316, 3) := by decide +kernel
theorem dX11_act_73 : decode cX11_act 73 = .ok (.ireturn, 1) := by decide +kernel
theorem dX11_act_74 : decode cX11_act 74 = .ok (.aload 4, 2) := by decide +kernel
theorem dX11_act_76 : decode cX11_act 76 = .ok (.iload_n 3, 1) := by decide +kernel
theorem dX11_act_77 : decode cX11_act 77 = .ok (.aload_n 0, 1) := by decide +kernel
theorem dX11_act_78 : decode cX11_act 78 = .ok (.getfield 41, 3) := by decide +kernel
theorem dX11_act_81 : decode cX11_act 81 = .ok (.invokevirtual 319, 3) := by decide +kernel
theorem dX11_act_84 : decode cX11_act 84 = .ok (.ireturn, 1) := by decide +kernel
theorem dX11_act_85 : decode cX11_act 85 = .ok (.iconst 0, 1) := by decide +kernel
theorem dX11_act_86 : decode cX11_act 86 = .ok (.ireturn, 1) := by decide +kernel
theorem dX11_trace_0 : decode cX11_trace 0 = .ok (.iload_n 1, 1) := by decide +kernel
theorem dX11_trace_1 : decode cX11_trace 1 = .ok (.ifCond .lt 23, 3) := by decide +kernel
theorem dX11_trace_4 : decode cX11_trace 4 = .ok (.iload_n 1, 1) := by decide +kernel
theorem dX11_trace_5 : decode cX11_trace 5 = .ok (.aload_n 0, 1) := by decide +kernel
theorem dX11_trace_6 : decode cX11_trace 6 = .ok (.getfield 41, 3) := by decide +kernel
theorem dX11_trace_9 : decode cX11_trace 9 = .ok (.iconst 0, 1) := by decide +kernel
theorem dX11_trace_10 : decode cX11_trace 10 = .ok (.iaload, 1) := by decide +kernel
theorem dX11_trace_11 : decode cX11_trace 11 = .ok (.if_icmp .ge 13, 3) := by decide +kernel
theorem dX11_trace_14 : decode cX11_trace 14 = .ok (.iload_n 1, 1) := by decide +kernel
theorem dX11_trace_15 : decode cX11_trace 15 = .ok (.bipush 20, 2) := by decide +kernel
theorem dX11_trace_17 : decode cX11_trace 17 = .ok (.if_icmp .ge 7, 3) := by decide +kernel
theorem dX11_trace_20 : decode cX11_trace 20 = .ok (.iconst 1, 1) := by decide +kernel
theorem dX11_trace_21 : decode cX11_trace 21 = .ok (.goto 4, 3) := by decide +kernel
theorem dX11_trace_24 : decode cX11_trace 24 = .ok (.iconst 0, 1) := by decide +kernel
theorem dX11_trace_25 : decode cX11_trace 25 = .ok (.istore_n 2, 1) := by decide +kernel
theorem dX11_trace_26 : decode cX11_trace 26 = .ok (.iload_n 2, 1) := by decide +kernel
theorem dX11_trace_27 : decode cX11_trace 27 = .ok (.ifCond .eq 14, 3) := by decide +kernel
theorem dX11_trace_30 : decode cX11_trace 30 = .ok (.aload_n 0, 1) := by decide +kernel
theorem dX11_trace_31 : decode cX11_trace 31 = .ok (.getfield 41, 3) := by decide +kernel
theorem dX11_trace_34 : decode cX11_trace 34 = .ok (.iload_n 1, 1) := by decide +kernel
theorem dX11_trace_35 : decode cX11_trace 35 = .ok (.iconst 1, 1) := by decide +kernel
theorem dX11_trace_36 : decode cX11_trace 36 = .ok (.iadd, 1) := by decide +kernel
theorem dX11_trace_37 : decode cX11_trace 37 = .ok (.iaload, 1) := by decide +kernel
theorem dX11_trace_38 : decode cX11_trace 38 = .ok (.goto 4, 3) := by decide +kernel
theorem dX11_trace_41 : decode cX11_trace 41 = .ok (.iconst (-1), 1) := by decide +kernel
theorem dX11_trace_42 : decode cX11_trace 42 = .ok (.ireturn, 1) := by decide +kernel
theorem dX11_image_0 : decode cX11_image 0 = .ok (.aload_n 0, 1) := by decide +kernel
theorem dX11_image_1 : decode cX11_image 1 = .ok (.getfield 16, 3) := by decide +kernel
theorem dX11_image_4 : decode cX11_image 4 = .ok (.aload_n 0, 1) := by decide +kernel
theorem dX11_image_5 : decode cX11_image 5 = .ok (.getfield 10, 3) := by decide +kernel
theorem dX11_image_8 : decode cX11_image 8 = .ok (.invokevirtual 172, 3) := by decide +kernel
theorem dX11_image_11 : decode cX11_image 11 = .ok (.aload_n 0, 1) := by decide +kernel
theorem dX11_image_12 : decode cX11_image 12 = .ok (.iconst 1, 1) := by decide +kernel
theorem dX11_image_13 : decode cX11_image 13 = .ok (.putfield 322, 3) := by decide +kernel
theorem dX11_image_16 : decode cX11_image 16 = .ok (.aload_n 0, 1) := by decide +kernel
theorem dX11_image_17 : decode cX11_image 17 = .ok (.getfield 10, 3) := by decide +kernel
theorem dX11_image_20 : decode cX11_image 20 = .ok (.getfield 264, 3) := by decide +kernel
theorem dX11_image_23 : decode cX11_image 23 = .ok (.ireturn, 1) := by decide +kernel
theorem dX11_restore_0 : decode cX11_restore 0 = .ok (.aload_n 0, 1) := by decide +kernel
theorem dX11_restore_1 : decode cX11_restore 1 = .ok (.getfield 322, 3) := by decide +kernel
theorem dX11_restore_4 : decode cX11_restore 4 = .ok (.ifCond .ne 10, 3) := by decide +kernel
theorem dX11_restore_7 : decode cX11_restore 7 = .ok (.aload_n 0, 1) := by decide +kernel
theorem dX11_restore_8 : decode cX11_restore 8 = .ok (.bipush (-6), 2) := by decide +kernel
theorem dX11_restore_10 : decode cX11_restore 10 = .ok (.invokevirtual 61, 3) := by decide +kernel
theorem dX11_restore_13 : decode cX11_restore 13 = .ok (.ireturn, 1) := by decide +kernel
theorem dX11_restore_14 : decode cX11_restore 14 = .ok (.aload_n 0, 1) := by decide +kernel
theorem dX11_restore_15 : decode cX11_restore 15 = .ok (.getfield 10, 3) := by decide +kernel
theorem dX11_restore_18 : decode cX11_restore 18 = .ok (.aload_n 0, 1) := by decide +kernel
theorem dX11_restore_19 : decode cX11_restore 19 = .ok (.getfield 16, 3) := by decide +kernel
theorem dX11_restore_22 : decode cX11_restore 22 = .ok (.invokevirtual 172, 3) := by decide +kernel
theorem dX11_restore_25 : decode cX11_restore 25 = .ok (.iconst 0, 1) := by decide +kernel
theorem dX11_restore_26 : decode cX11_restore 26 = .ok (.istore_n 1, 1) := by decide +kernel
theorem dX11_restore_27 : decode cX11_restore 27 = .ok (.iload_n 1, 1) := by decide +kernel
theorem dX11_restore_28 : decode cX11_restore 28 = .ok (.aload_n 0, 1) := by decide +kernel
theorem dX11_restore_29 : decode cX11_restore 29 = .ok (.getfield 21, 3) := by decide +kernel
theorem dX11_restore_32 : decode cX11_restore 32 = .ok (.arraylength, 1) := by decide +kernel
theorem dX11_restore_33 : decode cX11_restore 33 = .ok (.if_icmp .ge 39, 3) := by decide +kernel
theorem dX11_restore_36 : decode cX11_restore 36 = .ok (.aload_n 0, 1) := by decide +kernel
theorem dX11_restore_37 : decode cX11_restore 37 = .ok (.getfield 21, 3) := by decide +kernel
theorem dX11_restore_40 : decode cX11_restore 40 = .ok (.iload_n 1, 1) := by decide +kernel
theorem dX11_restore_41 : decode cX11_restore 41 = .ok (.aaload, 1) := by decide +kernel
theorem dX11_restore_42 : decode cX11_restore 42 = .ok (.astore_n 2, 1) := by decide +kernel
theorem dX11_restore_43 : decode cX11_restore 43 = .ok (.aload_n 2, 1) := by decide +kernel
theorem dX11_restore_44 : decode cX11_restore 44 = .ok (.ifnull 22, 3) := by decide +kernel
theorem dX11_restore_47 : decode cX11_restore 47 = .ok (.aload_n 2, 1) := by decide +kernel
theorem dX11_restore_48 : decode cX11_restore 48 = .ok (.getfield 84, 3) := by decide +kernel
theorem dX11_restore_51 : decode cX11_restore 51 = .ok (.aload_n 0, 1) := by decide +kernel
theorem dX11_restore_52 : decode cX11_restore 52 = .ok (.getfield 10, 3) := by decide +kernel
theorem dX11_restore_55 : decode cX11_restore 55 = .ok (.getfield 264, 3) := by decide +kernel
theorem dX11_restore_58 : decode cX11_restore 58 = .ok (.if_icmp .lt 8, 3) := by decide +kernel
theorem dX11_restore_61 : decode cX11_restore 61 = .ok (.aload_n 2, 1) := by decide +kernel
theorem dX11_restore_62 : decode cX11_restore 62 = .ok (.iconst (-1), 1) := by decide +kernel
theorem dX11_restore_63 : decode cX11_restore 63 = .ok (.invokevirtual 104, 3) := by decide +kernel
theorem dX11_restore_66 : decode cX11_restore 66 = .ok (.iinc 1 1, 3) := by decide +kernel
theorem dX11_restore_69 : decode cX11_restore 69 = .ok (.goto (-42), 3) := by decide +kernel
theorem dX11_restore_72 : decode cX11_restore 72 = .ok (.aload_n 0, 1) := by decide +kernel
theorem dX11_restore_73 : decode cX11_restore 73 = .ok (.getfield 10, 3) := by decide +kernel
theorem dX11_restore_76 : decode cX11_restore 76 = .ok (.getfield 264, 3) := by decide +kernel
theorem dX11_restore_79 : decode cX11_restore 79 = .ok (.ireturn, 1) := by decide +kernel
theorem dX11_status_0 : decode cX11_status 0 = .ok (.iload_n 1, 1) := by decide +kernel
theorem dX11_status_1 : decode cX11_status 1 = .ok (.tableswitch 74 0 4 #[35, 43, 51, 59, 67], 35) := by decide +kernel
theorem dX11_status_36 : decode cX11_status 36 = .ok (.aload_n 0, 1) := by decide +kernel
theorem dX11_status_37 : decode cX11_status 37 = .ok (.getfield 10, 3) := by decide +kernel
theorem dX11_status_40 : decode cX11_status 40 = .ok (.getfield 264, 3) := by decide +kernel
theorem dX11_status_43 : decode cX11_status 43 = .ok (.ireturn, 1) := by decide +kernel
theorem dX11_status_44 : decode cX11_status 44 = .ok (.aload_n 0, 1) := by decide +kernel
theorem dX11_status_45 : decode cX11_status 45 = .ok (.getfield 10, 3) := by decide +kernel
theorem dX11_status_48 : decode cX11_status 48 = .ok (.getfield 283, 3) := by decide +kernel
theorem dX11_status_51 : decode cX11_status 51 = .ok (.ireturn, 1) := by decide +kernel
theorem dX11_status_52 : decode cX11_status 52 = .ok (.aload_n 0, 1) := by decide +kernel
theorem dX11_status_53 : decode cX11_status 53 = .ok (.getfield 10, 3) := by decide +kernel
theorem dX11_status_56 : decode cX11_status 56 = .ok (.getfield 141, 3) := by decide +kernel
theorem dX11_status_59 : decode cX11_status 59 = .ok (.ireturn, 1) := by decide +kernel
theorem dX11_status_60 : decode cX11_status 60 = .ok (.aload_n 0, 1) := by decide +kernel
theorem dX11_status_61 : decode cX11_status 61 = .ok (.getfield 10, 3) := by decide +kernel
theorem dX11_status_64 : decode cX11_status 64 = .ok (.getfield 306, 3) := by decide +kernel
theorem dX11_status_67 : decode cX11_status 67 = .ok (.ireturn, 1) := by decide +kernel
theorem dX11_status_68 : decode cX11_status 68 = .ok (.aload_n 0, 1) := by decide +kernel
theorem dX11_status_69 : decode cX11_status 69 = .ok (.getfield 41, 3) := by decide +kernel
theorem dX11_status_72 : decode cX11_status 72 = .ok (.iconst 0, 1) := by decide +kernel
theorem dX11_status_73 : decode cX11_status 73 = .ok (.iaload, 1) := by decide +kernel
theorem dX11_status_74 : decode cX11_status 74 = .ok (.ireturn, 1) := by decide +kernel
theorem dX11_status_75 : decode cX11_status 75 = .ok (.iload_n 1, 1) := by decide +kernel
theorem dX11_status_76 : decode cX11_status 76 = .ok (.bipush 10, 2) := by decide +kernel
theorem dX11_status_78 : decode cX11_status 78 = .ok (.if_icmp .le 19, 3) := by decide +kernel
theorem dX11_status_81 : decode cX11_status 81 = .ok (.iload_n 1, 1) := by decide +kernel
theorem dX11_status_82 : decode cX11_status 82 = .ok (.bipush 10, 2) := by decide +kernel
theorem dX11_status_84 : decode cX11_status 84 = .ok (.aload_n 0, 1) := by decide +kernel
theorem dX11_status_85 : decode cX11_status 85 = .ok (.getfield 26, 3) := by decide +kernel
theorem dX11_status_88 : decode cX11_status 88 = .ok (.arraylength, 1) := by decide +kernel
theorem dX11_status_89 : decode cX11_status 89 = .ok (.iadd, 1) := by decide +kernel
theorem dX11_status_90 : decode cX11_status 90 = .ok (.if_icmp .gt 7, 3) := by decide +kernel
theorem dX11_status_93 : decode cX11_status 93 = .ok (.iconst 1, 1) := by decide +kernel
theorem dX11_status_94 : decode cX11_status 94 = .ok (.goto 4, 3) := by decide +kernel
theorem dX11_status_97 : decode cX11_status 97 = .ok (.iconst 0, 1) := by decide +kernel
theorem dX11_status_98 : decode cX11_status 98 = .ok (.istore_n 2, 1) := by decide +kernel
theorem dX11_status_99 : decode cX11_status 99 = .ok (.iload_n 2, 1) := by decide +kernel
theorem dX11_status_100 : decode cX11_status 100 = .ok (.ifCond .eq 15, 3) := by decide +kernel
theorem dX11_status_103 : decode cX11_status 103 = .ok (.aload_n 0, 1) := by decide +kernel
theorem dX11_status_104 : decode cX11_status 104 = .ok (.getfield 26, 3) := by decide +kernel
theorem dX11_status_107 : decode cX11_status 107 = .ok (.iload_n 1, 1) := by decide +kernel
theorem dX11_status_108 : decode cX11_status 108 = .ok (.bipush 11, 2) := by decide +kernel
theorem dX11_status_110 : decode cX11_status 110 = .ok (.isub, 1) := by decide +kernel
theorem dX11_status_111 : decode cX11_status 111 = .ok (.iaload, 1) := by decide +kernel
theorem dX11_status_112 : decode cX11_status 112 = .ok (.goto 4, 3) := by decide +kernel
theorem dX11_status_115 : decode cX11_status 115 = .ok (.iconst (-1), 1) := by decide +kernel
theorem dX11_status_116 : decode cX11_status 116 = .ok (.ireturn, 1) := by decide +kernel
theorem dX11_refuse_0 : decode cX11_refuse 0 = .ok (.iload_n 1, 1) := by decide +kernel
theorem dX11_refuse_1 : decode cX11_refuse 1 = .ok (.ineg, 1) := by decide +kernel
theorem dX11_refuse_2 : decode cX11_refuse 2 = .ok (.iconst 1, 1) := by decide +kernel
theorem dX11_refuse_3 : decode cX11_refuse 3 = .ok (.isub, 1) := by decide +kernel
theorem dX11_refuse_4 : decode cX11_refuse 4 = .ok (.istore_n 2, 1) := by decide +kernel
theorem dX11_refuse_5 : decode cX11_refuse 5 = .ok (.iload_n 2, 1) := by decide +kernel
theorem dX11_refuse_6 : decode cX11_refuse 6 = .ok (.ifCond .lt 22, 3) := by decide +kernel
theorem dX11_refuse_9 : decode cX11_refuse 9 = .ok (.iload_n 2, 1) := by decide +kernel
theorem dX11_refuse_10 : decode cX11_refuse 10 = .ok (.aload_n 0, 1) := by decide +kernel
theorem dX11_refuse_11 : decode cX11_refuse 11 = .ok (.getfield 26, 3) := by decide +kernel
theorem dX11_refuse_14 : decode cX11_refuse 14 = .ok (.arraylength, 1) := by decide +kernel
theorem dX11_refuse_15 : decode cX11_refuse 15 = .ok (.if_icmp .ge 13, 3) := by decide +kernel
theorem dX11_refuse_18 : decode cX11_refuse 18 = .ok (.aload_n 0, 1) := by decide +kernel
theorem dX11_refuse_19 : decode cX11_refuse 19 = .ok (.getfield 26, 3) := by decide +kernel
theorem dX11_refuse_22 : decode cX11_refuse 22 = .ok (.iload_n 2, 1) := by decide +kernel
theorem dX11_refuse_23 : decode cX11_refuse 23 = .ok (.dup2, 1) := by decide +kernel
theorem dX11_refuse_24 : decode cX11_refuse 24 = .ok (.iaload, 1) := by decide +kernel
theorem dX11_refuse_25 : decode cX11_refuse 25 = .ok (.iconst 1, 1) := by decide +kernel
theorem dX11_refuse_26 : decode cX11_refuse 26 = .ok (.iadd, 1) := by decide +kernel
theorem dX11_refuse_27 : decode cX11_refuse 27 = .ok (.iastore, 1) := by decide +kernel
theorem dX11_refuse_28 : decode cX11_refuse 28 = .ok (.iload_n 1, 1) := by decide +kernel
theorem dX11_refuse_29 : decode cX11_refuse 29 = .ok (.ireturn, 1) := by decide +kernel
theorem dJ9_abs_067f4_0 : decode cJ9_abs_067f4 0 = .ok (.lload_n 0, 1) := by decide +kernel
theorem dJ9_abs_067f4_1 : decode cJ9_abs_067f4 1 = .ok (.lconst 0, 1) := by decide +kernel
theorem dJ9_abs_067f4_2 : decode cJ9_abs_067f4 2 = .ok (.lcmp, 1) := by decide +kernel
theorem dJ9_abs_067f4_3 : decode cJ9_abs_067f4 3 = .ok (.ifCond .ge 8, 3) := by decide +kernel
theorem dJ9_abs_067f4_6 : decode cJ9_abs_067f4 6 = .ok (.lload_n 0, 1) := by decide +kernel
theorem dJ9_abs_067f4_7 : decode cJ9_abs_067f4 7 = .ok (.lneg, 1) := by decide +kernel
theorem dJ9_abs_067f4_8 : decode cJ9_abs_067f4 8 = .ok (.goto 4, 3) := by decide +kernel
theorem dJ9_abs_067f4_11 : decode cJ9_abs_067f4 11 = .ok (.lload_n 0, 1) := by decide +kernel
theorem dJ9_abs_067f4_12 : decode cJ9_abs_067f4 12 = .ok (.lreturn, 1) := by decide +kernel
theorem dJ9_max_7cf53_0 : decode cJ9_max_7cf53 0 = .ok (.iload_n 0, 1) := by decide +kernel
theorem dJ9_max_7cf53_1 : decode cJ9_max_7cf53 1 = .ok (.iload_n 1, 1) := by decide +kernel
theorem dJ9_max_7cf53_2 : decode cJ9_max_7cf53 2 = .ok (.if_icmp .lt 7, 3) := by decide +kernel
theorem dJ9_max_7cf53_5 : decode cJ9_max_7cf53 5 = .ok (.iload_n 0, 1) := by decide +kernel
theorem dJ9_max_7cf53_6 : decode cJ9_max_7cf53 6 = .ok (.goto 4, 3) := by decide +kernel
theorem dJ9_max_7cf53_9 : decode cJ9_max_7cf53 9 = .ok (.iload_n 1, 1) := by decide +kernel
theorem dJ9_max_7cf53_10 : decode cJ9_max_7cf53 10 = .ok (.ireturn, 1) := by decide +kernel
theorem dJ9_min_f86c9_0 : decode cJ9_min_f86c9 0 = .ok (.lload_n 0, 1) := by decide +kernel
theorem dJ9_min_f86c9_1 : decode cJ9_min_f86c9 1 = .ok (.lload_n 2, 1) := by decide +kernel
theorem dJ9_min_f86c9_2 : decode cJ9_min_f86c9 2 = .ok (.lcmp, 1) := by decide +kernel
theorem dJ9_min_f86c9_3 : decode cJ9_min_f86c9 3 = .ok (.ifCond .gt 7, 3) := by decide +kernel
theorem dJ9_min_f86c9_6 : decode cJ9_min_f86c9 6 = .ok (.lload_n 0, 1) := by decide +kernel
theorem dJ9_min_f86c9_7 : decode cJ9_min_f86c9 7 = .ok (.goto 4, 3) := by decide +kernel
theorem dJ9_min_f86c9_10 : decode cJ9_min_f86c9 10 = .ok (.lload_n 2, 1) := by decide +kernel
theorem dJ9_min_f86c9_11 : decode cJ9_min_f86c9 11 = .ok (.lreturn, 1) := by decide +kernel
theorem dJ0_length_8abf5_0 : decode cJ0_length_8abf5 0 = .ok (.aload_n 0, 1) := by decide +kernel
theorem dJ0_length_8abf5_1 : decode cJ0_length_8abf5 1 = .ok (.getfield 9, 3) := by decide +kernel
theorem dJ0_length_8abf5_4 : decode cJ0_length_8abf5 4 = .ok (.arraylength, 1) := by decide +kernel
theorem dJ0_length_8abf5_5 : decode cJ0_length_8abf5 5 = .ok (.aload_n 0, 1) := by decide +kernel
theorem dJ0_length_8abf5_6 : decode cJ0_length_8abf5 6 = .ok (.invokevirtual 335, 3) := by decide +kernel
theorem dJ0_length_8abf5_9 : decode cJ0_length_8abf5 9 = .ok (.ishr, 1) := by decide +kernel
theorem dJ0_length_8abf5_10 : decode cJ0_length_8abf5 10 = .ok (.ireturn, 1) := by decide +kernel
theorem dJ0_charAt_5068e_0 : decode cJ0_charAt_5068e 0 = .ok (.aload_n 0, 1) := by decide +kernel
theorem dJ0_charAt_5068e_1 : decode cJ0_charAt_5068e 1 = .ok (.invokevirtual 492, 3) := by decide +kernel
theorem dJ0_charAt_5068e_4 : decode cJ0_charAt_5068e 4 = .ok (.ifCond .eq 12, 3) := by decide +kernel
theorem dJ0_charAt_5068e_7 : decode cJ0_charAt_5068e 7 = .ok (.aload_n 0, 1) := by decide +kernel
theorem dJ0_charAt_5068e_8 : decode cJ0_charAt_5068e 8 = .ok (.getfield 9, 3) := by decide +kernel
theorem dJ0_charAt_5068e_11 : decode cJ0_charAt_5068e 11 = .ok (.iload_n 1, 1) := by decide +kernel
theorem dJ0_charAt_5068e_12 : decode cJ0_charAt_5068e 12 = .ok (.invokestatic 495, 3) := by decide +kernel
theorem dJ0_charAt_5068e_15 : decode cJ0_charAt_5068e 15 = .ok (.ireturn, 1) := by decide +kernel
theorem dJ0_charAt_5068e_16 : decode cJ0_charAt_5068e 16 = .ok (.aload_n 0, 1) := by decide +kernel
theorem dJ0_charAt_5068e_17 : decode cJ0_charAt_5068e 17 = .ok (.getfield 9, 3) := by decide +kernel
theorem dJ0_charAt_5068e_20 : decode cJ0_charAt_5068e 20 = .ok (.iload_n 1, 1) := by decide +kernel
theorem dJ0_charAt_5068e_21 : decode cJ0_charAt_5068e 21 = .ok (.invokestatic 498, 3) := by decide +kernel
theorem dJ0_charAt_5068e_24 : decode cJ0_charAt_5068e 24 = .ok (.ireturn, 1) := by decide +kernel
theorem dJ0_coder_7d493_0 : decode cJ0_coder_7d493 0 = .ok (.getstatic 38, 3) := by decide +kernel
theorem dJ0_coder_7d493_3 : decode cJ0_coder_7d493 3 = .ok (.ifCond .eq 10, 3) := by decide +kernel
theorem dJ0_coder_7d493_6 : decode cJ0_coder_7d493 6 = .ok (.aload_n 0, 1) := by decide +kernel
theorem dJ0_coder_7d493_7 : decode cJ0_coder_7d493 7 = .ok (.getfield 15, 3) := by decide +kernel
theorem dJ0_coder_7d493_10 : decode cJ0_coder_7d493 10 = .ok (.goto 4, 3) := by decide +kernel
theorem dJ0_coder_7d493_13 : decode cJ0_coder_7d493 13 = .ok (.iconst 1, 1) := by decide +kernel
theorem dJ0_coder_7d493_14 : decode cJ0_coder_7d493 14 = .ok (.ireturn, 1) := by decide +kernel
theorem dJ0_isLatin1_aae02_0 : decode cJ0_isLatin1_aae02 0 = .ok (.getstatic 38, 3) := by decide +kernel
theorem dJ0_isLatin1_aae02_3 : decode cJ0_isLatin1_aae02 3 = .ok (.ifCond .eq 14, 3) := by decide +kernel
theorem dJ0_isLatin1_aae02_6 : decode cJ0_isLatin1_aae02 6 = .ok (.aload_n 0, 1) := by decide +kernel
theorem dJ0_isLatin1_aae02_7 : decode cJ0_isLatin1_aae02 7 = .ok (.getfield 15, 3) := by decide +kernel
theorem dJ0_isLatin1_aae02_10 : decode cJ0_isLatin1_aae02 10 = .ok (.ifCond .ne 7, 3) := by decide +kernel
theorem dJ0_isLatin1_aae02_13 : decode cJ0_isLatin1_aae02 13 = .ok (.iconst 1, 1) := by decide +kernel
theorem dJ0_isLatin1_aae02_14 : decode cJ0_isLatin1_aae02 14 = .ok (.goto 4, 3) := by decide +kernel
theorem dJ0_isLatin1_aae02_17 : decode cJ0_isLatin1_aae02 17 = .ok (.iconst 0, 1) := by decide +kernel
theorem dJ0_isLatin1_aae02_18 : decode cJ0_isLatin1_aae02 18 = .ok (.ireturn, 1) := by decide +kernel
theorem dJ0_checkIndex_df160_0 : decode cJ0_checkIndex_df160 0 = .ok (.iload_n 0, 1) := by decide +kernel
theorem dJ0_checkIndex_df160_1 : decode cJ0_checkIndex_df160 1 = .ok (.iload_n 1, 1) := by decide +kernel
theorem dJ0_checkIndex_df160_2 : decode cJ0_checkIndex_df160 2 = .ok (.getstatic 1053, 3) := by decide +kernel
theorem dJ0_checkIndex_df160_5 : decode cJ0_checkIndex_df160 5 = .ok (.invokestatic 1059, 3) := by decide +kernel
theorem dJ0_checkIndex_df160_8 : decode cJ0_checkIndex_df160 8 = .ok (.pop, 1) := by decide +kernel
theorem dJ0_checkIndex_df160_9 : decode cJ0_checkIndex_df160 9 = .ok (.return_, 1) := by decide +kernel
theorem dJ1_charAt_3b067_0 : decode cJ1_charAt_3b067 0 = .ok (.iload_n 1, 1) := by decide +kernel
theorem dJ1_charAt_3b067_1 : decode cJ1_charAt_3b067 1 = .ok (.aload_n 0, 1) := by decide +kernel
theorem dJ1_charAt_3b067_2 : decode cJ1_charAt_3b067 2 = .ok (.arraylength, 1) := by decide +kernel
theorem dJ1_charAt_3b067_3 : decode cJ1_charAt_3b067 3 = .ok (.invokestatic 9, 3) := by decide +kernel
theorem dJ1_charAt_3b067_6 : decode cJ1_charAt_3b067 6 = .ok (.aload_n 0, 1) := by decide +kernel
theorem dJ1_charAt_3b067_7 : decode cJ1_charAt_3b067 7 = .ok (.iload_n 1, 1) := by decide +kernel
theorem dJ1_charAt_3b067_8 : decode cJ1_charAt_3b067 8 = .ok (.baload, 1) := by decide +kernel
theorem dJ1_charAt_3b067_9 : decode cJ1_charAt_3b067 9 = .ok (.sipush 255, 3) := by decide +kernel
theorem dJ1_charAt_3b067_12 : decode cJ1_charAt_3b067 12 = .ok (.iand, 1) := by decide +kernel
theorem dJ1_charAt_3b067_13 : decode cJ1_charAt_3b067 13 = .ok (.i2c, 1) := by decide +kernel
theorem dJ1_charAt_3b067_14 : decode cJ1_charAt_3b067 14 = .ok (.ireturn, 1) := by decide +kernel
theorem dJ2_getChar_3b067_0 : decode cJ2_getChar_3b067 0 = .ok (.getstatic 44, 3) := by decide +kernel
theorem dJ2_getChar_3b067_3 : decode cJ2_getChar_3b067 3 = .ok (.ifCond .ne 25, 3) := by decide +kernel
theorem dJ2_getChar_3b067_6 : decode cJ2_getChar_3b067 6 = .ok (.iload_n 1, 1) := by decide +kernel
theorem dJ2_getChar_3b067_7 : decode cJ2_getChar_3b067 7 = .ok (.ifCond .lt 11, 3) := by decide +kernel
theorem dJ2_getChar_3b067_10 : decode cJ2_getChar_3b067 10 = .ok (.iload_n 1, 1) := by decide +kernel
theorem dJ2_getChar_3b067_11 : decode cJ2_getChar_3b067 11 = .ok (.aload_n 0, 1) := by decide +kernel
theorem dJ2_getChar_3b067_12 : decode cJ2_getChar_3b067 12 = .ok (.invokestatic 48, 3) := by decide +kernel
theorem dJ2_getChar_3b067_15 : decode cJ2_getChar_3b067 15 = .ok (.if_icmp .lt 13, 3) := by decide +kernel
theorem dJ2_getChar_3b067_18 : decode cJ2_getChar_3b067 18 = .ok (.new 52, 3) := by decide +kernel
theorem dJ2_getChar_3b067_21 : decode cJ2_getChar_3b067 21 = .ok (.dup, 1) := by decide +kernel
theorem dJ2_getChar_3b067_22 : decode cJ2_getChar_3b067 22 = .ok (.ldc 54, 2) := by decide +kernel
theorem dJ2_getChar_3b067_24 : decode cJ2_getChar_3b067 24 = .ok (.invokespecial 56, 3) := by decide +kernel
theorem dJ2_getChar_3b067_27 : decode cJ2_getChar_3b067 27 = .ok (.athrow, 1) := by decide +kernel
theorem dJ2_getChar_3b067_28 : decode cJ2_getChar_3b067 28 = .ok (.iload_n 1, 1) := by decide +kernel
theorem dJ2_getChar_3b067_29 : decode cJ2_getChar_3b067 29 = .ok (.iconst 1, 1) := by decide +kernel
theorem dJ2_getChar_3b067_30 : decode cJ2_getChar_3b067 30 = .ok (.ishl, 1) := by decide +kernel
theorem dJ2_getChar_3b067_31 : decode cJ2_getChar_3b067 31 = .ok (.istore_n 1, 1) := by decide +kernel
theorem dJ2_getChar_3b067_32 : decode cJ2_getChar_3b067 32 = .ok (.aload_n 0, 1) := by decide +kernel
theorem dJ2_getChar_3b067_33 : decode cJ2_getChar_3b067 33 = .ok (.iload_n 1, 1) := by decide +kernel
theorem dJ2_getChar_3b067_34 : decode cJ2_getChar_3b067 34 = .ok (.iinc 1 1, 3) := by decide +kernel
theorem dJ2_getChar_3b067_37 : decode cJ2_getChar_3b067 37 = .ok (.baload, 1) := by decide +kernel
theorem dJ2_getChar_3b067_38 : decode cJ2_getChar_3b067 38 = .ok (.sipush 255, 3) := by decide +kernel
theorem dJ2_getChar_3b067_41 : decode cJ2_getChar_3b067 41 = .ok (.iand, 1) := by decide +kernel
theorem dJ2_getChar_3b067_42 : decode cJ2_getChar_3b067 42 = .ok (.getstatic 59, 3) := by decide +kernel
theorem dJ2_getChar_3b067_45 : decode cJ2_getChar_3b067 45 = .ok (.ishl, 1) := by decide +kernel
theorem dJ2_getChar_3b067_46 : decode cJ2_getChar_3b067 46 = .ok (.aload_n 0, 1) := by decide +kernel
theorem dJ2_getChar_3b067_47 : decode cJ2_getChar_3b067 47 = .ok (.iload_n 1, 1) := by decide +kernel
theorem dJ2_getChar_3b067_48 : decode cJ2_getChar_3b067 48 = .ok (.baload, 1) := by decide +kernel
theorem dJ2_getChar_3b067_49 : decode cJ2_getChar_3b067 49 = .ok (.sipush 255, 3) := by decide +kernel
theorem dJ2_getChar_3b067_52 : decode cJ2_getChar_3b067 52 = .ok (.iand, 1) := by decide +kernel
theorem dJ2_getChar_3b067_53 : decode cJ2_getChar_3b067 53 = .ok (.getstatic 63, 3) := by decide +kernel
theorem dJ2_getChar_3b067_56 : decode cJ2_getChar_3b067 56 = .ok (.ishl, 1) := by decide +kernel
theorem dJ2_getChar_3b067_57 : decode cJ2_getChar_3b067 57 = .ok (.ior, 1) := by decide +kernel
theorem dJ2_getChar_3b067_58 : decode cJ2_getChar_3b067 58 = .ok (.i2c, 1) := by decide +kernel
theorem dJ2_getChar_3b067_59 : decode cJ2_getChar_3b067 59 = .ok (.ireturn, 1) := by decide +kernel
theorem dJ2_length_9d52b_0 : decode cJ2_length_9d52b 0 = .ok (.aload_n 0, 1) := by decide +kernel
theorem dJ2_length_9d52b_1 : decode cJ2_length_9d52b 1 = .ok (.arraylength, 1) := by decide +kernel
theorem dJ2_length_9d52b_2 : decode cJ2_length_9d52b 2 = .ok (.iconst 1, 1) := by decide +kernel
theorem dJ2_length_9d52b_3 : decode cJ2_length_9d52b 3 = .ok (.ishr, 1) := by decide +kernel
theorem dJ2_length_9d52b_4 : decode cJ2_length_9d52b 4 = .ok (.ireturn, 1) := by decide +kernel
theorem dJ2_charAt_3b067_0 : decode cJ2_charAt_3b067 0 = .ok (.iload_n 1, 1) := by decide +kernel
theorem dJ2_charAt_3b067_1 : decode cJ2_charAt_3b067 1 = .ok (.aload_n 0, 1) := by decide +kernel
theorem dJ2_charAt_3b067_2 : decode cJ2_charAt_3b067 2 = .ok (.invokestatic 67, 3) := by decide +kernel
theorem dJ2_charAt_3b067_5 : decode cJ2_charAt_3b067 5 = .ok (.aload_n 0, 1) := by decide +kernel
theorem dJ2_charAt_3b067_6 : decode cJ2_charAt_3b067 6 = .ok (.iload_n 1, 1) := by decide +kernel
theorem dJ2_charAt_3b067_7 : decode cJ2_charAt_3b067 7 = .ok (.invokestatic 71, 3) := by decide +kernel
theorem dJ2_charAt_3b067_10 : decode cJ2_charAt_3b067 10 = .ok (.ireturn, 1) := by decide +kernel
theorem dJ2_checkIndex_2214a_0 : decode cJ2_checkIndex_2214a 0 = .ok (.iload_n 0, 1) := by decide +kernel
theorem dJ2_checkIndex_2214a_1 : decode cJ2_checkIndex_2214a 1 = .ok (.aload_n 1, 1) := by decide +kernel
theorem dJ2_checkIndex_2214a_2 : decode cJ2_checkIndex_2214a 2 = .ok (.invokestatic 48, 3) := by decide +kernel
theorem dJ2_checkIndex_2214a_5 : decode cJ2_checkIndex_2214a 5 = .ok (.invokestatic 414, 3) := by decide +kernel
theorem dJ2_checkIndex_2214a_8 : decode cJ2_checkIndex_2214a 8 = .ok (.return_, 1) := by decide +kernel
theorem dJ7_fill_d0a16_0 : decode cJ7_fill_d0a16 0 = .ok (.iconst 0, 1) := by decide +kernel
theorem dJ7_fill_d0a16_1 : decode cJ7_fill_d0a16 1 = .ok (.istore_n 3, 1) := by decide +kernel
theorem dJ7_fill_d0a16_2 : decode cJ7_fill_d0a16 2 = .ok (.aload_n 0, 1) := by decide +kernel
theorem dJ7_fill_d0a16_3 : decode cJ7_fill_d0a16 3 = .ok (.arraylength, 1) := by decide +kernel
theorem dJ7_fill_d0a16_4 : decode cJ7_fill_d0a16 4 = .ok (.istore 4, 2) := by decide +kernel
theorem dJ7_fill_d0a16_6 : decode cJ7_fill_d0a16 6 = .ok (.iload_n 3, 1) := by decide +kernel
theorem dJ7_fill_d0a16_7 : decode cJ7_fill_d0a16 7 = .ok (.iload 4, 2) := by decide +kernel
theorem dJ7_fill_d0a16_9 : decode cJ7_fill_d0a16 9 = .ok (.if_icmp .ge 13, 3) := by decide +kernel
theorem dJ7_fill_d0a16_12 : decode cJ7_fill_d0a16 12 = .ok (.aload_n 0, 1) := by decide +kernel
theorem dJ7_fill_d0a16_13 : decode cJ7_fill_d0a16 13 = .ok (.iload_n 3, 1) := by decide +kernel
theorem dJ7_fill_d0a16_14 : decode cJ7_fill_d0a16 14 = .ok (.lload_n 1, 1) := by decide +kernel
theorem dJ7_fill_d0a16_15 : decode cJ7_fill_d0a16 15 = .ok (.lastore, 1) := by decide +kernel
theorem dJ7_fill_d0a16_16 : decode cJ7_fill_d0a16 16 = .ok (.iinc 3 1, 3) := by decide +kernel
theorem dJ7_fill_d0a16_19 : decode cJ7_fill_d0a16 19 = .ok (.goto (-13), 3) := by decide +kernel
theorem dJ7_fill_d0a16_22 : decode cJ7_fill_d0a16 22 = .ok (.return_, 1) := by decide +kernel
theorem dJ7_fill_53178_0 : decode cJ7_fill_53178 0 = .ok (.iconst 0, 1) := by decide +kernel
theorem dJ7_fill_53178_1 : decode cJ7_fill_53178 1 = .ok (.istore_n 2, 1) := by decide +kernel
theorem dJ7_fill_53178_2 : decode cJ7_fill_53178 2 = .ok (.aload_n 0, 1) := by decide +kernel
theorem dJ7_fill_53178_3 : decode cJ7_fill_53178 3 = .ok (.arraylength, 1) := by decide +kernel
theorem dJ7_fill_53178_4 : decode cJ7_fill_53178 4 = .ok (.istore_n 3, 1) := by decide +kernel
theorem dJ7_fill_53178_5 : decode cJ7_fill_53178 5 = .ok (.iload_n 2, 1) := by decide +kernel
theorem dJ7_fill_53178_6 : decode cJ7_fill_53178 6 = .ok (.iload_n 3, 1) := by decide +kernel
theorem dJ7_fill_53178_7 : decode cJ7_fill_53178 7 = .ok (.if_icmp .ge 13, 3) := by decide +kernel
theorem dJ7_fill_53178_10 : decode cJ7_fill_53178 10 = .ok (.aload_n 0, 1) := by decide +kernel
theorem dJ7_fill_53178_11 : decode cJ7_fill_53178 11 = .ok (.iload_n 2, 1) := by decide +kernel
theorem dJ7_fill_53178_12 : decode cJ7_fill_53178 12 = .ok (.iload_n 1, 1) := by decide +kernel
theorem dJ7_fill_53178_13 : decode cJ7_fill_53178 13 = .ok (.iastore, 1) := by decide +kernel
theorem dJ7_fill_53178_14 : decode cJ7_fill_53178 14 = .ok (.iinc 2 1, 3) := by decide +kernel
theorem dJ7_fill_53178_17 : decode cJ7_fill_53178 17 = .ok (.goto (-12), 3) := by decide +kernel
theorem dJ7_fill_53178_20 : decode cJ7_fill_53178 20 = .ok (.return_, 1) := by decide +kernel
theorem dJ3_checkIndex_8e157_0 : decode cJ3_checkIndex_8e157 0 = .ok (.iload_n 0, 1) := by decide +kernel
theorem dJ3_checkIndex_8e157_1 : decode cJ3_checkIndex_8e157 1 = .ok (.ifCond .lt 8, 3) := by decide +kernel
theorem dJ3_checkIndex_8e157_4 : decode cJ3_checkIndex_8e157 4 = .ok (.iload_n 0, 1) := by decide +kernel
theorem dJ3_checkIndex_8e157_5 : decode cJ3_checkIndex_8e157 5 = .ok (.iload_n 1, 1) := by decide +kernel
theorem dJ3_checkIndex_8e157_6 : decode cJ3_checkIndex_8e157 6 = .ok (.if_icmp .lt 10, 3) := by decide +kernel
theorem dJ3_checkIndex_8e157_9 : decode cJ3_checkIndex_8e157 9 = .ok (.aload_n 2, 1) := by decide +kernel
theorem dJ3_checkIndex_8e157_10 : decode cJ3_checkIndex_8e157 10 = .ok (.iload_n 0, 1) := by decide +kernel
theorem dJ3_checkIndex_8e157_11 : decode cJ3_checkIndex_8e157 11 = .ok (.iload_n 1, 1) := by decide +kernel
theorem dJ3_checkIndex_8e157_12 : decode cJ3_checkIndex_8e157 12 = .ok (.invokestatic 95, 3) := by decide +kernel
theorem dJ3_checkIndex_8e157_15 : decode cJ3_checkIndex_8e157 15 = .ok (.athrow, 1) := by decide +kernel
theorem dJ3_checkIndex_8e157_16 : decode cJ3_checkIndex_8e157 16 = .ok (.iload_n 0, 1) := by decide +kernel
theorem dJ3_checkIndex_8e157_17 : decode cJ3_checkIndex_8e157 17 = .ok (.ireturn, 1) := by decide +kernel
