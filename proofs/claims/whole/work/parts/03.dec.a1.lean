theorem dX0_init_0 : decode cX0_init 0 = .ok (.aload_n 0, 1) := by decide +kernel
theorem dX0_init_1 : decode cX0_init 1 = .ok (.invokespecial 3, 3) := by decide +kernel
theorem dX0_init_4 : decode cX0_init 4 = .ok (.aload_n 0, 1) := by decide +kernel
theorem dX0_init_5 : decode cX0_init 5 = .ok (.bipush 24, 2) := by decide +kernel
theorem dX0_init_7 : decode cX0_init 7 = .ok (.newarray .int, 2) := by decide +kernel
theorem dX0_init_9 : decode cX0_init 9 = .ok (.putfield 9, 3) := by decide +kernel
theorem dX0_init_12 : decode cX0_init 12 = .ok (.aload_n 0, 1) := by decide +kernel
theorem dX0_init_13 : decode cX0_init 13 = .ok (.bipush 24, 2) := by decide +kernel
theorem dX0_init_15 : decode cX0_init 15 = .ok (.newarray .int, 2) := by decide +kernel
theorem dX0_init_17 : decode cX0_init 17 = .ok (.putfield 15, 3) := by decide +kernel
theorem dX0_init_20 : decode cX0_init 20 = .ok (.aload_n 0, 1) := by decide +kernel
theorem dX0_init_21 : decode cX0_init 21 = .ok (.bipush 24, 2) := by decide +kernel
theorem dX0_init_23 : decode cX0_init 23 = .ok (.newarray .int, 2) := by decide +kernel
theorem dX0_init_25 : decode cX0_init 25 = .ok (.putfield 18, 3) := by decide +kernel
theorem dX0_init_28 : decode cX0_init 28 = .ok (.aload_n 0, 1) := by decide +kernel
theorem dX0_init_29 : decode cX0_init 29 = .ok (.bipush 24, 2) := by decide +kernel
theorem dX0_init_31 : decode cX0_init 31 = .ok (.newarray .int, 2) := by decide +kernel
theorem dX0_init_33 : decode cX0_init 33 = .ok (.putfield 21, 3) := by decide +kernel
theorem dX0_init_36 : decode cX0_init 36 = .ok (.return_, 1) := by decide +kernel
theorem dX0_has_0 : decode cX0_has 0 = .ok (.iload_n 1, 1) := by decide +kernel
theorem dX0_has_1 : decode cX0_has 1 = .ok (.ifCond .lt 15, 3) := by decide +kernel
theorem dX0_has_4 : decode cX0_has 4 = .ok (.iload_n 1, 1) := by decide +kernel
theorem dX0_has_5 : decode cX0_has 5 = .ok (.aload_n 0, 1) := by decide +kernel
theorem dX0_has_6 : decode cX0_has 6 = .ok (.getfield 24, 3) := by decide +kernel
theorem dX0_has_9 : decode cX0_has 9 = .ok (.if_icmp .ge 7, 3) := by decide +kernel
theorem dX0_has_12 : decode cX0_has 12 = .ok (.iconst 1, 1) := by decide +kernel
theorem dX0_has_13 : decode cX0_has 13 = .ok (.goto 4, 3) := by decide +kernel
theorem dX0_has_16 : decode cX0_has 16 = .ok (.iconst 0, 1) := by decide +kernel
theorem dX0_has_17 : decode cX0_has 17 = .ok (.ireturn, 1) := by decide +kernel
theorem dX0_hasSet_0 : decode cX0_hasSet 0 = .ok (.iload_n 1, 1) := by decide +kernel
theorem dX0_hasSet_1 : decode cX0_hasSet 1 = .ok (.ifCond .le 16, 3) := by decide +kernel
theorem dX0_hasSet_4 : decode cX0_hasSet 4 = .ok (.iload_n 1, 1) := by decide +kernel
theorem dX0_hasSet_5 : decode cX0_hasSet 5 = .ok (.aload_n 0, 1) := by decide +kernel
theorem dX0_hasSet_6 : decode cX0_hasSet 6 = .ok (.getfield 24, 3) := by decide +kernel
theorem dX0_hasSet_9 : decode cX0_hasSet 9 = .ok (.iushr, 1) := by decide +kernel
theorem dX0_hasSet_10 : decode cX0_hasSet 10 = .ok (.ifCond .ne 7, 3) := by decide +kernel
theorem dX0_hasSet_13 : decode cX0_hasSet 13 = .ok (.iconst 1, 1) := by decide +kernel
theorem dX0_hasSet_14 : decode cX0_hasSet 14 = .ok (.goto 4, 3) := by decide +kernel
theorem dX0_hasSet_17 : decode cX0_hasSet 17 = .ok (.iconst 0, 1) := by decide +kernel
theorem dX0_hasSet_18 : decode cX0_hasSet 18 = .ok (.ireturn, 1) := by decide +kernel
theorem dX0_isAt_0 : decode cX0_isAt 0 = .ok (.aload_n 0, 1) := by decide +kernel
theorem dX0_isAt_1 : decode cX0_isAt 1 = .ok (.getfield 9, 3) := by decide +kernel
theorem dX0_isAt_4 : decode cX0_isAt 4 = .ok (.iload_n 1, 1) := by decide +kernel
theorem dX0_isAt_5 : decode cX0_isAt 5 = .ok (.iaload, 1) := by decide +kernel
theorem dX0_isAt_6 : decode cX0_isAt 6 = .ok (.iload_n 2, 1) := by decide +kernel
theorem dX0_isAt_7 : decode cX0_isAt 7 = .ok (.if_icmp .ne 17, 3) := by decide +kernel
theorem dX0_isAt_10 : decode cX0_isAt 10 = .ok (.aload_n 0, 1) := by decide +kernel
theorem dX0_isAt_11 : decode cX0_isAt 11 = .ok (.getfield 15, 3) := by decide +kernel
theorem dX0_isAt_14 : decode cX0_isAt 14 = .ok (.iload_n 1, 1) := by decide +kernel
theorem dX0_isAt_15 : decode cX0_isAt 15 = .ok (.iaload, 1) := by decide +kernel
theorem dX0_isAt_16 : decode cX0_isAt 16 = .ok (.iload_n 3, 1) := by decide +kernel
theorem dX0_isAt_17 : decode cX0_isAt 17 = .ok (.if_icmp .ne 7, 3) := by decide +kernel
theorem dX0_isAt_20 : decode cX0_isAt 20 = .ok (.iconst 1, 1) := by decide +kernel
theorem dX0_isAt_21 : decode cX0_isAt 21 = .ok (.goto 4, 3) := by decide +kernel
theorem dX0_isAt_24 : decode cX0_isAt 24 = .ok (.iconst 0, 1) := by decide +kernel
theorem dX0_isAt_25 : decode cX0_isAt 25 = .ok (.ireturn, 1) := by decide +kernel
theorem dX0_isRainbow_0 : decode cX0_isRainbow 0 = .ok (.aload_n 0, 1) := by decide +kernel
theorem dX0_isRainbow_1 : decode cX0_isRainbow 1 = .ok (.iload_n 1, 1) := by decide +kernel
theorem dX0_isRainbow_2 : decode cX0_isRainbow 2 = .ok (.invokevirtual 28, 3) := by decide +kernel
theorem dX0_isRainbow_5 : decode cX0_isRainbow 5 = .ok (.ifCond .eq 52, 3) := by decide +kernel
theorem dX0_isRainbow_8 : decode cX0_isRainbow 8 = .ok (.aload_n 0, 1) := by decide +kernel
theorem dX0_isRainbow_9 : decode cX0_isRainbow 9 = .ok (.getfield 18, 3) := by decide +kernel
theorem dX0_isRainbow_12 : decode cX0_isRainbow 12 = .ok (.iload_n 1, 1) := by decide +kernel
theorem dX0_isRainbow_13 : decode cX0_isRainbow 13 = .ok (.iaload, 1) := by decide +kernel
theorem dX0_isRainbow_14 : decode cX0_isRainbow 14 = .ok (.ifCond .ne 43, 3) := by decide +kernel
theorem dX0_isRainbow_17 : decode cX0_isRainbow 17 = .ok (.aload_n 0, 1) := by decide +kernel
theorem dX0_isRainbow_18 : decode cX0_isRainbow 18 = .ok (.iload_n 2, 1) := by decide +kernel
theorem dX0_isRainbow_19 : decode cX0_isRainbow 19 = .ok (.invokevirtual 28, 3) := by decide +kernel
theorem dX0_isRainbow_22 : decode cX0_isRainbow 22 = .ok (.ifCond .eq 35, 3) := by decide +kernel
theorem dX0_isRainbow_25 : decode cX0_isRainbow 25 = .ok (.aload_n 0, 1) := by decide +kernel
theorem dX0_isRainbow_26 : decode cX0_isRainbow 26 = .ok (.getfield 18, 3) := by decide +kernel
theorem dX0_isRainbow_29 : decode cX0_isRainbow 29 = .ok (.iload_n 2, 1) := by decide +kernel
theorem dX0_isRainbow_30 : decode cX0_isRainbow 30 = .ok (.iaload, 1) := by decide +kernel
theorem dX0_isRainbow_31 : decode cX0_isRainbow 31 = .ok (.iconst 1, 1) := by decide +kernel
theorem dX0_isRainbow_32 : decode cX0_isRainbow 32 = .ok (.if_icmp .ne 25, 3) := by decide +kernel
theorem dX0_isRainbow_35 : decode cX0_isRainbow 35 = .ok (.aload_n 0, 1) := by decide +kernel
theorem dX0_isRainbow_36 : decode cX0_isRainbow 36 = .ok (.iload_n 3, 1) := by decide +kernel
theorem dX0_isRainbow_37 : decode cX0_isRainbow 37 = .ok (.invokevirtual 28, 3) := by decide +kernel
theorem dX0_isRainbow_40 : decode cX0_isRainbow 40 = .ok (.ifCond .eq 17, 3) := by decide +kernel
theorem dX0_isRainbow_43 : decode cX0_isRainbow 43 = .ok (.aload_n 0, 1) := by decide +kernel
theorem dX0_isRainbow_44 : decode cX0_isRainbow 44 = .ok (.getfield 18, 3) := by decide +kernel
theorem dX0_isRainbow_47 : decode cX0_isRainbow 47 = .ok (.iload_n 3, 1) := by decide +kernel
theorem dX0_isRainbow_48 : decode cX0_isRainbow 48 = .ok (.iaload, 1) := by decide +kernel
theorem dX0_isRainbow_49 : decode cX0_isRainbow 49 = .ok (.iconst 2, 1) := by decide +kernel
theorem dX0_isRainbow_50 : decode cX0_isRainbow 50 = .ok (.if_icmp .ne 7, 3) := by decide +kernel
theorem dX0_isRainbow_53 : decode cX0_isRainbow 53 = .ok (.iconst 1, 1) := by decide +kernel
theorem dX0_isRainbow_54 : decode cX0_isRainbow 54 = .ok (.goto 4, 3) := by decide +kernel
theorem dX0_isRainbow_57 : decode cX0_isRainbow 57 = .ok (.iconst 0, 1) := by decide +kernel
theorem dX0_isRainbow_58 : decode cX0_isRainbow 58 = .ok (.ireturn, 1) := by decide +kernel
theorem dX0_bitsOfColour_0 : decode cX0_bitsOfColour 0 = .ok (.iconst 0, 1) := by decide +kernel
theorem dX0_bitsOfColour_1 : decode cX0_bitsOfColour 1 = .ok (.istore_n 2, 1) := by decide +kernel
theorem dX0_bitsOfColour_2 : decode cX0_bitsOfColour 2 = .ok (.iconst 0, 1) := by decide +kernel
theorem dX0_bitsOfColour_3 : decode cX0_bitsOfColour 3 = .ok (.istore_n 3, 1) := by decide +kernel
theorem dX0_bitsOfColour_4 : decode cX0_bitsOfColour 4 = .ok (.iload_n 3, 1) := by decide +kernel
theorem dX0_bitsOfColour_5 : decode cX0_bitsOfColour 5 = .ok (.aload_n 0, 1) := by decide +kernel
theorem dX0_bitsOfColour_6 : decode cX0_bitsOfColour 6 = .ok (.getfield 24, 3) := by decide +kernel
theorem dX0_bitsOfColour_9 : decode cX0_bitsOfColour 9 = .ok (.if_icmp .ge 25, 3) := by decide +kernel
theorem dX0_bitsOfColour_12 : decode cX0_bitsOfColour 12 = .ok (.aload_n 0, 1) := by decide +kernel
theorem dX0_bitsOfColour_13 : decode cX0_bitsOfColour 13 = .ok (.getfield 18, 3) := by decide +kernel
theorem dX0_bitsOfColour_16 : decode cX0_bitsOfColour 16 = .ok (.iload_n 3, 1) := by decide +kernel
theorem dX0_bitsOfColour_17 : decode cX0_bitsOfColour 17 = .ok (.iaload, 1) := by decide +kernel
theorem dX0_bitsOfColour_18 : decode cX0_bitsOfColour 18 = .ok (.iload_n 1, 1) := by decide +kernel
theorem dX0_bitsOfColour_19 : decode cX0_bitsOfColour 19 = .ok (.if_icmp .ne 9, 3) := by decide +kernel
theorem dX0_bitsOfColour_22 : decode cX0_bitsOfColour 22 = .ok (.iload_n 2, 1) := by decide +kernel
theorem dX0_bitsOfColour_23 : decode cX0_bitsOfColour 23 = .ok (.iconst 1, 1) := by decide +kernel
theorem dX0_bitsOfColour_24 : decode cX0_bitsOfColour 24 = .ok (.iload_n 3, 1) := by decide +kernel
theorem dX0_bitsOfColour_25 : decode cX0_bitsOfColour 25 = .ok (.ishl, 1) := by decide +kernel
theorem dX0_bitsOfColour_26 : decode cX0_bitsOfColour 26 = .ok (.ior, 1) := by decide +kernel
theorem dX0_bitsOfColour_27 : decode cX0_bitsOfColour 27 = .ok (.istore_n 2, 1) := by decide +kernel
theorem dX0_bitsOfColour_28 : decode cX0_bitsOfColour 28 = .ok (.iinc 3 1, 3) := by decide +kernel
theorem dX0_bitsOfColour_31 : decode cX0_bitsOfColour 31 = .ok (.goto (-27), 3) := by decide +kernel
theorem dX0_bitsOfColour_34 : decode cX0_bitsOfColour 34 = .ok (.iload_n 2, 1) := by decide +kernel
theorem dX0_bitsOfColour_35 : decode cX0_bitsOfColour 35 = .ok (.ireturn, 1) := by decide +kernel
theorem dX0_bitsLoaded_0 : decode cX0_bitsLoaded 0 = .ok (.iconst 0, 1) := by decide +kernel
theorem dX0_bitsLoaded_1 : decode cX0_bitsLoaded 1 = .ok (.istore_n 1, 1) := by decide +kernel
theorem dX0_bitsLoaded_2 : decode cX0_bitsLoaded 2 = .ok (.iconst 0, 1) := by decide +kernel
theorem dX0_bitsLoaded_3 : decode cX0_bitsLoaded 3 = .ok (.istore_n 2, 1) := by decide +kernel
theorem dX0_bitsLoaded_4 : decode cX0_bitsLoaded 4 = .ok (.iload_n 2, 1) := by decide +kernel
theorem dX0_bitsLoaded_5 : decode cX0_bitsLoaded 5 = .ok (.aload_n 0, 1) := by decide +kernel
theorem dX0_bitsLoaded_6 : decode cX0_bitsLoaded 6 = .ok (.getfield 24, 3) := by decide +kernel
theorem dX0_bitsLoaded_9 : decode cX0_bitsLoaded 9 = .ok (.if_icmp .ge 24, 3) := by decide +kernel
theorem dX0_bitsLoaded_12 : decode cX0_bitsLoaded 12 = .ok (.aload_n 0, 1) := by decide +kernel
theorem dX0_bitsLoaded_13 : decode cX0_bitsLoaded 13 = .ok (.getfield 21, 3) := by decide +kernel
theorem dX0_bitsLoaded_16 : decode cX0_bitsLoaded 16 = .ok (.iload_n 2, 1) := by decide +kernel
theorem dX0_bitsLoaded_17 : decode cX0_bitsLoaded 17 = .ok (.iaload, 1) := by decide +kernel
theorem dX0_bitsLoaded_18 : decode cX0_bitsLoaded 18 = .ok (.ifCond .le 9, 3) := by decide +kernel
theorem dX0_bitsLoaded_21 : decode cX0_bitsLoaded 21 = .ok (.iload_n 1, 1) := by decide +kernel
theorem dX0_bitsLoaded_22 : decode cX0_bitsLoaded 22 = .ok (.iconst 1, 1) := by decide +kernel
theorem dX0_bitsLoaded_23 : decode cX0_bitsLoaded 23 = .ok (.iload_n 2, 1) := by decide +kernel
theorem dX0_bitsLoaded_24 : decode cX0_bitsLoaded 24 = .ok (.ishl, 1) := by decide +kernel
theorem dX0_bitsLoaded_25 : decode cX0_bitsLoaded 25 = .ok (.ior, 1) := by decide +kernel
theorem dX0_bitsLoaded_26 : decode cX0_bitsLoaded 26 = .ok (.istore_n 1, 1) := by decide +kernel
theorem dX0_bitsLoaded_27 : decode cX0_bitsLoaded 27 = .ok (.iinc 2 1, 3) := by decide +kernel
theorem dX0_bitsLoaded_30 : decode cX0_bitsLoaded 30 = .ok (.goto (-26), 3) := by decide +kernel
theorem dX0_bitsLoaded_33 : decode cX0_bitsLoaded 33 = .ok (.iload_n 1, 1) := by decide +kernel
theorem dX0_bitsLoaded_34 : decode cX0_bitsLoaded 34 = .ok (.ireturn, 1) := by decide +kernel
theorem dX0_locateBalance_0 : decode cX0_locateBalance 0 = .ok (.lconst 0, 1) := by decide +kernel
theorem dX0_locateBalance_1 : decode cX0_locateBalance 1 = .ok (.lstore_n 2, 1) := by decide +kernel
theorem dX0_locateBalance_2 : decode cX0_locateBalance 2 = .ok (.lconst 0, 1) := by decide +kernel
theorem dX0_locateBalance_3 : decode cX0_locateBalance 3 = .ok (.lstore 4, 2) := by decide +kernel
theorem dX0_locateBalance_5 : decode cX0_locateBalance 5 = .ok (.lconst 0, 1) := by decide +kernel
theorem dX0_locateBalance_6 : decode cX0_locateBalance 6 = .ok (.lstore 6, 2) := by decide +kernel
theorem dX0_locateBalance_8 : decode cX0_locateBalance 8 = .ok (.iconst 0, 1) := by decide +kernel
theorem dX0_locateBalance_9 : decode cX0_locateBalance 9 = .ok (.istore 8, 2) := by decide +kernel
theorem dX0_locateBalance_11 : decode cX0_locateBalance 11 = .ok (.iload 8, 2) := by decide +kernel
theorem dX0_locateBalance_13 : decode cX0_locateBalance 13 = .ok (.aload_n 0, 1) := by decide +kernel
theorem dX0_locateBalance_14 : decode cX0_locateBalance 14 = .ok (.getfield 24, 3) := by decide +kernel
theorem dX0_locateBalance_17 : decode cX0_locateBalance 17 = .ok (.if_icmp .ge 62, 3) := by decide +kernel
theorem dX0_locateBalance_20 : decode cX0_locateBalance 20 = .ok (.lload_n 2, 1) := by decide +kernel
theorem dX0_locateBalance_21 : decode cX0_locateBalance 21 = .ok (.aload_n 0, 1) := by decide +kernel
theorem dX0_locateBalance_22 : decode cX0_locateBalance 22 = .ok (.getfield 21, 3) := by decide +kernel
theorem dX0_locateBalance_25 : decode cX0_locateBalance 25 = .ok (.iload 8, 2) := by decide +kernel
theorem dX0_locateBalance_27 : decode cX0_locateBalance 27 = .ok (.iaload, 1) := by decide +kernel
theorem dX0_locateBalance_28 : decode cX0_locateBalance 28 = .ok (.aload_n 0, 1) := by decide +kernel
theorem dX0_locateBalance_29 : decode cX0_locateBalance 29 = .ok (.getfield 9, 3) := by decide +kernel
theorem dX0_locateBalance_32 : decode cX0_locateBalance 32 = .ok (.iload 8, 2) := by decide +kernel
theorem dX0_locateBalance_34 : decode cX0_locateBalance 34 = .ok (.iaload, 1) := by decide +kernel
theorem dX0_locateBalance_35 : decode cX0_locateBalance 35 = .ok (.imul, 1) := by decide +kernel
theorem dX0_locateBalance_36 : decode cX0_locateBalance 36 = .ok (.i2l, 1) := by decide +kernel
theorem dX0_locateBalance_37 : decode cX0_locateBalance 37 = .ok (.ladd, 1) := by decide +kernel
theorem dX0_locateBalance_38 : decode cX0_locateBalance 38 = .ok (.lstore_n 2, 1) := by decide +kernel
theorem dX0_locateBalance_39 : decode cX0_locateBalance 39 = .ok (.lload 4, 2) := by decide +kernel
theorem dX0_locateBalance_41 : decode cX0_locateBalance 41 = .ok (.aload_n 0, 1) := by decide +kernel
theorem dX0_locateBalance_42 : decode cX0_locateBalance 42 = .ok (.getfield 21, 3) := by decide +kernel
theorem dX0_locateBalance_45 : decode cX0_locateBalance 45 = .ok (.iload 8, 2) := by decide +kernel
theorem dX0_locateBalance_47 : decode cX0_locateBalance 47 = .ok (.iaload, 1) := by decide +kernel
theorem dX0_locateBalance_48 : decode cX0_locateBalance 48 = .ok (.aload_n 0, 1) := by decide +kernel
theorem dX0_locateBalance_49 : decode cX0_locateBalance 49 = .ok (.getfield 15, 3) := by decide +kernel
theorem dX0_locateBalance_52 : decode cX0_locateBalance 52 = .ok (.iload 8, 2) := by decide +kernel
theorem dX0_locateBalance_54 : decode cX0_locateBalance 54 = .ok (.iaload, 1) := by decide +kernel
theorem dX0_locateBalance_55 : decode cX0_locateBalance 55 = .ok (.imul, 1) := by decide +kernel
theorem dX0_locateBalance_56 : decode cX0_locateBalance 56 = .ok (.i2l, 1) := by decide +kernel
theorem dX0_locateBalance_57 : decode cX0_locateBalance 57 = .ok (.ladd, 1) := by decide +kernel
theorem dX0_locateBalance_58 : decode cX0_locateBalance 58 = .ok (.lstore 4, 2) := by decide +kernel
theorem dX0_locateBalance_60 : decode cX0_locateBalance 60 = .ok (.lload 6, 2) := by decide +kernel
theorem dX0_locateBalance_62 : decode cX0_locateBalance 62 = .ok (.aload_n 0, 1) := by decide +kernel
theorem dX0_locateBalance_63 : decode cX0_locateBalance 63 = .ok (.getfield 21, 3) := by decide +kernel
theorem dX0_locateBalance_66 : decode cX0_locateBalance 66 = .ok (.iload 8, 2) := by decide +kernel
theorem dX0_locateBalance_68 : decode cX0_locateBalance 68 = .ok (.iaload, 1) := by decide +kernel
theorem dX0_locateBalance_69 : decode cX0_locateBalance 69 = .ok (.i2l, 1) := by decide +kernel
theorem dX0_locateBalance_70 : decode cX0_locateBalance 70 = .ok (.ladd, 1) := by decide +kernel
theorem dX0_locateBalance_71 : decode cX0_locateBalance 71 = .ok (.lstore 6, 2) := by decide +kernel
theorem dX0_locateBalance_73 : decode cX0_locateBalance 73 = .ok (.iinc 8 1, 3) := by decide +kernel
theorem dX0_locateBalance_76 : decode cX0_locateBalance 76 = .ok (.goto (-65), 3) := by decide +kernel
theorem dX0_locateBalance_79 : decode cX0_locateBalance 79 = .ok (.aload_n 1, 1) := by decide +kernel
theorem dX0_locateBalance_80 : decode cX0_locateBalance 80 = .ok (.lload_n 2, 1) := by decide +kernel
theorem dX0_locateBalance_81 : decode cX0_locateBalance 81 = .ok (.lload 4, 2) := by decide +kernel
theorem dX0_locateBalance_83 : decode cX0_locateBalance 83 = .ok (.lload 6, 2) := by decide +kernel
theorem dX0_locateBalance_85 : decode cX0_locateBalance 85 = .ok (.invokevirtual 32, 3) := by decide +kernel
theorem dX0_locateBalance_88 : decode cX0_locateBalance 88 = .ok (.lload 6, 2) := by decide +kernel
theorem dX0_locateBalance_90 : decode cX0_locateBalance 90 = .ok (.lconst 0, 1) := by decide +kernel
theorem dX0_locateBalance_91 : decode cX0_locateBalance 91 = .ok (.lcmp, 1) := by decide +kernel
theorem dX0_locateBalance_92 : decode cX0_locateBalance 92 = .ok (.ifCond .eq 7, 3) := by decide +kernel
theorem dX0_locateBalance_95 : decode cX0_locateBalance 95 = .ok (.iconst 1, 1) := by decide +kernel
theorem dX0_locateBalance_96 : decode cX0_locateBalance 96 = .ok (.goto 4, 3) := by decide +kernel
theorem dX0_locateBalance_99 : decode cX0_locateBalance 99 = .ok (.iconst 0, 1) := by decide +kernel
theorem dX0_locateBalance_100 : decode cX0_locateBalance 100 = .ok (.ireturn, 1) := by decide +kernel
theorem dX0_append_0 : decode cX0_append 0 = .ok (.aload_n 0, 1) := by decide +kernel
theorem dX0_append_1 : decode cX0_append 1 = .ok (.getfield 24, 3) := by decide +kernel
theorem dX0_append_4 : decode cX0_append 4 = .ok (.bipush 24, 2) := by decide +kernel
theorem dX0_append_6 : decode cX0_append 6 = .ok (.if_icmp .lt 5, 3) := by decide +kernel
theorem dX0_append_9 : decode cX0_append 9 = .ok (.iconst 0, 1) := by decide +kernel
theorem dX0_append_10 : decode cX0_append 10 = .ok (.ireturn, 1) := by decide +kernel
theorem dX0_append_11 : decode cX0_append 11 = .ok (.aload_n 0, 1) := by decide +kernel
theorem dX0_append_12 : decode cX0_append 12 = .ok (.getfield 9, 3) := by decide +kernel
theorem dX0_append_15 : decode cX0_append 15 = .ok (.aload_n 0, 1) := by decide +kernel
theorem dX0_append_16 : decode cX0_append 16 = .ok (.getfield 24, 3) := by decide +kernel
theorem dX0_append_19 : decode cX0_append 19 = .ok (.iload_n 1, 1) := by decide +kernel
theorem dX0_append_20 : decode cX0_append 20 = .ok (.iastore, 1) := by decide +kernel
theorem dX0_append_21 : decode cX0_append 21 = .ok (.aload_n 0, 1) := by decide +kernel
theorem dX0_append_22 : decode cX0_append 22 = .ok (.getfield 15, 3) := by decide +kernel
theorem dX0_append_25 : decode cX0_append 25 = .ok (.aload_n 0, 1) := by decide +kernel
theorem dX0_append_26 : decode cX0_append 26 = .ok (.getfield 24, 3) := by decide +kernel
theorem dX0_append_29 : decode cX0_append 29 = .ok (.iload_n 2, 1) := by decide +kernel
theorem dX0_append_30 : decode cX0_append 30 = .ok (.iastore, 1) := by decide +kernel
theorem dX0_append_31 : decode cX0_append 31 = .ok (.aload_n 0, 1) := by decide +kernel
theorem dX0_append_32 : decode cX0_append 32 = .ok (.getfield 18, 3) := by decide +kernel
theorem dX0_append_35 : decode cX0_append 35 = .ok (.aload_n 0, 1) := by decide +kernel
theorem dX0_append_36 : decode cX0_append 36 = .ok (.getfield 24, 3) := by decide +kernel
theorem dX0_append_39 : decode cX0_append 39 = .ok (.iload_n 3, 1) := by decide +kernel
theorem dX0_append_40 : decode cX0_append 40 = .ok (.iastore, 1) := by decide +kernel
theorem dX0_append_41 : decode cX0_append 41 = .ok (.aload_n 0, 1) := by decide +kernel
theorem dX0_append_42 : decode cX0_append 42 = .ok (.getfield 21, 3) := by decide +kernel
theorem dX0_append_45 : decode cX0_append 45 = .ok (.aload_n 0, 1) := by decide +kernel
theorem dX0_append_46 : decode cX0_append 46 = .ok (.getfield 24, 3) := by decide +kernel
theorem dX0_append_49 : decode cX0_append 49 = .ok (.iconst 0, 1) := by decide +kernel
theorem dX0_append_50 : decode cX0_append 50 = .ok (.iastore, 1) := by decide +kernel
theorem dX0_append_51 : decode cX0_append 51 = .ok (.aload_n 0, 1) := by decide +kernel
theorem dX0_append_52 : decode cX0_append 52 = .ok (.dup, 1) := by decide +kernel
theorem dX0_append_53 : decode cX0_append 53 = .ok (.getfield 24, 3) := by decide +kernel
theorem dX0_append_56 : decode cX0_append 56 = .ok (.iconst 1, 1) := by decide +kernel
theorem dX0_append_57 : decode cX0_append 57 = .ok (.iadd, 1) := by decide +kernel
theorem dX0_append_58 : decode cX0_append 58 = .ok (.putfield 24, 3) := by decide +kernel
theorem dX0_append_61 : decode cX0_append 61 = .ok (.iconst 1, 1) := by decide +kernel
theorem dX0_append_62 : decode cX0_append 62 = .ok (.ireturn, 1) := by decide +kernel
theorem dX0_drop_0 : decode cX0_drop 0 = .ok (.iload_n 1, 1) := by decide +kernel
theorem dX0_drop_1 : decode cX0_drop 1 = .ok (.istore_n 2, 1) := by decide +kernel
theorem dX0_drop_2 : decode cX0_drop 2 = .ok (.iload_n 2, 1) := by decide +kernel
theorem dX0_drop_3 : decode cX0_drop 3 = .ok (.aload_n 0, 1) := by decide +kernel
theorem dX0_drop_4 : decode cX0_drop 4 = .ok (.getfield 24, 3) := by decide +kernel
theorem dX0_drop_7 : decode cX0_drop 7 = .ok (.iconst 1, 1) := by decide +kernel
theorem dX0_drop_8 : decode cX0_drop 8 = .ok (.isub, 1) := by decide +kernel
theorem dX0_drop_9 : decode cX0_drop 9 = .ok (.if_icmp .ge 65, 3) := by decide +kernel
theorem dX0_drop_12 : decode cX0_drop 12 = .ok (.aload_n 0, 1) := by decide +kernel
theorem dX0_drop_13 : decode cX0_drop 13 = .ok (.getfield 9, 3) := by decide +kernel
theorem dX0_drop_16 : decode cX0_drop 16 = .ok (.iload_n 2, 1) := by decide +kernel
theorem dX0_drop_17 : decode cX0_drop 17 = .ok (.aload_n 0, 1) := by decide +kernel
theorem dX0_drop_18 : decode cX0_drop 18 = .ok (.getfield 9, 3) := by decide +kernel
theorem dX0_drop_21 : decode cX0_drop 21 = .ok (.iload_n 2, 1) := by decide +kernel
theorem dX0_drop_22 : decode cX0_drop 22 = .ok (.iconst 1, 1) := by decide +kernel
theorem dX0_drop_23 : decode cX0_drop 23 = .ok (.iadd, 1) := by decide +kernel
theorem dX0_drop_24 : decode cX0_drop 24 = .ok (.iaload, 1) := by decide +kernel
theorem dX0_drop_25 : decode cX0_drop 25 = .ok (.iastore, 1) := by decide +kernel
theorem dX0_drop_26 : decode cX0_drop 26 = .ok (.aload_n 0, 1) := by decide +kernel
theorem dX0_drop_27 : decode cX0_drop 27 = .ok (.getfield 15, 3) := by decide +kernel
theorem dX0_drop_30 : decode cX0_drop 30 = .ok (.iload_n 2, 1) := by decide +kernel
theorem dX0_drop_31 : decode cX0_drop 31 = .ok (.aload_n 0, 1) := by decide +kernel
theorem dX0_drop_32 : decode cX0_drop 32 = .ok (.getfield 15, 3) := by decide +kernel
theorem dX0_drop_35 : decode cX0_drop 35 = .ok (.iload_n 2, 1) := by decide +kernel
theorem dX0_drop_36 : decode cX0_drop 36 = .ok (.iconst 1, 1) := by decide +kernel
theorem dX0_drop_37 : decode cX0_drop 37 = .ok (.iadd, 1) := by decide +kernel
theorem dX0_drop_38 : decode cX0_drop 38 = .ok (.iaload, 1) := by decide +kernel
theorem dX0_drop_39 : decode cX0_drop 39 = .ok (.iastore, 1) := by decide +kernel
theorem dX0_drop_40 : decode cX0_drop 40 = .ok (.aload_n 0, 1) := by decide +kernel
theorem dX0_drop_41 : decode cX0_drop 41 = .ok (.getfield 18, 3) := by decide +kernel
theorem dX0_drop_44 : decode cX0_drop 44 = .ok (.iload_n 2, 1) := by decide +kernel
theorem dX0_drop_45 : decode cX0_drop 45 = .ok (.aload_n 0, 1) := by decide +kernel
theorem dX0_drop_46 : decode cX0_drop 46 = .ok (.getfield 18, 3) := by decide +kernel
theorem dX0_drop_49 : decode cX0_drop 49 = .ok (.iload_n 2, 1) := by decide +kernel
theorem dX0_drop_50 : decode cX0_drop 50 = .ok (.iconst 1, 1) := by decide +kernel
theorem dX0_drop_51 : decode cX0_drop 51 = .ok (.iadd, 1) := by decide +kernel
theorem dX0_drop_52 : decode cX0_drop 52 = .ok (.iaload, 1) := by decide +kernel
theorem dX0_drop_53 : decode cX0_drop 53 = .ok (.iastore, 1) := by decide +kernel
theorem dX0_drop_54 : decode cX0_drop 54 = .ok (.aload_n 0, 1) := by decide +kernel
theorem dX0_drop_55 : decode cX0_drop 55 = .ok (.getfield 21, 3) := by decide +kernel
theorem dX0_drop_58 : decode cX0_drop 58 = .ok (.iload_n 2, 1) := by decide +kernel
theorem dX0_drop_59 : decode cX0_drop 59 = .ok (.aload_n 0, 1) := by decide +kernel
theorem dX0_drop_60 : decode cX0_drop 60 = .ok (.getfield 21, 3) := by decide +kernel
theorem dX0_drop_63 : decode cX0_drop 63 = .ok (.iload_n 2, 1) := by decide +kernel
theorem dX0_drop_64 : decode cX0_drop 64 = .ok (.iconst 1, 1) := by decide +kernel
theorem dX0_drop_65 : decode cX0_drop 65 = .ok (.iadd, 1) := by decide +kernel
theorem dX0_drop_66 : decode cX0_drop 66 = .ok (.iaload, 1) := by decide +kernel
theorem dX0_drop_67 : decode cX0_drop 67 = .ok (.iastore, 1) := by decide +kernel
theorem dX0_drop_68 : decode cX0_drop 68 = .ok (.iinc 2 1, 3) := by decide +kernel
theorem dX0_drop_71 : decode cX0_drop 71 = .ok (.goto (-69), 3) := by decide +kernel
theorem dX0_drop_74 : decode cX0_drop 74 = .ok (.aload_n 0, 1) := by decide +kernel
theorem dX0_drop_75 : decode cX0_drop 75 = .ok (.dup, 1) := by decide +kernel
theorem dX0_drop_76 : decode cX0_drop 76 = .ok (.getfield 24, 3) := by decide +kernel
theorem dX0_drop_79 : decode cX0_drop 79 = .ok (.iconst 1, 1) := by decide +kernel
theorem dX0_drop_80 : decode cX0_drop 80 = .ok (.isub, 1) := by decide +kernel
theorem dX0_drop_81 : decode cX0_drop 81 = .ok (.putfield 24, 3) := by decide +kernel
theorem dX0_drop_84 : decode cX0_drop 84 = .ok (.return_, 1) := by decide +kernel
theorem dX0_clear_0 : decode cX0_clear 0 = .ok (.aload_n 0, 1) := by decide +kernel
theorem dX0_clear_1 : decode cX0_clear 1 = .ok (.iconst 0, 1) := by decide +kernel
theorem dX0_clear_2 : decode cX0_clear 2 = .ok (.putfield 24, 3) := by decide +kernel
theorem dX0_clear_5 : decode cX0_clear 5 = .ok (.aload_n 0, 1) := by decide +kernel
theorem dX0_clear_6 : decode cX0_clear 6 = .ok (.iconst 0, 1) := by decide +kernel
theorem dX0_clear_7 : decode cX0_clear 7 = .ok (.putfield 38, 3) := by decide +kernel
theorem dX0_clear_10 : decode cX0_clear 10 = .ok (.aload_n 0, 1) := by decide +kernel
theorem dX0_clear_11 : decode cX0_clear 11 = .ok (.iconst 0, 1) := by decide +kernel
theorem dX0_clear_12 : decode cX0_clear 12 = .ok (.putfield 41, 3) := by decide +kernel
theorem dX0_clear_15 : decode cX0_clear 15 = .ok (.return_, 1) := by decide +kernel
theorem dX0_copyFrom_0 : decode cX0_copyFrom 0 = .ok (.iconst 0, 1) := by decide +kernel
theorem dX0_copyFrom_1 : decode cX0_copyFrom 1 = .ok (.istore_n 2, 1) := by decide +kernel
theorem dX0_copyFrom_2 : decode cX0_copyFrom 2 = .ok (.iload_n 2, 1) := by decide +kernel
theorem dX0_copyFrom_3 : decode cX0_copyFrom 3 = .ok (.aload_n 1, 1) := by decide +kernel
theorem dX0_copyFrom_4 : decode cX0_copyFrom 4 = .ok (.getfield 24, 3) := by decide +kernel
theorem dX0_copyFrom_7 : decode cX0_copyFrom 7 = .ok (.if_icmp .ge 57, 3) := by decide +kernel
theorem dX0_copyFrom_10 : decode cX0_copyFrom 10 = .ok (.aload_n 0, 1) := by decide +kernel
theorem dX0_copyFrom_11 : decode cX0_copyFrom 11 = .ok (.getfield 9, 3) := by decide +kernel
theorem dX0_copyFrom_14 : decode cX0_copyFrom 14 = .ok (.iload_n 2, 1) := by decide +kernel
theorem dX0_copyFrom_15 : decode cX0_copyFrom 15 = .ok (.aload_n 1, 1) := by decide +kernel
theorem dX0_copyFrom_16 : decode cX0_copyFrom 16 = .ok (.getfield 9, 3) := by decide +kernel
theorem dX0_copyFrom_19 : decode cX0_copyFrom 19 = .ok (.iload_n 2, 1) := by decide +kernel
theorem dX0_copyFrom_20 : decode cX0_copyFrom 20 = .ok (.iaload, 1) := by decide +kernel
theorem dX0_copyFrom_21 : decode cX0_copyFrom 21 = .ok (.iastore, 1) := by decide +kernel
theorem dX0_copyFrom_22 : decode cX0_copyFrom 22 = .ok (.aload_n 0, 1) := by decide +kernel
theorem dX0_copyFrom_23 : decode cX0_copyFrom 23 = .ok (.getfield 15, 3) := by decide +kernel
theorem dX0_copyFrom_26 : decode cX0_copyFrom 26 = .ok (.iload_n 2, 1) := by decide +kernel
theorem dX0_copyFrom_27 : decode cX0_copyFrom 27 = .ok (.aload_n 1, 1) := by decide +kernel
theorem dX0_copyFrom_28 : decode cX0_copyFrom 28 = .ok (.getfield 15, 3) := by decide +kernel
theorem dX0_copyFrom_31 : decode cX0_copyFrom 31 = .ok (.iload_n 2, 1) := by decide +kernel
theorem dX0_copyFrom_32 : decode cX0_copyFrom 32 = .ok (.iaload, 1) := by decide +kernel
theorem dX0_copyFrom_33 : decode cX0_copyFrom 33 = .ok (.iastore, 1) := by decide +kernel
theorem dX0_copyFrom_34 : decode cX0_copyFrom 34 = .ok (.aload_n 0, 1) := by decide +kernel
theorem dX0_copyFrom_35 : decode cX0_copyFrom 35 = .ok (.getfield 18, 3) := by decide +kernel
theorem dX0_copyFrom_38 : decode cX0_copyFrom 38 = .ok (.iload_n 2, 1) := by decide +kernel
theorem dX0_copyFrom_39 : decode cX0_copyFrom 39 = .ok (.aload_n 1, 1) := by decide +kernel
theorem dX0_copyFrom_40 : decode cX0_copyFrom 40 = .ok (.getfield 18, 3) := by decide +kernel
theorem dX0_copyFrom_43 : decode cX0_copyFrom 43 = .ok (.iload_n 2, 1) := by decide +kernel
theorem dX0_copyFrom_44 : decode cX0_copyFrom 44 = .ok (.iaload, 1) := by decide +kernel
theorem dX0_copyFrom_45 : decode cX0_copyFrom 45 = .ok (.iastore, 1) := by decide +kernel
theorem dX0_copyFrom_46 : decode cX0_copyFrom 46 = .ok (.aload_n 0, 1) := by decide +kernel
theorem dX0_copyFrom_47 : decode cX0_copyFrom 47 = .ok (.getfield 21, 3) := by decide +kernel
theorem dX0_copyFrom_50 : decode cX0_copyFrom 50 = .ok (.iload_n 2, 1) := by decide +kernel
theorem dX0_copyFrom_51 : decode cX0_copyFrom 51 = .ok (.aload_n 1, 1) := by decide +kernel
theorem dX0_copyFrom_52 : decode cX0_copyFrom 52 = .ok (.getfield 21, 3) := by decide +kernel
theorem dX0_copyFrom_55 : decode cX0_copyFrom 55 = .ok (.iload_n 2, 1) := by decide +kernel
theorem dX0_copyFrom_56 : decode cX0_copyFrom 56 = .ok (.iaload, 1) := by decide +kernel
theorem dX0_copyFrom_57 : decode cX0_copyFrom 57 = .ok (.iastore, 1) := by decide +kernel
theorem dX0_copyFrom_58 : decode cX0_copyFrom 58 = .ok (.iinc 2 1, 3) := by decide +kernel
theorem dX0_copyFrom_61 : decode cX0_copyFrom 61 = .ok (.goto (-59), 3) := by decide +kernel
theorem dX0_copyFrom_64 : decode cX0_copyFrom 64 = .ok (.aload_n 0, 1) := by decide +kernel
theorem dX0_copyFrom_65 : decode cX0_copyFrom 65 = .ok (.aload_n 1, 1) := by decide +kernel
theorem dX0_copyFrom_66 : decode cX0_copyFrom 66 = .ok (.getfield 24, 3) := by decide +kernel
theorem dX0_copyFrom_69 : decode cX0_copyFrom 69 = .ok (.putfield 24, 3) := by decide +kernel
theorem dX0_copyFrom_72 : decode cX0_copyFrom 72 = .ok (.aload_n 0, 1) := by decide +kernel
theorem dX0_copyFrom_73 : decode cX0_copyFrom 73 = .ok (.aload_n 1, 1) := by decide +kernel
theorem dX0_copyFrom_74 : decode cX0_copyFrom 74 = .ok (.getfield 38, 3) := by decide +kernel
theorem dX0_copyFrom_77 : decode cX0_copyFrom 77 = .ok (.putfield 38, 3) := by decide +kernel
theorem dX0_copyFrom_80 : decode cX0_copyFrom 80 = .ok (.aload_n 0, 1) := by decide +kernel
theorem dX0_copyFrom_81 : decode cX0_copyFrom 81 = .ok (.aload_n 1, 1) := by decide +kernel
theorem dX0_copyFrom_82 : decode cX0_copyFrom 82 = .ok (.getfield 41, 3) := by decide +kernel
theorem dX0_copyFrom_85 : decode cX0_copyFrom 85 = .ok (.putfield 41, 3) := by decide +kernel
theorem dX0_copyFrom_88 : decode cX0_copyFrom 88 = .ok (.return_, 1) := by decide +kernel
theorem dX1_init_0 : decode cX1_init 0 = .ok (.aload_n 0, 1) := by decide +kernel
theorem dX1_init_1 : decode cX1_init 1 = .ok (.invokespecial 3, 3) := by decide +kernel
theorem dX1_init_4 : decode cX1_init 4 = .ok (.aload_n 0, 1) := by decide +kernel
theorem dX1_init_5 : decode cX1_init 5 = .ok (.bipush 41, 2) := by decide +kernel
theorem dX1_init_7 : decode cX1_init 7 = .ok (.newarray .int, 2) := by decide +kernel
theorem dX1_init_9 : decode cX1_init 9 = .ok (.putfield 9, 3) := by decide +kernel
theorem dX1_init_12 : decode cX1_init 12 = .ok (.return_, 1) := by decide +kernel
theorem dX1_split_0 : decode cX1_split 0 = .ok (.aload_n 1, 1) := by decide +kernel
theorem dX1_split_1 : decode cX1_split 1 = .ok (.getfield 15, 3) := by decide +kernel
theorem dX1_split_4 : decode cX1_split 4 = .ok (.iload 4, 2) := by decide +kernel
theorem dX1_split_6 : decode cX1_split 6 = .ok (.iaload, 1) := by decide +kernel
theorem dX1_split_7 : decode cX1_split 7 = .ok (.iload_n 2, 1) := by decide +kernel
theorem dX1_split_8 : decode cX1_split 8 = .ok (.isub, 1) := by decide +kernel
theorem dX1_split_9 : decode cX1_split 9 = .ok (.istore 5, 2) := by decide +kernel
theorem dX1_split_11 : decode cX1_split 11 = .ok (.aload_n 1, 1) := by decide +kernel
theorem dX1_split_12 : decode cX1_split 12 = .ok (.getfield 20, 3) := by decide +kernel
theorem dX1_split_15 : decode cX1_split 15 = .ok (.iload 4, 2) := by decide +kernel
theorem dX1_split_17 : decode cX1_split 17 = .ok (.iaload, 1) := by decide +kernel
theorem dX1_split_18 : decode cX1_split 18 = .ok (.iload_n 3, 1) := by decide +kernel
theorem dX1_split_19 : decode cX1_split 19 = .ok (.isub, 1) := by decide +kernel
theorem dX1_split_20 : decode cX1_split 20 = .ok (.istore 6, 2) := by decide +kernel
theorem dX1_split_22 : decode cX1_split 22 = .ok (.aload_n 0, 1) := by decide +kernel
theorem dX1_split_23 : decode cX1_split 23 = .ok (.iconst 0, 1) := by decide +kernel
theorem dX1_split_24 : decode cX1_split 24 = .ok (.putfield 23, 3) := by decide +kernel
theorem dX1_split_27 : decode cX1_split 27 = .ok (.aload_n 0, 1) := by decide +kernel
theorem dX1_split_28 : decode cX1_split 28 = .ok (.iconst 0, 1) := by decide +kernel
theorem dX1_split_29 : decode cX1_split 29 = .ok (.putfield 27, 3) := by decide +kernel
theorem dX1_split_32 : decode cX1_split 32 = .ok (.aload_n 0, 1) := by decide +kernel
theorem dX1_split_33 : decode cX1_split 33 = .ok (.iconst 0, 1) := by decide +kernel
theorem dX1_split_34 : decode cX1_split 34 = .ok (.putfield 30, 3) := by decide +kernel
theorem dX1_split_37 : decode cX1_split 37 = .ok (.aload_n 0, 1) := by decide +kernel
theorem dX1_split_38 : decode cX1_split 38 = .ok (.iconst 0, 1) := by decide +kernel
theorem dX1_split_39 : decode cX1_split 39 = .ok (.putfield 33, 3) := by decide +kernel
theorem dX1_split_42 : decode cX1_split 42 = .ok (.aload_n 0, 1) := by decide +kernel
theorem dX1_split_43 : decode cX1_split 43 = .ok (.iconst 0, 1) := by decide +kernel
theorem dX1_split_44 : decode cX1_split 44 = .ok (.putfield 36, 3) := by decide +kernel
theorem dX1_split_47 : decode cX1_split 47 = .ok (.iconst 0, 1) := by decide +kernel
theorem dX1_split_48 : decode cX1_split 48 = .ok (.istore 7, 2) := by decide +kernel
theorem dX1_split_50 : decode cX1_split 50 = .ok (.iload 7, 2) := by decide +kernel
theorem dX1_split_52 : decode cX1_split 52 = .ok (.aload_n 1, 1) := by decide +kernel
theorem dX1_split_53 : decode cX1_split 53 = .ok (.getfield 39, 3) := by decide +kernel
theorem dX1_split_56 : decode cX1_split 56 = .ok (.if_icmp .ge 150, 3) := by decide +kernel
theorem dX1_split_59 : decode cX1_split 59 = .ok (.aload_n 1, 1) := by decide +kernel
theorem dX1_split_60 : decode cX1_split 60 = .ok (.getfield 15, 3) := by decide +kernel
theorem dX1_split_63 : decode cX1_split 63 = .ok (.iload 7, 2) := by decide +kernel
theorem dX1_split_65 : decode cX1_split 65 = .ok (.iaload, 1) := by decide +kernel
theorem dX1_split_66 : decode cX1_split 66 = .ok (.iload_n 2, 1) := by decide +kernel
theorem dX1_split_67 : decode cX1_split 67 = .ok (.isub, 1) := by decide +kernel
theorem dX1_split_68 : decode cX1_split 68 = .ok (.istore 8, 2) := by decide +kernel
theorem dX1_split_70 : decode cX1_split 70 = .ok (.aload_n 1, 1) := by decide +kernel
theorem dX1_split_71 : decode cX1_split 71 = .ok (.getfield 20, 3) := by decide +kernel
theorem dX1_split_74 : decode cX1_split 74 = .ok (.iload 7, 2) := by decide +kernel
theorem dX1_split_76 : decode cX1_split 76 = .ok (.iaload, 1) := by decide +kernel
theorem dX1_split_77 : decode cX1_split 77 = .ok (.iload_n 3, 1) := by decide +kernel
theorem dX1_split_78 : decode cX1_split 78 = .ok (.isub, 1) := by decide +kernel
theorem dX1_split_79 : decode cX1_split 79 = .ok (.istore 9, 2) := by decide +kernel
theorem dX1_split_81 : decode cX1_split 81 = .ok (.iload 5, 2) := by decide +kernel
theorem dX1_split_83 : decode cX1_split 83 = .ok (.iload 9, 2) := by decide +kernel
theorem dX1_split_85 : decode cX1_split 85 = .ok (.imul, 1) := by decide +kernel
theorem dX1_split_86 : decode cX1_split 86 = .ok (.iload 6, 2) := by decide +kernel
theorem dX1_split_88 : decode cX1_split 88 = .ok (.iload 8, 2) := by decide +kernel
theorem dX1_split_90 : decode cX1_split 90 = .ok (.imul, 1) := by decide +kernel
theorem dX1_split_91 : decode cX1_split 91 = .ok (.isub, 1) := by decide +kernel
theorem dX1_split_92 : decode cX1_split 92 = .ok (.istore 10, 2) := by decide +kernel
theorem dX1_split_94 : decode cX1_split 94 = .ok (.iload 5, 2) := by decide +kernel
theorem dX1_split_96 : decode cX1_split 96 = .ok (.iload 8, 2) := by decide +kernel
theorem dX1_split_98 : decode cX1_split 98 = .ok (.imul, 1) := by decide +kernel
theorem dX1_split_99 : decode cX1_split 99 = .ok (.iload 6, 2) := by decide +kernel
theorem dX1_split_101 : decode cX1_split 101 = .ok (.iload 9, 2) := by decide +kernel
theorem dX1_split_103 : decode cX1_split 103 = .ok (.imul, 1) := by decide +kernel
theorem dX1_split_104 : decode cX1_split 104 = .ok (.iadd, 1) := by decide +kernel
theorem dX1_split_105 : decode cX1_split 105 = .ok (.istore 11, 2) := by decide +kernel
theorem dX1_split_107 : decode cX1_split 107 = .ok (.iconst 1, 1) := by decide +kernel
theorem dX1_split_108 : decode cX1_split 108 = .ok (.iload 7, 2) := by decide +kernel
theorem dX1_split_110 : decode cX1_split 110 = .ok (.ishl, 1) := by decide +kernel
theorem dX1_split_111 : decode cX1_split 111 = .ok (.istore 12, 2) := by decide +kernel
theorem dX1_split_113 : decode cX1_split 113 = .ok (.iload 10, 2) := by decide +kernel
theorem dX1_split_115 : decode cX1_split 115 = .ok (.ifCond .le 17, 3) := by decide +kernel
theorem dX1_split_118 : decode cX1_split 118 = .ok (.aload_n 0, 1) := by decide +kernel
theorem dX1_split_119 : decode cX1_split 119 = .ok (.dup, 1) := by decide +kernel
theorem dX1_split_120 : decode cX1_split 120 = .ok (.getfield 27, 3) := by decide +kernel
theorem dX1_split_123 : decode cX1_split 123 = .ok (.iload 12, 2) := by decide +kernel
theorem dX1_split_125 : decode cX1_split 125 = .ok (.ior, 1) := by decide +kernel
theorem dX1_split_126 : decode cX1_split 126 = .ok (.putfield 27, 3) := by decide +kernel
theorem dX1_split_129 : decode cX1_split 129 = .ok (.goto 71, 3) := by decide +kernel
theorem dX1_split_132 : decode cX1_split 132 = .ok (.iload 10, 2) := by decide +kernel
theorem dX1_split_134 : decode cX1_split 134 = .ok (.ifCond .ge 17, 3) := by decide +kernel
theorem dX1_split_137 : decode cX1_split 137 = .ok (.aload_n 0, 1) := by decide +kernel
theorem dX1_split_138 : decode cX1_split 138 = .ok (.dup, 1) := by decide +kernel
theorem dX1_split_139 : decode cX1_split 139 = .ok (.getfield 30, 3) := by decide +kernel
theorem dX1_split_142 : decode cX1_split 142 = .ok (.iload 12, 2) := by decide +kernel
theorem dX1_split_144 : decode cX1_split 144 = .ok (.ior, 1) := by decide +kernel
theorem dX1_split_145 : decode cX1_split 145 = .ok (.putfield 30, 3) := by decide +kernel
theorem dX1_split_148 : decode cX1_split 148 = .ok (.goto 52, 3) := by decide +kernel
theorem dX1_split_151 : decode cX1_split 151 = .ok (.iload 11, 2) := by decide +kernel
theorem dX1_split_153 : decode cX1_split 153 = .ok (.ifCond .le 17, 3) := by decide +kernel
theorem dX1_split_156 : decode cX1_split 156 = .ok (.aload_n 0, 1) := by decide +kernel
theorem dX1_split_157 : decode cX1_split 157 = .ok (.dup, 1) := by decide +kernel
theorem dX1_split_158 : decode cX1_split 158 = .ok (.getfield 33, 3) := by decide +kernel
theorem dX1_split_161 : decode cX1_split 161 = .ok (.iload 12, 2) := by decide +kernel
theorem dX1_split_163 : decode cX1_split 163 = .ok (.ior, 1) := by decide +kernel
theorem dX1_split_164 : decode cX1_split 164 = .ok (.putfield 33, 3) := by decide +kernel
theorem dX1_split_167 : decode cX1_split 167 = .ok (.goto 33, 3) := by decide +kernel
theorem dX1_split_170 : decode cX1_split 170 = .ok (.iload 11, 2) := by decide +kernel
theorem dX1_split_172 : decode cX1_split 172 = .ok (.ifCond .ge 17, 3) := by decide +kernel
theorem dX1_split_175 : decode cX1_split 175 = .ok (.aload_n 0, 1) := by decide +kernel
theorem dX1_split_176 : decode cX1_split 176 = .ok (.dup, 1) := by decide +kernel
theorem dX1_split_177 : decode cX1_split 177 = .ok (.getfield 36, 3) := by decide +kernel
theorem dX1_split_180 : decode cX1_split 180 = .ok (.iload 12, 2) := by decide +kernel
theorem dX1_split_182 : decode cX1_split 182 = .ok (.ior, 1) := by decide +kernel
theorem dX1_split_183 : decode cX1_split 183 = .ok (.putfield 36, 3) := by decide +kernel
theorem dX1_split_186 : decode cX1_split 186 = .ok (.goto 14, 3) := by decide +kernel
theorem dX1_split_189 : decode cX1_split 189 = .ok (.aload_n 0, 1) := by decide +kernel
theorem dX1_split_190 : decode cX1_split 190 = .ok (.dup, 1) := by decide +kernel
theorem dX1_split_191 : decode cX1_split 191 = .ok (.getfield 23, 3) := by decide +kernel
theorem dX1_split_194 : decode cX1_split 194 = .ok (.iload 12, 2) := by decide +kernel
theorem dX1_split_196 : decode cX1_split 196 = .ok (.ior, 1) := by decide +kernel
theorem dX1_split_197 : decode cX1_split 197 = .ok (.putfield 23, 3) := by decide +kernel
theorem dX1_split_200 : decode cX1_split 200 = .ok (.iinc 7 1, 3) := by decide +kernel
theorem dX1_split_203 : decode cX1_split 203 = .ok (.goto (-153), 3) := by decide +kernel
theorem dX1_split_206 : decode cX1_split 206 = .ok (.return_, 1) := by decide +kernel
theorem dX1_depthAt_0 : decode cX1_depthAt 0 = .ok (.aload_n 1, 1) := by decide +kernel
theorem dX1_depthAt_1 : decode cX1_depthAt 1 = .ok (.getfield 39, 3) := by decide +kernel
theorem dX1_depthAt_4 : decode cX1_depthAt 4 = .ok (.istore 5, 2) := by decide +kernel
theorem dX1_depthAt_6 : decode cX1_depthAt 6 = .ok (.iconst 0, 1) := by decide +kernel
theorem dX1_depthAt_7 : decode cX1_depthAt 7 = .ok (.istore 6, 2) := by decide +kernel
theorem dX1_depthAt_9 : decode cX1_depthAt 9 = .ok (.iload 6, 2) := by decide +kernel
theorem dX1_depthAt_11 : decode cX1_depthAt 11 = .ok (.aload_n 1, 1) := by decide +kernel
theorem dX1_depthAt_12 : decode cX1_depthAt 12 = .ok (.getfield 39, 3) := by decide +kernel
theorem dX1_depthAt_15 : decode cX1_depthAt 15 = .ok (.if_icmp .ge 94, 3) := by decide +kernel
theorem dX1_depthAt_18 : decode cX1_depthAt 18 = .ok (.iload 5, 2) := by decide +kernel
theorem dX1_depthAt_20 : decode cX1_depthAt 20 = .ok (.iload 4, 2) := by decide +kernel
theorem dX1_depthAt_22 : decode cX1_depthAt 22 = .ok (.if_icmp .le 87, 3) := by decide +kernel
theorem dX1_depthAt_25 : decode cX1_depthAt 25 = .ok (.aload_n 1, 1) := by decide +kernel
theorem dX1_depthAt_26 : decode cX1_depthAt 26 = .ok (.iload 6, 2) := by decide +kernel
theorem dX1_depthAt_28 : decode cX1_depthAt 28 = .ok (.iload_n 2, 1) := by decide +kernel
theorem dX1_depthAt_29 : decode cX1_depthAt 29 = .ok (.iload_n 3, 1) := by decide +kernel
theorem dX1_depthAt_30 : decode cX1_depthAt 30 = .ok (.invokevirtual 42, 3) := by decide +kernel
theorem dX1_depthAt_33 : decode cX1_depthAt 33 = .ok (.ifCond .ne 70, 3) := by decide +kernel
theorem dX1_depthAt_36 : decode cX1_depthAt 36 = .ok (.aload_n 0, 1) := by decide +kernel
theorem dX1_depthAt_37 : decode cX1_depthAt 37 = .ok (.aload_n 1, 1) := by decide +kernel
theorem dX1_depthAt_38 : decode cX1_depthAt 38 = .ok (.iload_n 2, 1) := by decide +kernel
theorem dX1_depthAt_39 : decode cX1_depthAt 39 = .ok (.iload_n 3, 1) := by decide +kernel
theorem dX1_depthAt_40 : decode cX1_depthAt 40 = .ok (.iload 6, 2) := by decide +kernel
theorem dX1_depthAt_42 : decode cX1_depthAt 42 = .ok (.invokevirtual 46, 3) := by decide +kernel
theorem dX1_depthAt_45 : decode cX1_depthAt 45 = .ok (.aload_n 0, 1) := by decide +kernel
theorem dX1_depthAt_46 : decode cX1_depthAt 46 = .ok (.getfield 27, 3) := by decide +kernel
theorem dX1_depthAt_49 : decode cX1_depthAt 49 = .ok (.invokestatic 50, 3) := by decide +kernel
theorem dX1_depthAt_52 : decode cX1_depthAt 52 = .ok (.aload_n 0, 1) := by decide +kernel
theorem dX1_depthAt_53 : decode cX1_depthAt 53 = .ok (.getfield 30, 3) := by decide +kernel
theorem dX1_depthAt_56 : decode cX1_depthAt 56 = .ok (.invokestatic 50, 3) := by decide +kernel
theorem dX1_depthAt_59 : decode cX1_depthAt 59 = .ok (.invokestatic 56, 3) := by decide +kernel
theorem dX1_depthAt_62 : decode cX1_depthAt 62 = .ok (.istore 7, 2) := by decide +kernel
theorem dX1_depthAt_64 : decode cX1_depthAt 64 = .ok (.aload_n 0, 1) := by decide +kernel
theorem dX1_depthAt_65 : decode cX1_depthAt 65 = .ok (.getfield 33, 3) := by decide +kernel
theorem dX1_depthAt_68 : decode cX1_depthAt 68 = .ok (.invokestatic 50, 3) := by decide +kernel
theorem dX1_depthAt_71 : decode cX1_depthAt 71 = .ok (.aload_n 0, 1) := by decide +kernel
theorem dX1_depthAt_72 : decode cX1_depthAt 72 = .ok (.getfield 36, 3) := by decide +kernel
theorem dX1_depthAt_75 : decode cX1_depthAt 75 = .ok (.invokestatic 50, 3) := by decide +kernel
theorem dX1_depthAt_78 : decode cX1_depthAt 78 = .ok (.invokestatic 56, 3) := by decide +kernel
theorem dX1_depthAt_81 : decode cX1_depthAt 81 = .ok (.istore 8, 2) := by decide +kernel
theorem dX1_depthAt_83 : decode cX1_depthAt 83 = .ok (.iload 5, 2) := by decide +kernel
theorem dX1_depthAt_85 : decode cX1_depthAt 85 = .ok (.aload_n 0, 1) := by decide +kernel
theorem dX1_depthAt_86 : decode cX1_depthAt 86 = .ok (.getfield 23, 3) := by decide +kernel
theorem dX1_depthAt_89 : decode cX1_depthAt 89 = .ok (.invokestatic 50, 3) := by decide +kernel
theorem dX1_depthAt_92 : decode cX1_depthAt 92 = .ok (.iload 7, 2) := by decide +kernel
theorem dX1_depthAt_94 : decode cX1_depthAt 94 = .ok (.iadd, 1) := by decide +kernel
theorem dX1_depthAt_95 : decode cX1_depthAt 95 = .ok (.iload 8, 2) := by decide +kernel
theorem dX1_depthAt_97 : decode cX1_depthAt 97 = .ok (.iadd, 1) := by decide +kernel
theorem dX1_depthAt_98 : decode cX1_depthAt 98 = .ok (.invokestatic 56, 3) := by decide +kernel
theorem dX1_depthAt_101 : decode cX1_depthAt 101 = .ok (.istore 5, 2) := by decide +kernel
theorem dX1_depthAt_103 : decode cX1_depthAt 103 = .ok (.iinc 6 1, 3) := by decide +kernel
theorem dX1_depthAt_106 : decode cX1_depthAt 106 = .ok (.goto (-97), 3) := by decide +kernel
theorem dX1_depthAt_109 : decode cX1_depthAt 109 = .ok (.iload 5, 2) := by decide +kernel
theorem dX1_depthAt_111 : decode cX1_depthAt 111 = .ok (.ireturn, 1) := by decide +kernel
theorem dX1_findDeepest_0 : decode cX1_findDeepest 0 = .ok (.aload_n 0, 1) := by decide +kernel
theorem dX1_findDeepest_1 : decode cX1_findDeepest 1 = .ok (.iconst 0, 1) := by decide +kernel
theorem dX1_findDeepest_2 : decode cX1_findDeepest 2 = .ok (.putfield 62, 3) := by decide +kernel
theorem dX1_findDeepest_5 : decode cX1_findDeepest 5 = .ok (.bipush (-20), 2) := by decide +kernel
theorem dX1_findDeepest_7 : decode cX1_findDeepest 7 = .ok (.istore_n 2, 1) := by decide +kernel
theorem dX1_findDeepest_8 : decode cX1_findDeepest 8 = .ok (.iload_n 2, 1) := by decide +kernel
theorem dX1_findDeepest_9 : decode cX1_findDeepest 9 = .ok (.bipush 20, 2) := by decide +kernel
theorem dX1_findDeepest_11 : decode cX1_findDeepest 11 = .ok (.if_icmp .gt 30, 3) := by decide +kernel
theorem dX1_findDeepest_14 : decode cX1_findDeepest 14 = .ok (.aload_n 0, 1) := by decide +kernel
theorem dX1_findDeepest_15 : decode cX1_findDeepest 15 = .ok (.getfield 9, 3) := by decide +kernel
theorem dX1_findDeepest_18 : decode cX1_findDeepest 18 = .ok (.iload_n 2, 1) := by decide +kernel
theorem dX1_findDeepest_19 : decode cX1_findDeepest 19 = .ok (.bipush 20, 2) := by decide +kernel
theorem dX1_findDeepest_21 : decode cX1_findDeepest 21 = .ok (.iadd, 1) := by decide +kernel
theorem dX1_findDeepest_22 : decode cX1_findDeepest 22 = .ok (.aload_n 1, 1) := by decide +kernel
theorem dX1_findDeepest_23 : decode cX1_findDeepest 23 = .ok (.getfield 20, 3) := by decide +kernel
theorem dX1_findDeepest_26 : decode cX1_findDeepest 26 = .ok (.aload_n 1, 1) := by decide +kernel
theorem dX1_findDeepest_27 : decode cX1_findDeepest 27 = .ok (.getfield 39, 3) := by decide +kernel
theorem dX1_findDeepest_30 : decode cX1_findDeepest 30 = .ok (.iload_n 2, 1) := by decide +kernel
theorem dX1_findDeepest_31 : decode cX1_findDeepest 31 = .ok (.invokestatic 65, 3) := by decide +kernel
theorem dX1_findDeepest_34 : decode cX1_findDeepest 34 = .ok (.iastore, 1) := by decide +kernel
theorem dX1_findDeepest_35 : decode cX1_findDeepest 35 = .ok (.iinc 2 1, 3) := by decide +kernel
theorem dX1_findDeepest_38 : decode cX1_findDeepest 38 = .ok (.goto (-30), 3) := by decide +kernel
theorem dX1_findDeepest_41 : decode cX1_findDeepest 41 = .ok (.bipush (-20), 2) := by decide +kernel
theorem dX1_findDeepest_43 : decode cX1_findDeepest 43 = .ok (.istore_n 2, 1) := by decide +kernel
theorem dX1_findDeepest_44 : decode cX1_findDeepest 44 = .ok (.iload_n 2, 1) := by decide +kernel
theorem dX1_findDeepest_45 : decode cX1_findDeepest 45 = .ok (.bipush 20, 2) := by decide +kernel
theorem dX1_findDeepest_47 : decode cX1_findDeepest 47 = .ok (.if_icmp .gt 34, 3) := by decide +kernel
theorem dX1_findDeepest_50 : decode cX1_findDeepest 50 = .ok (.aload_n 1, 1) := by decide +kernel
theorem dX1_findDeepest_51 : decode cX1_findDeepest 51 = .ok (.getfield 15, 3) := by decide +kernel
theorem dX1_findDeepest_54 : decode cX1_findDeepest 54 = .ok (.aload_n 1, 1) := by decide +kernel
theorem dX1_findDeepest_55 : decode cX1_findDeepest 55 = .ok (.getfield 39, 3) := by decide +kernel
theorem dX1_findDeepest_58 : decode cX1_findDeepest 58 = .ok (.iload_n 2, 1) := by decide +kernel
theorem dX1_findDeepest_59 : decode cX1_findDeepest 59 = .ok (.invokestatic 65, 3) := by decide +kernel
theorem dX1_findDeepest_62 : decode cX1_findDeepest 62 = .ok (.aload_n 0, 1) := by decide +kernel
theorem dX1_findDeepest_63 : decode cX1_findDeepest 63 = .ok (.getfield 62, 3) := by decide +kernel
theorem dX1_findDeepest_66 : decode cX1_findDeepest 66 = .ok (.if_icmp .le 9, 3) := by decide +kernel
theorem dX1_findDeepest_69 : decode cX1_findDeepest 69 = .ok (.aload_n 0, 1) := by decide +kernel
theorem dX1_findDeepest_70 : decode cX1_findDeepest 70 = .ok (.aload_n 1, 1) := by decide +kernel
theorem dX1_findDeepest_71 : decode cX1_findDeepest 71 = .ok (.iload_n 2, 1) := by decide +kernel
theorem dX1_findDeepest_72 : decode cX1_findDeepest 72 = .ok (.invokevirtual 69, 3) := by decide +kernel
theorem dX1_findDeepest_75 : decode cX1_findDeepest 75 = .ok (.iinc 2 1, 3) := by decide +kernel
theorem dX1_findDeepest_78 : decode cX1_findDeepest 78 = .ok (.goto (-34), 3) := by decide +kernel
theorem dX1_findDeepest_81 : decode cX1_findDeepest 81 = .ok (.return_, 1) := by decide +kernel
theorem dX1_searchColumn_0 : decode cX1_searchColumn 0 = .ok (.bipush (-20), 2) := by decide +kernel
theorem dX1_searchColumn_2 : decode cX1_searchColumn 2 = .ok (.istore_n 3, 1) := by decide +kernel
theorem dX1_searchColumn_3 : decode cX1_searchColumn 3 = .ok (.iload_n 3, 1) := by decide +kernel
theorem dX1_searchColumn_4 : decode cX1_searchColumn 4 = .ok (.bipush 20, 2) := by decide +kernel
theorem dX1_searchColumn_6 : decode cX1_searchColumn 6 = .ok (.if_icmp .gt 63, 3) := by decide +kernel
theorem dX1_searchColumn_9 : decode cX1_searchColumn 9 = .ok (.aload_n 0, 1) := by decide +kernel
theorem dX1_searchColumn_10 : decode cX1_searchColumn 10 = .ok (.getfield 9, 3) := by decide +kernel
theorem dX1_searchColumn_13 : decode cX1_searchColumn 13 = .ok (.iload_n 3, 1) := by decide +kernel
theorem dX1_searchColumn_14 : decode cX1_searchColumn 14 = .ok (.bipush 20, 2) := by decide +kernel
theorem dX1_searchColumn_16 : decode cX1_searchColumn 16 = .ok (.iadd, 1) := by decide +kernel
theorem dX1_searchColumn_17 : decode cX1_searchColumn 17 = .ok (.iaload, 1) := by decide +kernel
theorem dX1_searchColumn_18 : decode cX1_searchColumn 18 = .ok (.aload_n 0, 1) := by decide +kernel
theorem dX1_searchColumn_19 : decode cX1_searchColumn 19 = .ok (.getfield 62, 3) := by decide +kernel
theorem dX1_searchColumn_22 : decode cX1_searchColumn 22 = .ok (.if_icmp .le 41, 3) := by decide +kernel
theorem dX1_searchColumn_25 : decode cX1_searchColumn 25 = .ok (.aload_n 0, 1) := by decide +kernel
theorem dX1_searchColumn_26 : decode cX1_searchColumn 26 = .ok (.aload_n 1, 1) := by decide +kernel
theorem dX1_searchColumn_27 : decode cX1_searchColumn 27 = .ok (.iload_n 2, 1) := by decide +kernel
theorem dX1_searchColumn_28 : decode cX1_searchColumn 28 = .ok (.iload_n 3, 1) := by decide +kernel
theorem dX1_searchColumn_29 : decode cX1_searchColumn 29 = .ok (.aload_n 0, 1) := by decide +kernel
theorem dX1_searchColumn_30 : decode cX1_searchColumn 30 = .ok (.getfield 62, 3) := by decide +kernel
theorem dX1_searchColumn_33 : decode cX1_searchColumn 33 = .ok (.invokevirtual 73, 3) := by decide +kernel
theorem dX1_searchColumn_36 : decode cX1_searchColumn 36 = .ok (.istore 4, 2) := by decide +kernel
theorem dX1_searchColumn_38 : decode cX1_searchColumn 38 = .ok (.iload 4, 2) := by decide +kernel
theorem dX1_searchColumn_40 : decode cX1_searchColumn 40 = .ok (.aload_n 0, 1) := by decide +kernel
theorem dX1_searchColumn_41 : decode cX1_searchColumn 41 = .ok (.getfield 62, 3) := by decide +kernel
theorem dX1_searchColumn_44 : decode cX1_searchColumn 44 = .ok (.if_icmp .le 19, 3) := by decide +kernel
theorem dX1_searchColumn_47 : decode cX1_searchColumn 47 = .ok (.aload_n 0, 1) := by decide +kernel
theorem dX1_searchColumn_48 : decode cX1_searchColumn 48 = .ok (.iload 4, 2) := by decide +kernel
theorem dX1_searchColumn_50 : decode cX1_searchColumn 50 = .ok (.putfield 62, 3) := by decide +kernel
theorem dX1_searchColumn_53 : decode cX1_searchColumn 53 = .ok (.aload_n 0, 1) := by decide +kernel
theorem dX1_searchColumn_54 : decode cX1_searchColumn 54 = .ok (.iload_n 2, 1) := by decide +kernel
theorem dX1_searchColumn_55 : decode cX1_searchColumn 55 = .ok (.putfield 77, 3) := by decide +kernel
theorem dX1_searchColumn_58 : decode cX1_searchColumn 58 = .ok (.aload_n 0, 1) := by decide +kernel
theorem dX1_searchColumn_59 : decode cX1_searchColumn 59 = .ok (.iload_n 3, 1) := by decide +kernel
theorem dX1_searchColumn_60 : decode cX1_searchColumn 60 = .ok (.putfield 80, 3) := by decide +kernel
theorem dX1_searchColumn_63 : decode cX1_searchColumn 63 = .ok (.iinc 3 1, 3) := by decide +kernel
theorem dX1_searchColumn_66 : decode cX1_searchColumn 66 = .ok (.goto (-63), 3) := by decide +kernel
theorem dX1_searchColumn_69 : decode cX1_searchColumn 69 = .ok (.return_, 1) := by decide +kernel
theorem dX1_boundOf_0 : decode cX1_boundOf 0 = .ok (.iconst 0, 1) := by decide +kernel
theorem dX1_boundOf_1 : decode cX1_boundOf 1 = .ok (.istore_n 3, 1) := by decide +kernel
theorem dX1_boundOf_2 : decode cX1_boundOf 2 = .ok (.iconst 0, 1) := by decide +kernel
theorem dX1_boundOf_3 : decode cX1_boundOf 3 = .ok (.istore 4, 2) := by decide +kernel
theorem dX1_boundOf_5 : decode cX1_boundOf 5 = .ok (.iconst 0, 1) := by decide +kernel
theorem dX1_boundOf_6 : decode cX1_boundOf 6 = .ok (.istore 5, 2) := by decide +kernel
theorem dX1_boundOf_8 : decode cX1_boundOf 8 = .ok (.iload 5, 2) := by decide +kernel
theorem dX1_boundOf_10 : decode cX1_boundOf 10 = .ok (.iload_n 1, 1) := by decide +kernel
theorem dX1_boundOf_11 : decode cX1_boundOf 11 = .ok (.if_icmp .ge 50, 3) := by decide +kernel
theorem dX1_boundOf_14 : decode cX1_boundOf 14 = .ok (.iload 5, 2) := by decide +kernel
theorem dX1_boundOf_16 : decode cX1_boundOf 16 = .ok (.aload_n 0, 1) := by decide +kernel
theorem dX1_boundOf_17 : decode cX1_boundOf 17 = .ok (.arraylength, 1) := by decide +kernel
theorem dX1_boundOf_18 : decode cX1_boundOf 18 = .ok (.if_icmp .ge 43, 3) := by decide +kernel
theorem dX1_boundOf_21 : decode cX1_boundOf 21 = .ok (.iload_n 3, 1) := by decide +kernel
theorem dX1_boundOf_22 : decode cX1_boundOf 22 = .ok (.aload_n 0, 1) := by decide +kernel
theorem dX1_boundOf_23 : decode cX1_boundOf 23 = .ok (.iload 5, 2) := by decide +kernel
theorem dX1_boundOf_25 : decode cX1_boundOf 25 = .ok (.iaload, 1) := by decide +kernel
theorem dX1_boundOf_26 : decode cX1_boundOf 26 = .ok (.iload_n 2, 1) := by decide +kernel
theorem dX1_boundOf_27 : decode cX1_boundOf 27 = .ok (.if_icmp .gt 7, 3) := by decide +kernel
theorem dX1_boundOf_30 : decode cX1_boundOf 30 = .ok (.iconst 1, 1) := by decide +kernel
theorem dX1_boundOf_31 : decode cX1_boundOf 31 = .ok (.goto 4, 3) := by decide +kernel
theorem dX1_boundOf_34 : decode cX1_boundOf 34 = .ok (.iconst 0, 1) := by decide +kernel
theorem dX1_boundOf_35 : decode cX1_boundOf 35 = .ok (.iadd, 1) := by decide +kernel
theorem dX1_boundOf_36 : decode cX1_boundOf 36 = .ok (.istore_n 3, 1) := by decide +kernel
theorem dX1_boundOf_37 : decode cX1_boundOf 37 = .ok (.iload 4, 2) := by decide +kernel
theorem dX1_boundOf_39 : decode cX1_boundOf 39 = .ok (.aload_n 0, 1) := by decide +kernel
theorem dX1_boundOf_40 : decode cX1_boundOf 40 = .ok (.iload 5, 2) := by decide +kernel
theorem dX1_boundOf_42 : decode cX1_boundOf 42 = .ok (.iaload, 1) := by decide +kernel
theorem dX1_boundOf_43 : decode cX1_boundOf 43 = .ok (.iload_n 2, 1) := by decide +kernel
theorem dX1_boundOf_44 : decode cX1_boundOf 44 = .ok (.if_icmp .lt 7, 3) := by decide +kernel
theorem dX1_boundOf_47 : decode cX1_boundOf 47 = .ok (.iconst 1, 1) := by decide +kernel
theorem dX1_boundOf_48 : decode cX1_boundOf 48 = .ok (.goto 4, 3) := by decide +kernel
theorem dX1_boundOf_51 : decode cX1_boundOf 51 = .ok (.iconst 0, 1) := by decide +kernel
theorem dX1_boundOf_52 : decode cX1_boundOf 52 = .ok (.iadd, 1) := by decide +kernel
theorem dX1_boundOf_53 : decode cX1_boundOf 53 = .ok (.istore 4, 2) := by decide +kernel
theorem dX1_boundOf_55 : decode cX1_boundOf 55 = .ok (.iinc 5 1, 3) := by decide +kernel
theorem dX1_boundOf_58 : decode cX1_boundOf 58 = .ok (.goto (-50), 3) := by decide +kernel
theorem dX1_boundOf_61 : decode cX1_boundOf 61 = .ok (.iload_n 3, 1) := by decide +kernel
theorem dX1_boundOf_62 : decode cX1_boundOf 62 = .ok (.iload 4, 2) := by decide +kernel
theorem dX1_boundOf_64 : decode cX1_boundOf 64 = .ok (.invokestatic 56, 3) := by decide +kernel
theorem dX1_boundOf_67 : decode cX1_boundOf 67 = .ok (.ireturn, 1) := by decide +kernel
theorem dX1_findFewest_0 : decode cX1_findFewest 0 = .ok (.aload_n 0, 1) := by decide +kernel
theorem dX1_findFewest_1 : decode cX1_findFewest 1 = .ok (.iconst 1, 1) := by decide +kernel
theorem dX1_findFewest_2 : decode cX1_findFewest 2 = .ok (.aload_n 1, 1) := by decide +kernel
theorem dX1_findFewest_3 : decode cX1_findFewest 3 = .ok (.getfield 39, 3) := by decide +kernel
theorem dX1_findFewest_6 : decode cX1_findFewest 6 = .ok (.ishl, 1) := by decide +kernel
theorem dX1_findFewest_7 : decode cX1_findFewest 7 = .ok (.iconst 1, 1) := by decide +kernel
theorem dX1_findFewest_8 : decode cX1_findFewest 8 = .ok (.isub, 1) := by decide +kernel
theorem dX1_findFewest_9 : decode cX1_findFewest 9 = .ok (.putfield 83, 3) := by decide +kernel
theorem dX1_findFewest_12 : decode cX1_findFewest 12 = .ok (.iconst 0, 1) := by decide +kernel
theorem dX1_findFewest_13 : decode cX1_findFewest 13 = .ok (.istore_n 2, 1) := by decide +kernel
theorem dX1_findFewest_14 : decode cX1_findFewest 14 = .ok (.iload_n 2, 1) := by decide +kernel
theorem dX1_findFewest_15 : decode cX1_findFewest 15 = .ok (.aload_n 1, 1) := by decide +kernel
theorem dX1_findFewest_16 : decode cX1_findFewest 16 = .ok (.getfield 39, 3) := by decide +kernel
theorem dX1_findFewest_19 : decode cX1_findFewest 19 = .ok (.if_icmp .ge 111, 3) := by decide +kernel
theorem dX1_findFewest_22 : decode cX1_findFewest 22 = .ok (.aload_n 1, 1) := by decide +kernel
theorem dX1_findFewest_23 : decode cX1_findFewest 23 = .ok (.iload_n 2, 1) := by decide +kernel
theorem dX1_findFewest_24 : decode cX1_findFewest 24 = .ok (.aload_n 1, 1) := by decide +kernel
theorem dX1_findFewest_25 : decode cX1_findFewest 25 = .ok (.getfield 86, 3) := by decide +kernel
theorem dX1_findFewest_28 : decode cX1_findFewest 28 = .ok (.aload_n 1, 1) := by decide +kernel
theorem dX1_findFewest_29 : decode cX1_findFewest 29 = .ok (.getfield 89, 3) := by decide +kernel
theorem dX1_findFewest_32 : decode cX1_findFewest 32 = .ok (.invokevirtual 42, 3) := by decide +kernel
theorem dX1_findFewest_35 : decode cX1_findFewest 35 = .ok (.ifCond .ne 89, 3) := by decide +kernel
theorem dX1_findFewest_38 : decode cX1_findFewest 38 = .ok (.aload_n 0, 1) := by decide +kernel
theorem dX1_findFewest_39 : decode cX1_findFewest 39 = .ok (.aload_n 1, 1) := by decide +kernel
theorem dX1_findFewest_40 : decode cX1_findFewest 40 = .ok (.aload_n 1, 1) := by decide +kernel
theorem dX1_findFewest_41 : decode cX1_findFewest 41 = .ok (.getfield 86, 3) := by decide +kernel
theorem dX1_findFewest_44 : decode cX1_findFewest 44 = .ok (.aload_n 1, 1) := by decide +kernel
theorem dX1_findFewest_45 : decode cX1_findFewest 45 = .ok (.getfield 89, 3) := by decide +kernel
theorem dX1_findFewest_48 : decode cX1_findFewest 48 = .ok (.iload_n 2, 1) := by decide +kernel
theorem dX1_findFewest_49 : decode cX1_findFewest 49 = .ok (.invokevirtual 46, 3) := by decide +kernel
theorem dX1_findFewest_52 : decode cX1_findFewest 52 = .ok (.aload_n 0, 1) := by decide +kernel
theorem dX1_findFewest_53 : decode cX1_findFewest 53 = .ok (.aload_n 0, 1) := by decide +kernel
theorem dX1_findFewest_54 : decode cX1_findFewest 54 = .ok (.getfield 23, 3) := by decide +kernel
theorem dX1_findFewest_57 : decode cX1_findFewest 57 = .ok (.aload_n 0, 1) := by decide +kernel
theorem dX1_findFewest_58 : decode cX1_findFewest 58 = .ok (.getfield 27, 3) := by decide +kernel
theorem dX1_findFewest_61 : decode cX1_findFewest 61 = .ok (.ior, 1) := by decide +kernel
theorem dX1_findFewest_62 : decode cX1_findFewest 62 = .ok (.aload_n 0, 1) := by decide +kernel
theorem dX1_findFewest_63 : decode cX1_findFewest 63 = .ok (.getfield 33, 3) := by decide +kernel
theorem dX1_findFewest_66 : decode cX1_findFewest 66 = .ok (.ior, 1) := by decide +kernel
theorem dX1_findFewest_67 : decode cX1_findFewest 67 = .ok (.invokevirtual 92, 3) := by decide +kernel
theorem dX1_findFewest_70 : decode cX1_findFewest 70 = .ok (.aload_n 0, 1) := by decide +kernel
theorem dX1_findFewest_71 : decode cX1_findFewest 71 = .ok (.aload_n 0, 1) := by decide +kernel
theorem dX1_findFewest_72 : decode cX1_findFewest 72 = .ok (.getfield 23, 3) := by decide +kernel
theorem dX1_findFewest_75 : decode cX1_findFewest 75 = .ok (.aload_n 0, 1) := by decide +kernel
theorem dX1_findFewest_76 : decode cX1_findFewest 76 = .ok (.getfield 27, 3) := by decide +kernel
theorem dX1_findFewest_79 : decode cX1_findFewest 79 = .ok (.ior, 1) := by decide +kernel
theorem dX1_findFewest_80 : decode cX1_findFewest 80 = .ok (.aload_n 0, 1) := by decide +kernel
theorem dX1_findFewest_81 : decode cX1_findFewest 81 = .ok (.getfield 36, 3) := by decide +kernel
theorem dX1_findFewest_84 : decode cX1_findFewest 84 = .ok (.ior, 1) := by decide +kernel
theorem dX1_findFewest_85 : decode cX1_findFewest 85 = .ok (.invokevirtual 92, 3) := by decide +kernel
theorem dX1_findFewest_88 : decode cX1_findFewest 88 = .ok (.aload_n 0, 1) := by decide +kernel
theorem dX1_findFewest_89 : decode cX1_findFewest 89 = .ok (.aload_n 0, 1) := by decide +kernel
theorem dX1_findFewest_90 : decode cX1_findFewest 90 = .ok (.getfield 23, 3) := by decide +kernel
theorem dX1_findFewest_93 : decode cX1_findFewest 93 = .ok (.aload_n 0, 1) := by decide +kernel
theorem dX1_findFewest_94 : decode cX1_findFewest 94 = .ok (.getfield 30, 3) := by decide +kernel
theorem dX1_findFewest_97 : decode cX1_findFewest 97 = .ok (.ior, 1) := by decide +kernel
theorem dX1_findFewest_98 : decode cX1_findFewest 98 = .ok (.aload_n 0, 1) := by decide +kernel
theorem dX1_findFewest_99 : decode cX1_findFewest 99 = .ok (.getfield 33, 3) := by decide +kernel
theorem dX1_findFewest_102 : decode cX1_findFewest 102 = .ok (.ior, 1) := by decide +kernel
theorem dX1_findFewest_103 : decode cX1_findFewest 103 = .ok (.invokevirtual 92, 3) := by decide +kernel
theorem dX1_findFewest_106 : decode cX1_findFewest 106 = .ok (.aload_n 0, 1) := by decide +kernel
theorem dX1_findFewest_107 : decode cX1_findFewest 107 = .ok (.aload_n 0, 1) := by decide +kernel
theorem dX1_findFewest_108 : decode cX1_findFewest 108 = .ok (.getfield 23, 3) := by decide +kernel
theorem dX1_findFewest_111 : decode cX1_findFewest 111 = .ok (.aload_n 0, 1) := by decide +kernel
theorem dX1_findFewest_112 : decode cX1_findFewest 112 = .ok (.getfield 30, 3) := by decide +kernel
theorem dX1_findFewest_115 : decode cX1_findFewest 115 = .ok (.ior, 1) := by decide +kernel
theorem dX1_findFewest_116 : decode cX1_findFewest 116 = .ok (.aload_n 0, 1) := by decide +kernel
theorem dX1_findFewest_117 : decode cX1_findFewest 117 = .ok (.getfield 36, 3) := by decide +kernel
theorem dX1_findFewest_120 : decode cX1_findFewest 120 = .ok (.ior, 1) := by decide +kernel
theorem dX1_findFewest_121 : decode cX1_findFewest 121 = .ok (.invokevirtual 92, 3) := by decide +kernel
theorem dX1_findFewest_124 : decode cX1_findFewest 124 = .ok (.iinc 2 1, 3) := by decide +kernel
theorem dX1_findFewest_127 : decode cX1_findFewest 127 = .ok (.goto (-113), 3) := by decide +kernel
theorem dX1_findFewest_130 : decode cX1_findFewest 130 = .ok (.return_, 1) := by decide +kernel
theorem dX1_offerFewest_0 : decode cX1_offerFewest 0 = .ok (.iload_n 1, 1) := by decide +kernel
theorem dX1_offerFewest_1 : decode cX1_offerFewest 1 = .ok (.invokestatic 50, 3) := by decide +kernel
theorem dX1_offerFewest_4 : decode cX1_offerFewest 4 = .ok (.aload_n 0, 1) := by decide +kernel
theorem dX1_offerFewest_5 : decode cX1_offerFewest 5 = .ok (.getfield 83, 3) := by decide +kernel
theorem dX1_offerFewest_8 : decode cX1_offerFewest 8 = .ok (.invokestatic 50, 3) := by decide +kernel
theorem dX1_offerFewest_11 : decode cX1_offerFewest 11 = .ok (.isub, 1) := by decide +kernel
theorem dX1_offerFewest_12 : decode cX1_offerFewest 12 = .ok (.istore_n 2, 1) := by decide +kernel
theorem dX1_offerFewest_13 : decode cX1_offerFewest 13 = .ok (.iload_n 2, 1) := by decide +kernel
theorem dX1_offerFewest_14 : decode cX1_offerFewest 14 = .ok (.ifCond .lt 15, 3) := by decide +kernel
theorem dX1_offerFewest_17 : decode cX1_offerFewest 17 = .ok (.iload_n 2, 1) := by decide +kernel
theorem dX1_offerFewest_18 : decode cX1_offerFewest 18 = .ok (.ifCond .ne 16, 3) := by decide +kernel
theorem dX1_offerFewest_21 : decode cX1_offerFewest 21 = .ok (.iload_n 1, 1) := by decide +kernel
theorem dX1_offerFewest_22 : decode cX1_offerFewest 22 = .ok (.aload_n 0, 1) := by decide +kernel
theorem dX1_offerFewest_23 : decode cX1_offerFewest 23 = .ok (.getfield 83, 3) := by decide +kernel
theorem dX1_offerFewest_26 : decode cX1_offerFewest 26 = .ok (.if_icmp .ge 8, 3) := by decide +kernel
theorem dX1_offerFewest_29 : decode cX1_offerFewest 29 = .ok (.aload_n 0, 1) := by decide +kernel
theorem dX1_offerFewest_30 : decode cX1_offerFewest 30 = .ok (.iload_n 1, 1) := by decide +kernel
theorem dX1_offerFewest_31 : decode cX1_offerFewest 31 = .ok (.putfield 83, 3) := by decide +kernel
theorem dX1_offerFewest_34 : decode cX1_offerFewest 34 = .ok (.return_, 1) := by decide +kernel
theorem dX2_init_0 : decode cX2_init 0 = .ok (.aload_n 0, 1) := by decide +kernel
theorem dX2_init_1 : decode cX2_init 1 = .ok (.invokespecial 3, 3) := by decide +kernel
theorem dX2_init_4 : decode cX2_init 4 = .ok (.aload_n 0, 1) := by decide +kernel
theorem dX2_init_5 : decode cX2_init 5 = .ok (.bipush 48, 2) := by decide +kernel
theorem dX2_init_7 : decode cX2_init 7 = .ok (.newarray .int, 2) := by decide +kernel
theorem dX2_init_9 : decode cX2_init 9 = .ok (.putfield 9, 3) := by decide +kernel
theorem dX2_init_12 : decode cX2_init 12 = .ok (.aload_n 0, 1) := by decide +kernel
theorem dX2_init_13 : decode cX2_init 13 = .ok (.bipush 48, 2) := by decide +kernel
theorem dX2_init_15 : decode cX2_init 15 = .ok (.newarray .int, 2) := by decide +kernel
theorem dX2_init_17 : decode cX2_init 17 = .ok (.putfield 15, 3) := by decide +kernel
theorem dX2_init_20 : decode cX2_init 20 = .ok (.aload_n 0, 1) := by decide +kernel
theorem dX2_init_21 : decode cX2_init 21 = .ok (.bipush 48, 2) := by decide +kernel
theorem dX2_init_23 : decode cX2_init 23 = .ok (.newarray .int, 2) := by decide +kernel
theorem dX2_init_25 : decode cX2_init 25 = .ok (.putfield 18, 3) := by decide +kernel
theorem dX2_init_28 : decode cX2_init 28 = .ok (.aload_n 0, 1) := by decide +kernel
theorem dX2_init_29 : decode cX2_init 29 = .ok (.bipush 24, 2) := by decide +kernel
theorem dX2_init_31 : decode cX2_init 31 = .ok (.newarray .int, 2) := by decide +kernel
theorem dX2_init_33 : decode cX2_init 33 = .ok (.putfield 21, 3) := by decide +kernel
theorem dX2_init_36 : decode cX2_init 36 = .ok (.return_, 1) := by decide +kernel
theorem dX2_build_0 : decode cX2_build 0 = .ok (.iconst 0, 1) := by decide +kernel
theorem dX2_build_1 : decode cX2_build 1 = .ok (.istore_n 3, 1) := by decide +kernel
theorem dX2_build_2 : decode cX2_build 2 = .ok (.iconst 0, 1) := by decide +kernel
theorem dX2_build_3 : decode cX2_build 3 = .ok (.istore 4, 2) := by decide +kernel
theorem dX2_build_5 : decode cX2_build 5 = .ok (.iload 4, 2) := by decide +kernel
theorem dX2_build_7 : decode cX2_build 7 = .ok (.aload_n 1, 1) := by decide +kernel
theorem dX2_build_8 : decode cX2_build 8 = .ok (.getfield 24, 3) := by decide +kernel
theorem dX2_build_11 : decode cX2_build 11 = .ok (.if_icmp .ge 27, 3) := by decide +kernel
theorem dX2_build_14 : decode cX2_build 14 = .ok (.iload_n 2, 1) := by decide +kernel
theorem dX2_build_15 : decode cX2_build 15 = .ok (.iload 4, 2) := by decide +kernel
theorem dX2_build_17 : decode cX2_build 17 = .ok (.invokestatic 30, 3) := by decide +kernel
theorem dX2_build_20 : decode cX2_build 20 = .ok (.ifCond .eq 12, 3) := by decide +kernel
theorem dX2_build_23 : decode cX2_build 23 = .ok (.aload_n 0, 1) := by decide +kernel
theorem dX2_build_24 : decode cX2_build 24 = .ok (.aload_n 1, 1) := by decide +kernel
theorem dX2_build_25 : decode cX2_build 25 = .ok (.iload 4, 2) := by decide +kernel
theorem dX2_build_27 : decode cX2_build 27 = .ok (.iload_n 3, 1) := by decide +kernel
theorem dX2_build_28 : decode cX2_build 28 = .ok (.invokevirtual 34, 3) := by decide +kernel
theorem dX2_build_31 : decode cX2_build 31 = .ok (.istore_n 3, 1) := by decide +kernel
theorem dX2_build_32 : decode cX2_build 32 = .ok (.iinc 4 1, 3) := by decide +kernel
theorem dX2_build_35 : decode cX2_build 35 = .ok (.goto (-30), 3) := by decide +kernel
theorem dX2_build_38 : decode cX2_build 38 = .ok (.aload_n 0, 1) := by decide +kernel
theorem dX2_build_39 : decode cX2_build 39 = .ok (.iconst 0, 1) := by decide +kernel
theorem dX2_build_40 : decode cX2_build 40 = .ok (.putfield 38, 3) := by decide +kernel
theorem dX2_build_43 : decode cX2_build 43 = .ok (.iconst 0, 1) := by decide +kernel
theorem dX2_build_44 : decode cX2_build 44 = .ok (.istore 4, 2) := by decide +kernel
theorem dX2_build_46 : decode cX2_build 46 = .ok (.iload 4, 2) := by decide +kernel
theorem dX2_build_48 : decode cX2_build 48 = .ok (.iload_n 3, 1) := by decide +kernel
theorem dX2_build_49 : decode cX2_build 49 = .ok (.if_icmp .ge 22, 3) := by decide +kernel
theorem dX2_build_52 : decode cX2_build 52 = .ok (.aload_n 0, 1) := by decide +kernel
theorem dX2_build_53 : decode cX2_build 53 = .ok (.aload_n 1, 1) := by decide +kernel
theorem dX2_build_54 : decode cX2_build 54 = .ok (.aload_n 0, 1) := by decide +kernel
theorem dX2_build_55 : decode cX2_build 55 = .ok (.getfield 21, 3) := by decide +kernel
theorem dX2_build_58 : decode cX2_build 58 = .ok (.iload 4, 2) := by decide +kernel
theorem dX2_build_60 : decode cX2_build 60 = .ok (.iaload, 1) := by decide +kernel
theorem dX2_build_61 : decode cX2_build 61 = .ok (.iconst 2, 1) := by decide +kernel
theorem dX2_build_62 : decode cX2_build 62 = .ok (.invokevirtual 39, 3) := by decide +kernel
theorem dX2_build_65 : decode cX2_build 65 = .ok (.iinc 4 1, 3) := by decide +kernel
theorem dX2_build_68 : decode cX2_build 68 = .ok (.goto (-22), 3) := by decide +kernel
theorem dX2_build_71 : decode cX2_build 71 = .ok (.aload_n 0, 1) := by decide +kernel
theorem dX2_build_72 : decode cX2_build 72 = .ok (.getfield 38, 3) := by decide +kernel
theorem dX2_build_75 : decode cX2_build 75 = .ok (.iconst 1, 1) := by decide +kernel
theorem dX2_build_76 : decode cX2_build 76 = .ok (.iadd, 1) := by decide +kernel
theorem dX2_build_77 : decode cX2_build 77 = .ok (.istore 4, 2) := by decide +kernel
theorem dX2_build_79 : decode cX2_build 79 = .ok (.iload_n 3, 1) := by decide +kernel
theorem dX2_build_80 : decode cX2_build 80 = .ok (.iconst 2, 1) := by decide +kernel
theorem dX2_build_81 : decode cX2_build 81 = .ok (.isub, 1) := by decide +kernel
theorem dX2_build_82 : decode cX2_build 82 = .ok (.istore 5, 2) := by decide +kernel
theorem dX2_build_84 : decode cX2_build 84 = .ok (.iload 5, 2) := by decide +kernel
theorem dX2_build_86 : decode cX2_build 86 = .ok (.ifCond .lt 23, 3) := by decide +kernel
theorem dX2_build_89 : decode cX2_build 89 = .ok (.aload_n 0, 1) := by decide +kernel
theorem dX2_build_90 : decode cX2_build 90 = .ok (.aload_n 1, 1) := by decide +kernel
theorem dX2_build_91 : decode cX2_build 91 = .ok (.aload_n 0, 1) := by decide +kernel
theorem dX2_build_92 : decode cX2_build 92 = .ok (.getfield 21, 3) := by decide +kernel
theorem dX2_build_95 : decode cX2_build 95 = .ok (.iload 5, 2) := by decide +kernel
theorem dX2_build_97 : decode cX2_build 97 = .ok (.iaload, 1) := by decide +kernel
theorem dX2_build_98 : decode cX2_build 98 = .ok (.iload 4, 2) := by decide +kernel
theorem dX2_build_100 : decode cX2_build 100 = .ok (.invokevirtual 39, 3) := by decide +kernel
theorem dX2_build_103 : decode cX2_build 103 = .ok (.iinc 5 (-1), 3) := by decide +kernel
theorem dX2_build_106 : decode cX2_build 106 = .ok (.goto (-22), 3) := by decide +kernel
theorem dX2_build_109 : decode cX2_build 109 = .ok (.iload_n 3, 1) := by decide +kernel
theorem dX2_build_110 : decode cX2_build 110 = .ok (.iconst 1, 1) := by decide +kernel
theorem dX2_build_111 : decode cX2_build 111 = .ok (.if_icmp .le 13, 3) := by decide +kernel
theorem dX2_build_114 : decode cX2_build 114 = .ok (.aload_n 0, 1) := by decide +kernel
theorem dX2_build_115 : decode cX2_build 115 = .ok (.dup, 1) := by decide +kernel
theorem dX2_build_116 : decode cX2_build 116 = .ok (.getfield 38, 3) := by decide +kernel
theorem dX2_build_119 : decode cX2_build 119 = .ok (.iconst 1, 1) := by decide +kernel
theorem dX2_build_120 : decode cX2_build 120 = .ok (.isub, 1) := by decide +kernel
theorem dX2_build_121 : decode cX2_build 121 = .ok (.putfield 38, 3) := by decide +kernel
theorem dX2_build_124 : decode cX2_build 124 = .ok (.aload_n 0, 1) := by decide +kernel
theorem dX2_build_125 : decode cX2_build 125 = .ok (.getfield 15, 3) := by decide +kernel
theorem dX2_build_128 : decode cX2_build 128 = .ok (.aload_n 0, 1) := by decide +kernel
theorem dX2_build_129 : decode cX2_build 129 = .ok (.getfield 38, 3) := by decide +kernel
theorem dX2_build_132 : decode cX2_build 132 = .ok (.aload_n 0, 1) := by decide +kernel
theorem dX2_build_133 : decode cX2_build 133 = .ok (.getfield 15, 3) := by decide +kernel
theorem dX2_build_136 : decode cX2_build 136 = .ok (.iconst 0, 1) := by decide +kernel
theorem dX2_build_137 : decode cX2_build 137 = .ok (.iaload, 1) := by decide +kernel
theorem dX2_build_138 : decode cX2_build 138 = .ok (.iastore, 1) := by decide +kernel
theorem dX2_build_139 : decode cX2_build 139 = .ok (.aload_n 0, 1) := by decide +kernel
theorem dX2_build_140 : decode cX2_build 140 = .ok (.getfield 18, 3) := by decide +kernel
theorem dX2_build_143 : decode cX2_build 143 = .ok (.aload_n 0, 1) := by decide +kernel
theorem dX2_build_144 : decode cX2_build 144 = .ok (.getfield 38, 3) := by decide +kernel
theorem dX2_build_147 : decode cX2_build 147 = .ok (.aload_n 0, 1) := by decide +kernel
theorem dX2_build_148 : decode cX2_build 148 = .ok (.getfield 18, 3) := by decide +kernel
theorem dX2_build_151 : decode cX2_build 151 = .ok (.iconst 0, 1) := by decide +kernel
theorem dX2_build_152 : decode cX2_build 152 = .ok (.iaload, 1) := by decide +kernel
theorem dX2_build_153 : decode cX2_build 153 = .ok (.iastore, 1) := by decide +kernel
theorem dX2_build_154 : decode cX2_build 154 = .ok (.return_, 1) := by decide +kernel
theorem dX2_insert_0 : decode cX2_insert 0 = .ok (.aload_n 1, 1) := by decide +kernel
theorem dX2_insert_1 : decode cX2_insert 1 = .ok (.getfield 43, 3) := by decide +kernel
theorem dX2_insert_4 : decode cX2_insert 4 = .ok (.iload_n 2, 1) := by decide +kernel
theorem dX2_insert_5 : decode cX2_insert 5 = .ok (.iaload, 1) := by decide +kernel
theorem dX2_insert_6 : decode cX2_insert 6 = .ok (.istore 4, 2) := by decide +kernel
theorem dX2_insert_8 : decode cX2_insert 8 = .ok (.aload_n 1, 1) := by decide +kernel
theorem dX2_insert_9 : decode cX2_insert 9 = .ok (.getfield 44, 3) := by decide +kernel
theorem dX2_insert_12 : decode cX2_insert 12 = .ok (.iload_n 2, 1) := by decide +kernel
theorem dX2_insert_13 : decode cX2_insert 13 = .ok (.iaload, 1) := by decide +kernel
theorem dX2_insert_14 : decode cX2_insert 14 = .ok (.istore 5, 2) := by decide +kernel
theorem dX2_insert_16 : decode cX2_insert 16 = .ok (.iload_n 3, 1) := by decide +kernel
theorem dX2_insert_17 : decode cX2_insert 17 = .ok (.istore 6, 2) := by decide +kernel
theorem dX2_insert_19 : decode cX2_insert 19 = .ok (.iload 6, 2) := by decide +kernel
theorem dX2_insert_21 : decode cX2_insert 21 = .ok (.ifCond .le 47, 3) := by decide +kernel
theorem dX2_insert_24 : decode cX2_insert 24 = .ok (.iload 4, 2) := by decide +kernel
theorem dX2_insert_26 : decode cX2_insert 26 = .ok (.iload 5, 2) := by decide +kernel
theorem dX2_insert_28 : decode cX2_insert 28 = .ok (.aload_n 1, 1) := by decide +kernel
theorem dX2_insert_29 : decode cX2_insert 29 = .ok (.getfield 43, 3) := by decide +kernel
theorem dX2_insert_32 : decode cX2_insert 32 = .ok (.aload_n 0, 1) := by decide +kernel
theorem dX2_insert_33 : decode cX2_insert 33 = .ok (.getfield 21, 3) := by decide +kernel
theorem dX2_insert_36 : decode cX2_insert 36 = .ok (.iload 6, 2) := by decide +kernel
theorem dX2_insert_38 : decode cX2_insert 38 = .ok (.iconst 1, 1) := by decide +kernel
theorem dX2_insert_39 : decode cX2_insert 39 = .ok (.isub, 1) := by decide +kernel
theorem dX2_insert_40 : decode cX2_insert 40 = .ok (.iaload, 1) := by decide +kernel
theorem dX2_insert_41 : decode cX2_insert 41 = .ok (.iaload, 1) := by decide +kernel
theorem dX2_insert_42 : decode cX2_insert 42 = .ok (.aload_n 1, 1) := by decide +kernel
theorem dX2_insert_43 : decode cX2_insert 43 = .ok (.getfield 44, 3) := by decide +kernel
theorem dX2_insert_46 : decode cX2_insert 46 = .ok (.aload_n 0, 1) := by decide +kernel
theorem dX2_insert_47 : decode cX2_insert 47 = .ok (.getfield 21, 3) := by decide +kernel
theorem dX2_insert_50 : decode cX2_insert 50 = .ok (.iload 6, 2) := by decide +kernel
theorem dX2_insert_52 : decode cX2_insert 52 = .ok (.iconst 1, 1) := by decide +kernel
theorem dX2_insert_53 : decode cX2_insert 53 = .ok (.isub, 1) := by decide +kernel
theorem dX2_insert_54 : decode cX2_insert 54 = .ok (.iaload, 1) := by decide +kernel
theorem dX2_insert_55 : decode cX2_insert 55 = .ok (.iaload, 1) := by decide +kernel
theorem dX2_insert_56 : decode cX2_insert 56 = .ok (.invokestatic 45, 3) := by decide +kernel
theorem dX2_insert_59 : decode cX2_insert 59 = .ok (.ifCond .eq 9, 3) := by decide +kernel
theorem dX2_insert_62 : decode cX2_insert 62 = .ok (.iinc 6 (-1), 3) := by decide +kernel
theorem dX2_insert_65 : decode cX2_insert 65 = .ok (.goto (-46), 3) := by decide +kernel
theorem dX2_insert_68 : decode cX2_insert 68 = .ok (.iload 6, 2) := by decide +kernel
theorem dX2_insert_70 : decode cX2_insert 70 = .ok (.ifCond .le 23, 3) := by decide +kernel
theorem dX2_insert_73 : decode cX2_insert 73 = .ok (.aload_n 1, 1) := by decide +kernel
theorem dX2_insert_74 : decode cX2_insert 74 = .ok (.aload_n 0, 1) := by decide +kernel
theorem dX2_insert_75 : decode cX2_insert 75 = .ok (.getfield 21, 3) := by decide +kernel
theorem dX2_insert_78 : decode cX2_insert 78 = .ok (.iload 6, 2) := by decide +kernel
theorem dX2_insert_80 : decode cX2_insert 80 = .ok (.iconst 1, 1) := by decide +kernel
theorem dX2_insert_81 : decode cX2_insert 81 = .ok (.isub, 1) := by decide +kernel
theorem dX2_insert_82 : decode cX2_insert 82 = .ok (.iaload, 1) := by decide +kernel
theorem dX2_insert_83 : decode cX2_insert 83 = .ok (.iload 4, 2) := by decide +kernel
theorem dX2_insert_85 : decode cX2_insert 85 = .ok (.iload 5, 2) := by decide +kernel
theorem dX2_insert_87 : decode cX2_insert 87 = .ok (.invokevirtual 49, 3) := by decide +kernel
theorem dX2_insert_90 : decode cX2_insert 90 = .ok (.ifCond .ne 12, 3) := by decide +kernel
theorem dX2_insert_93 : decode cX2_insert 93 = .ok (.iload_n 3, 1) := by decide +kernel
theorem dX2_insert_94 : decode cX2_insert 94 = .ok (.aload_n 0, 1) := by decide +kernel
theorem dX2_insert_95 : decode cX2_insert 95 = .ok (.getfield 21, 3) := by decide +kernel
theorem dX2_insert_98 : decode cX2_insert 98 = .ok (.arraylength, 1) := by decide +kernel
theorem dX2_insert_99 : decode cX2_insert 99 = .ok (.if_icmp .lt 5, 3) := by decide +kernel
theorem dX2_insert_102 : decode cX2_insert 102 = .ok (.iload_n 3, 1) := by decide +kernel
theorem dX2_insert_103 : decode cX2_insert 103 = .ok (.ireturn, 1) := by decide +kernel
theorem dX2_insert_104 : decode cX2_insert 104 = .ok (.iload_n 3, 1) := by decide +kernel
theorem dX2_insert_105 : decode cX2_insert 105 = .ok (.istore 7, 2) := by decide +kernel
theorem dX2_insert_107 : decode cX2_insert 107 = .ok (.iload 7, 2) := by decide +kernel
theorem dX2_insert_109 : decode cX2_insert 109 = .ok (.iload 6, 2) := by decide +kernel
theorem dX2_insert_111 : decode cX2_insert 111 = .ok (.if_icmp .le 25, 3) := by decide +kernel
theorem dX2_insert_114 : decode cX2_insert 114 = .ok (.aload_n 0, 1) := by decide +kernel
theorem dX2_insert_115 : decode cX2_insert 115 = .ok (.getfield 21, 3) := by decide +kernel
theorem dX2_insert_118 : decode cX2_insert 118 = .ok (.iload 7, 2) := by decide +kernel
theorem dX2_insert_120 : decode cX2_insert 120 = .ok (.aload_n 0, 1) := by decide +kernel
theorem dX2_insert_121 : decode cX2_insert 121 = .ok (.getfield 21, 3) := by decide +kernel
theorem dX2_insert_124 : decode cX2_insert 124 = .ok (.iload 7, 2) := by decide +kernel
theorem dX2_insert_126 : decode cX2_insert 126 = .ok (.iconst 1, 1) := by decide +kernel
theorem dX2_insert_127 : decode cX2_insert 127 = .ok (.isub, 1) := by decide +kernel
theorem dX2_insert_128 : decode cX2_insert 128 = .ok (.iaload, 1) := by decide +kernel
theorem dX2_insert_129 : decode cX2_insert 129 = .ok (.iastore, 1) := by decide +kernel
theorem dX2_insert_130 : decode cX2_insert 130 = .ok (.iinc 7 (-1), 3) := by decide +kernel
theorem dX2_insert_133 : decode cX2_insert 133 = .ok (.goto (-26), 3) := by decide +kernel
theorem dX2_insert_136 : decode cX2_insert 136 = .ok (.aload_n 0, 1) := by decide +kernel
theorem dX2_insert_137 : decode cX2_insert 137 = .ok (.getfield 21, 3) := by decide +kernel
theorem dX2_insert_140 : decode cX2_insert 140 = .ok (.iload 6, 2) := by decide +kernel
theorem dX2_insert_142 : decode cX2_insert 142 = .ok (.iload_n 2, 1) := by decide +kernel
theorem dX2_insert_143 : decode cX2_insert 143 = .ok (.iastore, 1) := by decide +kernel
theorem dX2_insert_144 : decode cX2_insert 144 = .ok (.iload_n 3, 1) := by decide +kernel
theorem dX2_insert_145 : decode cX2_insert 145 = .ok (.iconst 1, 1) := by decide +kernel
theorem dX2_insert_146 : decode cX2_insert 146 = .ok (.iadd, 1) := by decide +kernel
theorem dX2_insert_147 : decode cX2_insert 147 = .ok (.ireturn, 1) := by decide +kernel
theorem dX2_isBefore_0 : decode cX2_isBefore 0 = .ok (.iload_n 0, 1) := by decide +kernel
theorem dX2_isBefore_1 : decode cX2_isBefore 1 = .ok (.iload_n 2, 1) := by decide +kernel
theorem dX2_isBefore_2 : decode cX2_isBefore 2 = .ok (.if_icmp .lt 13, 3) := by decide +kernel
theorem dX2_isBefore_5 : decode cX2_isBefore 5 = .ok (.iload_n 0, 1) := by decide +kernel
theorem dX2_isBefore_6 : decode cX2_isBefore 6 = .ok (.iload_n 2, 1) := by decide +kernel
theorem dX2_isBefore_7 : decode cX2_isBefore 7 = .ok (.if_icmp .ne 12, 3) := by decide +kernel
theorem dX2_isBefore_10 : decode cX2_isBefore 10 = .ok (.iload_n 1, 1) := by decide +kernel
theorem dX2_isBefore_11 : decode cX2_isBefore 11 = .ok (.iload_n 3, 1) := by decide +kernel
theorem dX2_isBefore_12 : decode cX2_isBefore 12 = .ok (.if_icmp .ge 7, 3) := by decide +kernel
theorem dX2_isBefore_15 : decode cX2_isBefore 15 = .ok (.iconst 1, 1) := by decide +kernel
theorem dX2_isBefore_16 : decode cX2_isBefore 16 = .ok (.goto 4, 3) := by decide +kernel
theorem dX2_isBefore_19 : decode cX2_isBefore 19 = .ok (.iconst 0, 1) := by decide +kernel
theorem dX2_isBefore_20 : decode cX2_isBefore 20 = .ok (.ireturn, 1) := by decide +kernel
theorem dX2_push_0 : decode cX2_push 0 = .ok (.aload_n 1, 1) := by decide +kernel
theorem dX2_push_1 : decode cX2_push 1 = .ok (.getfield 43, 3) := by decide +kernel
theorem dX2_push_4 : decode cX2_push 4 = .ok (.iload_n 2, 1) := by decide +kernel
theorem dX2_push_5 : decode cX2_push 5 = .ok (.iaload, 1) := by decide +kernel
theorem dX2_push_6 : decode cX2_push 6 = .ok (.istore 4, 2) := by decide +kernel
theorem dX2_push_8 : decode cX2_push 8 = .ok (.aload_n 1, 1) := by decide +kernel
theorem dX2_push_9 : decode cX2_push 9 = .ok (.getfield 44, 3) := by decide +kernel
theorem dX2_push_12 : decode cX2_push 12 = .ok (.iload_n 2, 1) := by decide +kernel
theorem dX2_push_13 : decode cX2_push 13 = .ok (.iaload, 1) := by decide +kernel
theorem dX2_push_14 : decode cX2_push 14 = .ok (.istore 5, 2) := by decide +kernel
theorem dX2_push_16 : decode cX2_push 16 = .ok (.aload_n 0, 1) := by decide +kernel
theorem dX2_push_17 : decode cX2_push 17 = .ok (.getfield 38, 3) := by decide +kernel
theorem dX2_push_20 : decode cX2_push 20 = .ok (.iload_n 3, 1) := by decide +kernel
theorem dX2_push_21 : decode cX2_push 21 = .ok (.if_icmp .lt 35, 3) := by decide +kernel
theorem dX2_push_24 : decode cX2_push 24 = .ok (.aload_n 0, 1) := by decide +kernel
theorem dX2_push_25 : decode cX2_push 25 = .ok (.getfield 38, 3) := by decide +kernel
theorem dX2_push_28 : decode cX2_push 28 = .ok (.iconst 2, 1) := by decide +kernel
theorem dX2_push_29 : decode cX2_push 29 = .ok (.if_icmp .lt 27, 3) := by decide +kernel
theorem dX2_push_32 : decode cX2_push 32 = .ok (.aload_n 0, 1) := by decide +kernel
theorem dX2_push_33 : decode cX2_push 33 = .ok (.iload 4, 2) := by decide +kernel
theorem dX2_push_35 : decode cX2_push 35 = .ok (.iload 5, 2) := by decide +kernel
theorem dX2_push_37 : decode cX2_push 37 = .ok (.invokevirtual 53, 3) := by decide +kernel
theorem dX2_push_40 : decode cX2_push 40 = .ok (.ifCond .ne 16, 3) := by decide +kernel
theorem dX2_push_43 : decode cX2_push 43 = .ok (.aload_n 0, 1) := by decide +kernel
theorem dX2_push_44 : decode cX2_push 44 = .ok (.dup, 1) := by decide +kernel
theorem dX2_push_45 : decode cX2_push 45 = .ok (.getfield 38, 3) := by decide +kernel
theorem dX2_push_48 : decode cX2_push 48 = .ok (.iconst 1, 1) := by decide +kernel
theorem dX2_push_49 : decode cX2_push 49 = .ok (.isub, 1) := by decide +kernel
theorem dX2_push_50 : decode cX2_push 50 = .ok (.putfield 38, 3) := by decide +kernel
theorem dX2_push_53 : decode cX2_push 53 = .ok (.goto (-37), 3) := by decide +kernel
theorem dX2_push_56 : decode cX2_push 56 = .ok (.aload_n 0, 1) := by decide +kernel
theorem dX2_push_57 : decode cX2_push 57 = .ok (.getfield 38, 3) := by decide +kernel
theorem dX2_push_60 : decode cX2_push 60 = .ok (.aload_n 0, 1) := by decide +kernel
theorem dX2_push_61 : decode cX2_push 61 = .ok (.getfield 9, 3) := by decide +kernel
theorem dX2_push_64 : decode cX2_push 64 = .ok (.arraylength, 1) := by decide +kernel
theorem dX2_push_65 : decode cX2_push 65 = .ok (.if_icmp .ge 45, 3) := by decide +kernel
theorem dX2_push_68 : decode cX2_push 68 = .ok (.aload_n 0, 1) := by decide +kernel
theorem dX2_push_69 : decode cX2_push 69 = .ok (.getfield 9, 3) := by decide +kernel
theorem dX2_push_72 : decode cX2_push 72 = .ok (.aload_n 0, 1) := by decide +kernel
theorem dX2_push_73 : decode cX2_push 73 = .ok (.getfield 38, 3) := by decide +kernel
theorem dX2_push_76 : decode cX2_push 76 = .ok (.iload_n 2, 1) := by decide +kernel
theorem dX2_push_77 : decode cX2_push 77 = .ok (.iastore, 1) := by decide +kernel
theorem dX2_push_78 : decode cX2_push 78 = .ok (.aload_n 0, 1) := by decide +kernel
theorem dX2_push_79 : decode cX2_push 79 = .ok (.getfield 15, 3) := by decide +kernel
theorem dX2_push_82 : decode cX2_push 82 = .ok (.aload_n 0, 1) := by decide +kernel
theorem dX2_push_83 : decode cX2_push 83 = .ok (.getfield 38, 3) := by decide +kernel
theorem dX2_push_86 : decode cX2_push 86 = .ok (.iload 4, 2) := by decide +kernel
theorem dX2_push_88 : decode cX2_push 88 = .ok (.iastore, 1) := by decide +kernel
theorem dX2_push_89 : decode cX2_push 89 = .ok (.aload_n 0, 1) := by decide +kernel
theorem dX2_push_90 : decode cX2_push 90 = .ok (.getfield 18, 3) := by decide +kernel
theorem dX2_push_93 : decode cX2_push 93 = .ok (.aload_n 0, 1) := by decide +kernel
theorem dX2_push_94 : decode cX2_push 94 = .ok (.getfield 38, 3) := by decide +kernel
theorem dX2_push_97 : decode cX2_push 97 = .ok (.iload 5, 2) := by decide +kernel
theorem dX2_push_99 : decode cX2_push 99 = .ok (.iastore, 1) := by decide +kernel
theorem dX2_push_100 : decode cX2_push 100 = .ok (.aload_n 0, 1) := by decide +kernel
theorem dX2_push_101 : decode cX2_push 101 = .ok (.dup, 1) := by decide +kernel
theorem dX2_push_102 : decode cX2_push 102 = .ok (.getfield 38, 3) := by decide +kernel
theorem dX2_push_105 : decode cX2_push 105 = .ok (.iconst 1, 1) := by decide +kernel
theorem dX2_push_106 : decode cX2_push 106 = .ok (.iadd, 1) := by decide +kernel
theorem dX2_push_107 : decode cX2_push 107 = .ok (.putfield 38, 3) := by decide +kernel
theorem dX2_push_110 : decode cX2_push 110 = .ok (.return_, 1) := by decide +kernel
theorem dX2_turnsLeft_0 : decode cX2_turnsLeft 0 = .ok (.aload_n 0, 1) := by decide +kernel
theorem dX2_turnsLeft_1 : decode cX2_turnsLeft 1 = .ok (.getfield 15, 3) := by decide +kernel
theorem dX2_turnsLeft_4 : decode cX2_turnsLeft 4 = .ok (.aload_n 0, 1) := by decide +kernel
theorem dX2_turnsLeft_5 : decode cX2_turnsLeft 5 = .ok (.getfield 38, 3) := by decide +kernel
theorem dX2_turnsLeft_8 : decode cX2_turnsLeft 8 = .ok (.iconst 2, 1) := by decide +kernel
theorem dX2_turnsLeft_9 : decode cX2_turnsLeft 9 = .ok (.isub, 1) := by decide +kernel
theorem dX2_turnsLeft_10 : decode cX2_turnsLeft 10 = .ok (.iaload, 1) := by decide +kernel
theorem dX2_turnsLeft_11 : decode cX2_turnsLeft 11 = .ok (.istore_n 3, 1) := by decide +kernel
theorem dX2_turnsLeft_12 : decode cX2_turnsLeft 12 = .ok (.aload_n 0, 1) := by decide +kernel
theorem dX2_turnsLeft_13 : decode cX2_turnsLeft 13 = .ok (.getfield 18, 3) := by decide +kernel
theorem dX2_turnsLeft_16 : decode cX2_turnsLeft 16 = .ok (.aload_n 0, 1) := by decide +kernel
theorem dX2_turnsLeft_17 : decode cX2_turnsLeft 17 = .ok (.getfield 38, 3) := by decide +kernel
theorem dX2_turnsLeft_20 : decode cX2_turnsLeft 20 = .ok (.iconst 2, 1) := by decide +kernel
theorem dX2_turnsLeft_21 : decode cX2_turnsLeft 21 = .ok (.isub, 1) := by decide +kernel
theorem dX2_turnsLeft_22 : decode cX2_turnsLeft 22 = .ok (.iaload, 1) := by decide +kernel
theorem dX2_turnsLeft_23 : decode cX2_turnsLeft 23 = .ok (.istore 4, 2) := by decide +kernel
theorem dX2_turnsLeft_25 : decode cX2_turnsLeft 25 = .ok (.aload_n 0, 1) := by decide +kernel
theorem dX2_turnsLeft_26 : decode cX2_turnsLeft 26 = .ok (.getfield 15, 3) := by decide +kernel
theorem dX2_turnsLeft_29 : decode cX2_turnsLeft 29 = .ok (.aload_n 0, 1) := by decide +kernel
theorem dX2_turnsLeft_30 : decode cX2_turnsLeft 30 = .ok (.getfield 38, 3) := by decide +kernel
theorem dX2_turnsLeft_33 : decode cX2_turnsLeft 33 = .ok (.iconst 1, 1) := by decide +kernel
theorem dX2_turnsLeft_34 : decode cX2_turnsLeft 34 = .ok (.isub, 1) := by decide +kernel
theorem dX2_turnsLeft_35 : decode cX2_turnsLeft 35 = .ok (.iaload, 1) := by decide +kernel
theorem dX2_turnsLeft_36 : decode cX2_turnsLeft 36 = .ok (.iload_n 3, 1) := by decide +kernel
theorem dX2_turnsLeft_37 : decode cX2_turnsLeft 37 = .ok (.isub, 1) := by decide +kernel
theorem dX2_turnsLeft_38 : decode cX2_turnsLeft 38 = .ok (.iload_n 2, 1) := by decide +kernel
theorem dX2_turnsLeft_39 : decode cX2_turnsLeft 39 = .ok (.iload 4, 2) := by decide +kernel
theorem dX2_turnsLeft_41 : decode cX2_turnsLeft 41 = .ok (.isub, 1) := by decide +kernel
theorem dX2_turnsLeft_42 : decode cX2_turnsLeft 42 = .ok (.imul, 1) := by decide +kernel
theorem dX2_turnsLeft_43 : decode cX2_turnsLeft 43 = .ok (.aload_n 0, 1) := by decide +kernel
theorem dX2_turnsLeft_44 : decode cX2_turnsLeft 44 = .ok (.getfield 18, 3) := by decide +kernel
theorem dX2_turnsLeft_47 : decode cX2_turnsLeft 47 = .ok (.aload_n 0, 1) := by decide +kernel
theorem dX2_turnsLeft_48 : decode cX2_turnsLeft 48 = .ok (.getfield 38, 3) := by decide +kernel
theorem dX2_turnsLeft_51 : decode cX2_turnsLeft 51 = .ok (.iconst 1, 1) := by decide +kernel
theorem dX2_turnsLeft_52 : decode cX2_turnsLeft 52 = .ok (.isub, 1) := by decide +kernel
theorem dX2_turnsLeft_53 : decode cX2_turnsLeft 53 = .ok (.iaload, 1) := by decide +kernel
theorem dX2_turnsLeft_54 : decode cX2_turnsLeft 54 = .ok (.iload 4, 2) := by decide +kernel
theorem dX2_turnsLeft_56 : decode cX2_turnsLeft 56 = .ok (.isub, 1) := by decide +kernel
theorem dX2_turnsLeft_57 : decode cX2_turnsLeft 57 = .ok (.iload_n 1, 1) := by decide +kernel
theorem dX2_turnsLeft_58 : decode cX2_turnsLeft 58 = .ok (.iload_n 3, 1) := by decide +kernel
theorem dX2_turnsLeft_59 : decode cX2_turnsLeft 59 = .ok (.isub, 1) := by decide +kernel
theorem dX2_turnsLeft_60 : decode cX2_turnsLeft 60 = .ok (.imul, 1) := by decide +kernel
theorem dX2_turnsLeft_61 : decode cX2_turnsLeft 61 = .ok (.isub, 1) := by decide +kernel
theorem dX2_turnsLeft_62 : decode cX2_turnsLeft 62 = .ok (.ifCond .le 7, 3) := by decide +kernel
theorem dX2_turnsLeft_65 : decode cX2_turnsLeft 65 = .ok (.iconst 1, 1) := by decide +kernel
theorem dX2_turnsLeft_66 : decode cX2_turnsLeft 66 = .ok (.goto 4, 3) := by decide +kernel
theorem dX2_turnsLeft_69 : decode cX2_turnsLeft 69 = .ok (.iconst 0, 1) := by decide +kernel
theorem dX2_turnsLeft_70 : decode cX2_turnsLeft 70 = .ok (.ireturn, 1) := by decide +kernel
theorem dX2_doubleArea_0 : decode cX2_doubleArea 0 = .ok (.iconst 0, 1) := by decide +kernel
theorem dX2_doubleArea_1 : decode cX2_doubleArea 1 = .ok (.istore_n 1, 1) := by decide +kernel
theorem dX2_doubleArea_2 : decode cX2_doubleArea 2 = .ok (.iconst 0, 1) := by decide +kernel
theorem dX2_doubleArea_3 : decode cX2_doubleArea 3 = .ok (.istore_n 2, 1) := by decide +kernel
theorem dX2_doubleArea_4 : decode cX2_doubleArea 4 = .ok (.iload_n 2, 1) := by decide +kernel
theorem dX2_doubleArea_5 : decode cX2_doubleArea 5 = .ok (.aload_n 0, 1) := by decide +kernel
theorem dX2_doubleArea_6 : decode cX2_doubleArea 6 = .ok (.getfield 38, 3) := by decide +kernel
theorem dX2_doubleArea_9 : decode cX2_doubleArea 9 = .ok (.if_icmp .ge 43, 3) := by decide +kernel
theorem dX2_doubleArea_12 : decode cX2_doubleArea 12 = .ok (.iload_n 1, 1) := by decide +kernel
theorem dX2_doubleArea_13 : decode cX2_doubleArea 13 = .ok (.aload_n 0, 1) := by decide +kernel
theorem dX2_doubleArea_14 : decode cX2_doubleArea 14 = .ok (.getfield 15, 3) := by decide +kernel
theorem dX2_doubleArea_17 : decode cX2_doubleArea 17 = .ok (.iload_n 2, 1) := by decide +kernel
theorem dX2_doubleArea_18 : decode cX2_doubleArea 18 = .ok (.iaload, 1) := by decide +kernel
theorem dX2_doubleArea_19 : decode cX2_doubleArea 19 = .ok (.aload_n 0, 1) := by decide +kernel
theorem dX2_doubleArea_20 : decode cX2_doubleArea 20 = .ok (.getfield 18, 3) := by decide +kernel
theorem dX2_doubleArea_23 : decode cX2_doubleArea 23 = .ok (.iload_n 2, 1) := by decide +kernel
theorem dX2_doubleArea_24 : decode cX2_doubleArea 24 = .ok (.iconst 1, 1) := by decide +kernel
theorem dX2_doubleArea_25 : decode cX2_doubleArea 25 = .ok (.iadd, 1) := by decide +kernel
theorem dX2_doubleArea_26 : decode cX2_doubleArea 26 = .ok (.iaload, 1) := by decide +kernel
theorem dX2_doubleArea_27 : decode cX2_doubleArea 27 = .ok (.imul, 1) := by decide +kernel
theorem dX2_doubleArea_28 : decode cX2_doubleArea 28 = .ok (.aload_n 0, 1) := by decide +kernel
theorem dX2_doubleArea_29 : decode cX2_doubleArea 29 = .ok (.getfield 18, 3) := by decide +kernel
theorem dX2_doubleArea_32 : decode cX2_doubleArea 32 = .ok (.iload_n 2, 1) := by decide +kernel
theorem dX2_doubleArea_33 : decode cX2_doubleArea 33 = .ok (.iaload, 1) := by decide +kernel
theorem dX2_doubleArea_34 : decode cX2_doubleArea 34 = .ok (.aload_n 0, 1) := by decide +kernel
theorem dX2_doubleArea_35 : decode cX2_doubleArea 35 = .ok (.getfield 15, 3) := by decide +kernel
theorem dX2_doubleArea_38 : decode cX2_doubleArea 38 = .ok (.iload_n 2, 1) := by decide +kernel
theorem dX2_doubleArea_39 : decode cX2_doubleArea 39 = .ok (.iconst 1, 1) := by decide +kernel
theorem dX2_doubleArea_40 : decode cX2_doubleArea 40 = .ok (.iadd, 1) := by decide +kernel
theorem dX2_doubleArea_41 : decode cX2_doubleArea 41 = .ok (.iaload, 1) := by decide +kernel
theorem dX2_doubleArea_42 : decode cX2_doubleArea 42 = .ok (.imul, 1) := by decide +kernel
theorem dX2_doubleArea_43 : decode cX2_doubleArea 43 = .ok (.isub, 1) := by decide +kernel
theorem dX2_doubleArea_44 : decode cX2_doubleArea 44 = .ok (.iadd, 1) := by decide +kernel
theorem dX2_doubleArea_45 : decode cX2_doubleArea 45 = .ok (.istore_n 1, 1) := by decide +kernel
theorem dX2_doubleArea_46 : decode cX2_doubleArea 46 = .ok (.iinc 2 1, 3) := by decide +kernel
theorem dX2_doubleArea_49 : decode cX2_doubleArea 49 = .ok (.goto (-45), 3) := by decide +kernel
theorem dX2_doubleArea_52 : decode cX2_doubleArea 52 = .ok (.iload_n 1, 1) := by decide +kernel
theorem dX2_doubleArea_53 : decode cX2_doubleArea 53 = .ok (.ireturn, 1) := by decide +kernel
theorem dX2_wholePlaces_0 : decode cX2_wholePlaces 0 = .ok (.iconst 0, 1) := by decide +kernel
theorem dX2_wholePlaces_1 : decode cX2_wholePlaces 1 = .ok (.istore_n 1, 1) := by decide +kernel
theorem dX2_wholePlaces_2 : decode cX2_wholePlaces 2 = .ok (.iconst 0, 1) := by decide +kernel
theorem dX2_wholePlaces_3 : decode cX2_wholePlaces 3 = .ok (.istore_n 2, 1) := by decide +kernel
theorem dX2_wholePlaces_4 : decode cX2_wholePlaces 4 = .ok (.iload_n 2, 1) := by decide +kernel
theorem dX2_wholePlaces_5 : decode cX2_wholePlaces 5 = .ok (.aload_n 0, 1) := by decide +kernel
theorem dX2_wholePlaces_6 : decode cX2_wholePlaces 6 = .ok (.getfield 38, 3) := by decide +kernel
theorem dX2_wholePlaces_9 : decode cX2_wholePlaces 9 = .ok (.if_icmp .ge 48, 3) := by decide +kernel
theorem dX2_wholePlaces_12 : decode cX2_wholePlaces 12 = .ok (.iload_n 1, 1) := by decide +kernel
theorem dX2_wholePlaces_13 : decode cX2_wholePlaces 13 = .ok (.aload_n 0, 1) := by decide +kernel
theorem dX2_wholePlaces_14 : decode cX2_wholePlaces 14 = .ok (.getfield 15, 3) := by decide +kernel
theorem dX2_wholePlaces_17 : decode cX2_wholePlaces 17 = .ok (.iload_n 2, 1) := by decide +kernel
theorem dX2_wholePlaces_18 : decode cX2_wholePlaces 18 = .ok (.iconst 1, 1) := by decide +kernel
theorem dX2_wholePlaces_19 : decode cX2_wholePlaces 19 = .ok (.iadd, 1) := by decide +kernel
theorem dX2_wholePlaces_20 : decode cX2_wholePlaces 20 = .ok (.iaload, 1) := by decide +kernel
theorem dX2_wholePlaces_21 : decode cX2_wholePlaces 21 = .ok (.aload_n 0, 1) := by decide +kernel
theorem dX2_wholePlaces_22 : decode cX2_wholePlaces 22 = .ok (.getfield 15, 3) := by decide +kernel
theorem dX2_wholePlaces_25 : decode cX2_wholePlaces 25 = .ok (.iload_n 2, 1) := by decide +kernel
theorem dX2_wholePlaces_26 : decode cX2_wholePlaces 26 = .ok (.iaload, 1) := by decide +kernel
theorem dX2_wholePlaces_27 : decode cX2_wholePlaces 27 = .ok (.isub, 1) := by decide +kernel
theorem dX2_wholePlaces_28 : decode cX2_wholePlaces 28 = .ok (.i2l, 1) := by decide +kernel
theorem dX2_wholePlaces_29 : decode cX2_wholePlaces 29 = .ok (.aload_n 0, 1) := by decide +kernel
theorem dX2_wholePlaces_30 : decode cX2_wholePlaces 30 = .ok (.getfield 18, 3) := by decide +kernel
theorem dX2_wholePlaces_33 : decode cX2_wholePlaces 33 = .ok (.iload_n 2, 1) := by decide +kernel
theorem dX2_wholePlaces_34 : decode cX2_wholePlaces 34 = .ok (.iconst 1, 1) := by decide +kernel
theorem dX2_wholePlaces_35 : decode cX2_wholePlaces 35 = .ok (.iadd, 1) := by decide +kernel
theorem dX2_wholePlaces_36 : decode cX2_wholePlaces 36 = .ok (.iaload, 1) := by decide +kernel
theorem dX2_wholePlaces_37 : decode cX2_wholePlaces 37 = .ok (.aload_n 0, 1) := by decide +kernel
theorem dX2_wholePlaces_38 : decode cX2_wholePlaces 38 = .ok (.getfield 18, 3) := by decide +kernel
theorem dX2_wholePlaces_41 : decode cX2_wholePlaces 41 = .ok (.iload_n 2, 1) := by decide +kernel
theorem dX2_wholePlaces_42 : decode cX2_wholePlaces 42 = .ok (.iaload, 1) := by decide +kernel
theorem dX2_wholePlaces_43 : decode cX2_wholePlaces 43 = .ok (.isub, 1) := by decide +kernel
theorem dX2_wholePlaces_44 : decode cX2_wholePlaces 44 = .ok (.i2l, 1) := by decide +kernel
theorem dX2_wholePlaces_45 : decode cX2_wholePlaces 45 = .ok (.invokestatic 56, 3) := by decide +kernel
theorem dX2_wholePlaces_48 : decode cX2_wholePlaces 48 = .ok (.l2i, 1) := by decide +kernel
theorem dX2_wholePlaces_49 : decode cX2_wholePlaces 49 = .ok (.iadd, 1) := by decide +kernel
theorem dX2_wholePlaces_50 : decode cX2_wholePlaces 50 = .ok (.istore_n 1, 1) := by decide +kernel
theorem dX2_wholePlaces_51 : decode cX2_wholePlaces 51 = .ok (.iinc 2 1, 3) := by decide +kernel
theorem dX2_wholePlaces_54 : decode cX2_wholePlaces 54 = .ok (.goto (-50), 3) := by decide +kernel
theorem dX2_wholePlaces_57 : decode cX2_wholePlaces 57 = .ok (.aload_n 0, 1) := by decide +kernel
theorem dX2_wholePlaces_58 : decode cX2_wholePlaces 58 = .ok (.invokevirtual 60, 3) := by decide +kernel
theorem dX2_wholePlaces_61 : decode cX2_wholePlaces 61 = .ok (.iload_n 1, 1) := by decide +kernel
theorem dX2_wholePlaces_62 : decode cX2_wholePlaces 62 = .ok (.iadd, 1) := by decide +kernel
theorem dX2_wholePlaces_63 : decode cX2_wholePlaces 63 = .ok (.iconst 2, 1) := by decide +kernel
theorem dX2_wholePlaces_64 : decode cX2_wholePlaces 64 = .ok (.idiv, 1) := by decide +kernel
theorem dX2_wholePlaces_65 : decode cX2_wholePlaces 65 = .ok (.iconst 1, 1) := by decide +kernel
theorem dX2_wholePlaces_66 : decode cX2_wholePlaces 66 = .ok (.iadd, 1) := by decide +kernel
theorem dX2_wholePlaces_67 : decode cX2_wholePlaces 67 = .ok (.ireturn, 1) := by decide +kernel
theorem dX2_sideOf_0 : decode cX2_sideOf 0 = .ok (.aload_n 0, 1) := by decide +kernel
theorem dX2_sideOf_1 : decode cX2_sideOf 1 = .ok (.getfield 38, 3) := by decide +kernel
theorem dX2_sideOf_4 : decode cX2_sideOf 4 = .ok (.iconst 1, 1) := by decide +kernel
theorem dX2_sideOf_5 : decode cX2_sideOf 5 = .ok (.if_icmp .ge 5, 3) := by decide +kernel
theorem dX2_sideOf_8 : decode cX2_sideOf 8 = .ok (.iconst 0, 1) := by decide +kernel
theorem dX2_sideOf_9 : decode cX2_sideOf 9 = .ok (.ireturn, 1) := by decide +kernel
theorem dX2_sideOf_10 : decode cX2_sideOf 10 = .ok (.iconst 0, 1) := by decide +kernel
theorem dX2_sideOf_11 : decode cX2_sideOf 11 = .ok (.istore 7, 2) := by decide +kernel
theorem dX2_sideOf_13 : decode cX2_sideOf 13 = .ok (.iconst 0, 1) := by decide +kernel
theorem dX2_sideOf_14 : decode cX2_sideOf 14 = .ok (.istore 8, 2) := by decide +kernel
theorem dX2_sideOf_16 : decode cX2_sideOf 16 = .ok (.iload 8, 2) := by decide +kernel
theorem dX2_sideOf_18 : decode cX2_sideOf 18 = .ok (.aload_n 0, 1) := by decide +kernel
theorem dX2_sideOf_19 : decode cX2_sideOf 19 = .ok (.getfield 38, 3) := by decide +kernel
theorem dX2_sideOf_22 : decode cX2_sideOf 22 = .ok (.if_icmp .ge 104, 3) := by decide +kernel
theorem dX2_sideOf_25 : decode cX2_sideOf 25 = .ok (.aload_n 0, 1) := by decide +kernel
theorem dX2_sideOf_26 : decode cX2_sideOf 26 = .ok (.getfield 15, 3) := by decide +kernel
theorem dX2_sideOf_29 : decode cX2_sideOf 29 = .ok (.iload 8, 2) := by decide +kernel
theorem dX2_sideOf_31 : decode cX2_sideOf 31 = .ok (.iconst 1, 1) := by decide +kernel
theorem dX2_sideOf_32 : decode cX2_sideOf 32 = .ok (.iadd, 1) := by decide +kernel
theorem dX2_sideOf_33 : decode cX2_sideOf 33 = .ok (.iaload, 1) := by decide +kernel
theorem dX2_sideOf_34 : decode cX2_sideOf 34 = .ok (.aload_n 0, 1) := by decide +kernel
theorem dX2_sideOf_35 : decode cX2_sideOf 35 = .ok (.getfield 15, 3) := by decide +kernel
theorem dX2_sideOf_38 : decode cX2_sideOf 38 = .ok (.iload 8, 2) := by decide +kernel
theorem dX2_sideOf_40 : decode cX2_sideOf 40 = .ok (.iaload, 1) := by decide +kernel
theorem dX2_sideOf_41 : decode cX2_sideOf 41 = .ok (.isub, 1) := by decide +kernel
theorem dX2_sideOf_42 : decode cX2_sideOf 42 = .ok (.i2l, 1) := by decide +kernel
theorem dX2_sideOf_43 : decode cX2_sideOf 43 = .ok (.lload_n 3, 1) := by decide +kernel
theorem dX2_sideOf_44 : decode cX2_sideOf 44 = .ok (.aload_n 0, 1) := by decide +kernel
theorem dX2_sideOf_45 : decode cX2_sideOf 45 = .ok (.getfield 18, 3) := by decide +kernel
theorem dX2_sideOf_48 : decode cX2_sideOf 48 = .ok (.iload 8, 2) := by decide +kernel
theorem dX2_sideOf_50 : decode cX2_sideOf 50 = .ok (.iaload, 1) := by decide +kernel
theorem dX2_sideOf_51 : decode cX2_sideOf 51 = .ok (.i2l, 1) := by decide +kernel
theorem dX2_sideOf_52 : decode cX2_sideOf 52 = .ok (.lload 5, 2) := by decide +kernel
theorem dX2_sideOf_54 : decode cX2_sideOf 54 = .ok (.lmul, 1) := by decide +kernel
theorem dX2_sideOf_55 : decode cX2_sideOf 55 = .ok (.lsub, 1) := by decide +kernel
theorem dX2_sideOf_56 : decode cX2_sideOf 56 = .ok (.lmul, 1) := by decide +kernel
theorem dX2_sideOf_57 : decode cX2_sideOf 57 = .ok (.aload_n 0, 1) := by decide +kernel
theorem dX2_sideOf_58 : decode cX2_sideOf 58 = .ok (.getfield 18, 3) := by decide +kernel
theorem dX2_sideOf_61 : decode cX2_sideOf 61 = .ok (.iload 8, 2) := by decide +kernel
theorem dX2_sideOf_63 : decode cX2_sideOf 63 = .ok (.iconst 1, 1) := by decide +kernel
theorem dX2_sideOf_64 : decode cX2_sideOf 64 = .ok (.iadd, 1) := by decide +kernel
theorem dX2_sideOf_65 : decode cX2_sideOf 65 = .ok (.iaload, 1) := by decide +kernel
theorem dX2_sideOf_66 : decode cX2_sideOf 66 = .ok (.aload_n 0, 1) := by decide +kernel
theorem dX2_sideOf_67 : decode cX2_sideOf 67 = .ok (.getfield 18, 3) := by decide +kernel
theorem dX2_sideOf_70 : decode cX2_sideOf 70 = .ok (.iload 8, 2) := by decide +kernel
theorem dX2_sideOf_72 : decode cX2_sideOf 72 = .ok (.iaload, 1) := by decide +kernel
theorem dX2_sideOf_73 : decode cX2_sideOf 73 = .ok (.isub, 1) := by decide +kernel
theorem dX2_sideOf_74 : decode cX2_sideOf 74 = .ok (.i2l, 1) := by decide +kernel
theorem dX2_sideOf_75 : decode cX2_sideOf 75 = .ok (.lload_n 1, 1) := by decide +kernel
theorem dX2_sideOf_76 : decode cX2_sideOf 76 = .ok (.aload_n 0, 1) := by decide +kernel
theorem dX2_sideOf_77 : decode cX2_sideOf 77 = .ok (.getfield 15, 3) := by decide +kernel
theorem dX2_sideOf_80 : decode cX2_sideOf 80 = .ok (.iload 8, 2) := by decide +kernel
theorem dX2_sideOf_82 : decode cX2_sideOf 82 = .ok (.iaload, 1) := by decide +kernel
theorem dX2_sideOf_83 : decode cX2_sideOf 83 = .ok (.i2l, 1) := by decide +kernel
theorem dX2_sideOf_84 : decode cX2_sideOf 84 = .ok (.lload 5, 2) := by decide +kernel
theorem dX2_sideOf_86 : decode cX2_sideOf 86 = .ok (.lmul, 1) := by decide +kernel
theorem dX2_sideOf_87 : decode cX2_sideOf 87 = .ok (.lsub, 1) := by decide +kernel
theorem dX2_sideOf_88 : decode cX2_sideOf 88 = .ok (.lmul, 1) := by decide +kernel
theorem dX2_sideOf_89 : decode cX2_sideOf 89 = .ok (.lsub, 1) := by decide +kernel
theorem dX2_sideOf_90 : decode cX2_sideOf 90 = .ok (.lstore 9, 2) := by decide +kernel
theorem dX2_sideOf_92 : decode cX2_sideOf 92 = .ok (.lload 9, 2) := by decide +kernel
theorem dX2_sideOf_94 : decode cX2_sideOf 94 = .ok (.lconst 0, 1) := by decide +kernel
theorem dX2_sideOf_95 : decode cX2_sideOf 95 = .ok (.lcmp, 1) := by decide +kernel
theorem dX2_sideOf_96 : decode cX2_sideOf 96 = .ok (.ifCond .ge 5, 3) := by decide +kernel
theorem dX2_sideOf_99 : decode cX2_sideOf 99 = .ok (.iconst 0, 1) := by decide +kernel
theorem dX2_sideOf_100 : decode cX2_sideOf 100 = .ok (.ireturn, 1) := by decide +kernel
theorem dX2_sideOf_101 : decode cX2_sideOf 101 = .ok (.iload 7, 2) := by decide +kernel
theorem dX2_sideOf_103 : decode cX2_sideOf 103 = .ok (.ifCond .ne 10, 3) := by decide +kernel
theorem dX2_sideOf_106 : decode cX2_sideOf 106 = .ok (.lload 9, 2) := by decide +kernel
theorem dX2_sideOf_108 : decode cX2_sideOf 108 = .ok (.lconst 0, 1) := by decide +kernel
theorem dX2_sideOf_109 : decode cX2_sideOf 109 = .ok (.lcmp, 1) := by decide +kernel
theorem dX2_sideOf_110 : decode cX2_sideOf 110 = .ok (.ifCond .ne 7, 3) := by decide +kernel
theorem dX2_sideOf_113 : decode cX2_sideOf 113 = .ok (.iconst 1, 1) := by decide +kernel
theorem dX2_sideOf_114 : decode cX2_sideOf 114 = .ok (.goto 4, 3) := by decide +kernel
theorem dX2_sideOf_117 : decode cX2_sideOf 117 = .ok (.iconst 0, 1) := by decide +kernel
theorem dX2_sideOf_118 : decode cX2_sideOf 118 = .ok (.istore 7, 2) := by decide +kernel
theorem dX2_sideOf_120 : decode cX2_sideOf 120 = .ok (.iinc 8 1, 3) := by decide +kernel
theorem dX2_sideOf_123 : decode cX2_sideOf 123 = .ok (.goto (-107), 3) := by decide +kernel
theorem dX2_sideOf_126 : decode cX2_sideOf 126 = .ok (.aload_n 0, 1) := by decide +kernel
theorem dX2_sideOf_127 : decode cX2_sideOf 127 = .ok (.getfield 38, 3) := by decide +kernel
theorem dX2_sideOf_130 : decode cX2_sideOf 130 = .ok (.iconst 3, 1) := by decide +kernel
theorem dX2_sideOf_131 : decode cX2_sideOf 131 = .ok (.if_icmp .lt 14, 3) := by decide +kernel
theorem dX2_sideOf_134 : decode cX2_sideOf 134 = .ok (.iload 7, 2) := by decide +kernel
theorem dX2_sideOf_136 : decode cX2_sideOf 136 = .ok (.ifCond .eq 7, 3) := by decide +kernel
theorem dX2_sideOf_139 : decode cX2_sideOf 139 = .ok (.iconst 1, 1) := by decide +kernel
theorem dX2_sideOf_140 : decode cX2_sideOf 140 = .ok (.goto 4, 3) := by decide +kernel
theorem dX2_sideOf_143 : decode cX2_sideOf 143 = .ok (.iconst 2, 1) := by decide +kernel
theorem dX2_sideOf_144 : decode cX2_sideOf 144 = .ok (.ireturn, 1) := by decide +kernel
theorem dX2_sideOf_145 : decode cX2_sideOf 145 = .ok (.aload_n 0, 1) := by decide +kernel
theorem dX2_sideOf_146 : decode cX2_sideOf 146 = .ok (.getfield 15, 3) := by decide +kernel
theorem dX2_sideOf_149 : decode cX2_sideOf 149 = .ok (.iconst 0, 1) := by decide +kernel
theorem dX2_sideOf_150 : decode cX2_sideOf 150 = .ok (.iaload, 1) := by decide +kernel
theorem dX2_sideOf_151 : decode cX2_sideOf 151 = .ok (.i2l, 1) := by decide +kernel
theorem dX2_sideOf_152 : decode cX2_sideOf 152 = .ok (.lload 5, 2) := by decide +kernel
theorem dX2_sideOf_154 : decode cX2_sideOf 154 = .ok (.lmul, 1) := by decide +kernel
theorem dX2_sideOf_155 : decode cX2_sideOf 155 = .ok (.lload_n 1, 1) := by decide +kernel
theorem dX2_sideOf_156 : decode cX2_sideOf 156 = .ok (.lsub, 1) := by decide +kernel
theorem dX2_sideOf_157 : decode cX2_sideOf 157 = .ok (.lstore 8, 2) := by decide +kernel
theorem dX2_sideOf_159 : decode cX2_sideOf 159 = .ok (.aload_n 0, 1) := by decide +kernel
theorem dX2_sideOf_160 : decode cX2_sideOf 160 = .ok (.getfield 18, 3) := by decide +kernel
theorem dX2_sideOf_163 : decode cX2_sideOf 163 = .ok (.iconst 0, 1) := by decide +kernel
theorem dX2_sideOf_164 : decode cX2_sideOf 164 = .ok (.iaload, 1) := by decide +kernel
theorem dX2_sideOf_165 : decode cX2_sideOf 165 = .ok (.i2l, 1) := by decide +kernel
theorem dX2_sideOf_166 : decode cX2_sideOf 166 = .ok (.lload 5, 2) := by decide +kernel
theorem dX2_sideOf_168 : decode cX2_sideOf 168 = .ok (.lmul, 1) := by decide +kernel
theorem dX2_sideOf_169 : decode cX2_sideOf 169 = .ok (.lload_n 3, 1) := by decide +kernel
theorem dX2_sideOf_170 : decode cX2_sideOf 170 = .ok (.lsub, 1) := by decide +kernel
theorem dX2_sideOf_171 : decode cX2_sideOf 171 = .ok (.lstore 10, 2) := by decide +kernel
theorem dX2_sideOf_173 : decode cX2_sideOf 173 = .ok (.aload_n 0, 1) := by decide +kernel
theorem dX2_sideOf_174 : decode cX2_sideOf 174 = .ok (.getfield 15, 3) := by decide +kernel
theorem dX2_sideOf_177 : decode cX2_sideOf 177 = .ok (.aload_n 0, 1) := by decide +kernel
theorem dX2_sideOf_178 : decode cX2_sideOf 178 = .ok (.getfield 38, 3) := by decide +kernel
theorem dX2_sideOf_181 : decode cX2_sideOf 181 = .ok (.iconst 1, 1) := by decide +kernel
theorem dX2_sideOf_182 : decode cX2_sideOf 182 = .ok (.isub, 1) := by decide +kernel
theorem dX2_sideOf_183 : decode cX2_sideOf 183 = .ok (.iaload, 1) := by decide +kernel
theorem dX2_sideOf_184 : decode cX2_sideOf 184 = .ok (.i2l, 1) := by decide +kernel
theorem dX2_sideOf_185 : decode cX2_sideOf 185 = .ok (.lload 5, 2) := by decide +kernel
theorem dX2_sideOf_187 : decode cX2_sideOf 187 = .ok (.lmul, 1) := by decide +kernel
theorem dX2_sideOf_188 : decode cX2_sideOf 188 = .ok (.lload_n 1, 1) := by decide +kernel
theorem dX2_sideOf_189 : decode cX2_sideOf 189 = .ok (.lsub, 1) := by decide +kernel
theorem dX2_sideOf_190 : decode cX2_sideOf 190 = .ok (.lstore 12, 2) := by decide +kernel
theorem dX2_sideOf_192 : decode cX2_sideOf 192 = .ok (.aload_n 0, 1) := by decide +kernel
theorem dX2_sideOf_193 : decode cX2_sideOf 193 = .ok (.getfield 18, 3) := by decide +kernel
theorem dX2_sideOf_196 : decode cX2_sideOf 196 = .ok (.aload_n 0, 1) := by decide +kernel
theorem dX2_sideOf_197 : decode cX2_sideOf 197 = .ok (.getfield 38, 3) := by decide +kernel
theorem dX2_sideOf_200 : decode cX2_sideOf 200 = .ok (.iconst 1, 1) := by decide +kernel
theorem dX2_sideOf_201 : decode cX2_sideOf 201 = .ok (.isub, 1) := by decide +kernel
theorem dX2_sideOf_202 : decode cX2_sideOf 202 = .ok (.iaload, 1) := by decide +kernel
theorem dX2_sideOf_203 : decode cX2_sideOf 203 = .ok (.i2l, 1) := by decide +kernel
theorem dX2_sideOf_204 : decode cX2_sideOf 204 = .ok (.lload 5, 2) := by decide +kernel
theorem dX2_sideOf_206 : decode cX2_sideOf 206 = .ok (.lmul, 1) := by decide +kernel
theorem dX2_sideOf_207 : decode cX2_sideOf 207 = .ok (.lload_n 3, 1) := by decide +kernel
theorem dX2_sideOf_208 : decode cX2_sideOf 208 = .ok (.lsub, 1) := by decide +kernel
theorem dX2_sideOf_209 : decode cX2_sideOf 209 = .ok (.lstore 14, 2) := by decide +kernel
theorem dX2_sideOf_211 : decode cX2_sideOf 211 = .ok (.lload 8, 2) := by decide +kernel
theorem dX2_sideOf_213 : decode cX2_sideOf 213 = .ok (.lload 12, 2) := by decide +kernel
theorem dX2_sideOf_215 : decode cX2_sideOf 215 = .ok (.lmul, 1) := by decide +kernel
theorem dX2_sideOf_216 : decode cX2_sideOf 216 = .ok (.lload 10, 2) := by decide +kernel
theorem dX2_sideOf_218 : decode cX2_sideOf 218 = .ok (.lload 14, 2) := by decide +kernel
theorem dX2_sideOf_220 : decode cX2_sideOf 220 = .ok (.lmul, 1) := by decide +kernel
theorem dX2_sideOf_221 : decode cX2_sideOf 221 = .ok (.ladd, 1) := by decide +kernel
theorem dX2_sideOf_222 : decode cX2_sideOf 222 = .ok (.lconst 0, 1) := by decide +kernel
theorem dX2_sideOf_223 : decode cX2_sideOf 223 = .ok (.lcmp, 1) := by decide +kernel
theorem dX2_sideOf_224 : decode cX2_sideOf 224 = .ok (.ifCond .gt 7, 3) := by decide +kernel
theorem dX2_sideOf_227 : decode cX2_sideOf 227 = .ok (.iconst 1, 1) := by decide +kernel
theorem dX2_sideOf_228 : decode cX2_sideOf 228 = .ok (.goto 4, 3) := by decide +kernel
theorem dX2_sideOf_231 : decode cX2_sideOf 231 = .ok (.iconst 0, 1) := by decide +kernel
theorem dX2_sideOf_232 : decode cX2_sideOf 232 = .ok (.ireturn, 1) := by decide +kernel
theorem dX2_leastAlong_0 : decode cX2_leastAlong 0 = .ok (.lload_n 1, 1) := by decide +kernel
theorem dX2_leastAlong_1 : decode cX2_leastAlong 1 = .ok (.aload_n 0, 1) := by decide +kernel
theorem dX2_leastAlong_2 : decode cX2_leastAlong 2 = .ok (.getfield 15, 3) := by decide +kernel
theorem dX2_leastAlong_5 : decode cX2_leastAlong 5 = .ok (.iconst 0, 1) := by decide +kernel
theorem dX2_leastAlong_6 : decode cX2_leastAlong 6 = .ok (.iaload, 1) := by decide +kernel
theorem dX2_leastAlong_7 : decode cX2_leastAlong 7 = .ok (.i2l, 1) := by decide +kernel
theorem dX2_leastAlong_8 : decode cX2_leastAlong 8 = .ok (.lmul, 1) := by decide +kernel
theorem dX2_leastAlong_9 : decode cX2_leastAlong 9 = .ok (.lload_n 3, 1) := by decide +kernel
theorem dX2_leastAlong_10 : decode cX2_leastAlong 10 = .ok (.aload_n 0, 1) := by decide +kernel
theorem dX2_leastAlong_11 : decode cX2_leastAlong 11 = .ok (.getfield 18, 3) := by decide +kernel
theorem dX2_leastAlong_14 : decode cX2_leastAlong 14 = .ok (.iconst 0, 1) := by decide +kernel
theorem dX2_leastAlong_15 : decode cX2_leastAlong 15 = .ok (.iaload, 1) := by decide +kernel
theorem dX2_leastAlong_16 : decode cX2_leastAlong 16 = .ok (.i2l, 1) := by decide +kernel
theorem dX2_leastAlong_17 : decode cX2_leastAlong 17 = .ok (.lmul, 1) := by decide +kernel
theorem dX2_leastAlong_18 : decode cX2_leastAlong 18 = .ok (.ladd, 1) := by decide +kernel
theorem dX2_leastAlong_19 : decode cX2_leastAlong 19 = .ok (.lstore 5, 2) := by decide +kernel
theorem dX2_leastAlong_21 : decode cX2_leastAlong 21 = .ok (.iconst 1, 1) := by decide +kernel
theorem dX2_leastAlong_22 : decode cX2_leastAlong 22 = .ok (.istore 7, 2) := by decide +kernel
theorem dX2_leastAlong_24 : decode cX2_leastAlong 24 = .ok (.iload 7, 2) := by decide +kernel
theorem dX2_leastAlong_26 : decode cX2_leastAlong 26 = .ok (.aload_n 0, 1) := by decide +kernel
theorem dX2_leastAlong_27 : decode cX2_leastAlong 27 = .ok (.getfield 38, 3) := by decide +kernel
theorem dX2_leastAlong_30 : decode cX2_leastAlong 30 = .ok (.if_icmp .ge 37, 3) := by decide +kernel
theorem dX2_leastAlong_33 : decode cX2_leastAlong 33 = .ok (.lload 5, 2) := by decide +kernel
theorem dX2_leastAlong_35 : decode cX2_leastAlong 35 = .ok (.lload_n 1, 1) := by decide +kernel
theorem dX2_leastAlong_36 : decode cX2_leastAlong 36 = .ok (.aload_n 0, 1) := by decide +kernel
theorem dX2_leastAlong_37 : decode cX2_leastAlong 37 = .ok (.getfield 15, 3) := by decide +kernel
theorem dX2_leastAlong_40 : decode cX2_leastAlong 40 = .ok (.iload 7, 2) := by decide +kernel
theorem dX2_leastAlong_42 : decode cX2_leastAlong 42 = .ok (.iaload, 1) := by decide +kernel
theorem dX2_leastAlong_43 : decode cX2_leastAlong 43 = .ok (.i2l, 1) := by decide +kernel
theorem dX2_leastAlong_44 : decode cX2_leastAlong 44 = .ok (.lmul, 1) := by decide +kernel
theorem dX2_leastAlong_45 : decode cX2_leastAlong 45 = .ok (.lload_n 3, 1) := by decide +kernel
theorem dX2_leastAlong_46 : decode cX2_leastAlong 46 = .ok (.aload_n 0, 1) := by decide +kernel
theorem dX2_leastAlong_47 : decode cX2_leastAlong 47 = .ok (.getfield 18, 3) := by decide +kernel
theorem dX2_leastAlong_50 : decode cX2_leastAlong 50 = .ok (.iload 7, 2) := by decide +kernel
theorem dX2_leastAlong_52 : decode cX2_leastAlong 52 = .ok (.iaload, 1) := by decide +kernel
theorem dX2_leastAlong_53 : decode cX2_leastAlong 53 = .ok (.i2l, 1) := by decide +kernel
theorem dX2_leastAlong_54 : decode cX2_leastAlong 54 = .ok (.lmul, 1) := by decide +kernel
theorem dX2_leastAlong_55 : decode cX2_leastAlong 55 = .ok (.ladd, 1) := by decide +kernel
theorem dX2_leastAlong_56 : decode cX2_leastAlong 56 = .ok (.invokestatic 64, 3) := by decide +kernel
theorem dX2_leastAlong_59 : decode cX2_leastAlong 59 = .ok (.lstore 5, 2) := by decide +kernel
theorem dX2_leastAlong_61 : decode cX2_leastAlong 61 = .ok (.iinc 7 1, 3) := by decide +kernel
theorem dX2_leastAlong_64 : decode cX2_leastAlong 64 = .ok (.goto (-40), 3) := by decide +kernel
theorem dX2_leastAlong_67 : decode cX2_leastAlong 67 = .ok (.lload 5, 2) := by decide +kernel
theorem dX2_leastAlong_69 : decode cX2_leastAlong 69 = .ok (.lreturn, 1) := by decide +kernel
theorem dX6_init_0 : decode cX6_init 0 = .ok (.aload_n 0, 1) := by decide +kernel
theorem dX6_init_1 : decode cX6_init 1 = .ok (.invokespecial 1, 3) := by decide +kernel
theorem dX6_init_4 : decode cX6_init 4 = .ok (.aload_n 0, 1) := by decide +kernel
theorem dX6_init_5 : decode cX6_init 5 = .ok (.lconst 1, 1) := by decide +kernel
theorem dX6_init_6 : decode cX6_init 6 = .ok (.putfield 7, 3) := by decide +kernel
theorem dX6_init_9 : decode cX6_init 9 = .ok (.return_, 1) := by decide +kernel
theorem dX6_put_0 : decode cX6_put 0 = .ok (.lload_n 1, 1) := by decide +kernel
theorem dX6_put_1 : decode cX6_put 1 = .ok (.lload_n 3, 1) := by decide +kernel
theorem dX6_put_2 : decode cX6_put 2 = .ok (.invokestatic 13, 3) := by decide +kernel
theorem dX6_put_5 : decode cX6_put 5 = .ok (.lload 5, 2) := by decide +kernel
theorem dX6_put_7 : decode cX6_put 7 = .ok (.invokestatic 13, 3) := by decide +kernel
theorem dX6_put_10 : decode cX6_put 10 = .ok (.lstore 7, 2) := by decide +kernel
theorem dX6_put_12 : decode cX6_put 12 = .ok (.lload 5, 2) := by decide +kernel
theorem dX6_put_14 : decode cX6_put 14 = .ok (.lconst 0, 1) := by decide +kernel
theorem dX6_put_15 : decode cX6_put 15 = .ok (.lcmp, 1) := by decide +kernel
theorem dX6_put_16 : decode cX6_put 16 = .ok (.ifCond .eq 10, 3) := by decide +kernel
theorem dX6_put_19 : decode cX6_put 19 = .ok (.lload 7, 2) := by decide +kernel
theorem dX6_put_21 : decode cX6_put 21 = .ok (.lconst 0, 1) := by decide +kernel
theorem dX6_put_22 : decode cX6_put 22 = .ok (.lcmp, 1) := by decide +kernel
theorem dX6_put_23 : decode cX6_put 23 = .ok (.ifCond .ne 4, 3) := by decide +kernel
theorem dX6_put_26 : decode cX6_put 26 = .ok (.return_, 1) := by decide +kernel
theorem dX6_put_27 : decode cX6_put 27 = .ok (.lload 5, 2) := by decide +kernel
theorem dX6_put_29 : decode cX6_put 29 = .ok (.lconst 0, 1) := by decide +kernel
theorem dX6_put_30 : decode cX6_put 30 = .ok (.lcmp, 1) := by decide +kernel
theorem dX6_put_31 : decode cX6_put 31 = .ok (.ifCond .ge 8, 3) := by decide +kernel
theorem dX6_put_34 : decode cX6_put 34 = .ok (.lload 7, 2) := by decide +kernel
theorem dX6_put_36 : decode cX6_put 36 = .ok (.lneg, 1) := by decide +kernel
theorem dX6_put_37 : decode cX6_put 37 = .ok (.lstore 7, 2) := by decide +kernel
theorem dX6_put_39 : decode cX6_put 39 = .ok (.aload_n 0, 1) := by decide +kernel
theorem dX6_put_40 : decode cX6_put 40 = .ok (.lload_n 1, 1) := by decide +kernel
theorem dX6_put_41 : decode cX6_put 41 = .ok (.lload 7, 2) := by decide +kernel
theorem dX6_put_43 : decode cX6_put 43 = .ok (.ldiv, 1) := by decide +kernel
theorem dX6_put_44 : decode cX6_put 44 = .ok (.putfield 19, 3) := by decide +kernel
theorem dX6_put_47 : decode cX6_put 47 = .ok (.aload_n 0, 1) := by decide +kernel
theorem dX6_put_48 : decode cX6_put 48 = .ok (.lload_n 3, 1) := by decide +kernel
theorem dX6_put_49 : decode cX6_put 49 = .ok (.lload 7, 2) := by decide +kernel
theorem dX6_put_51 : decode cX6_put 51 = .ok (.ldiv, 1) := by decide +kernel
theorem dX6_put_52 : decode cX6_put 52 = .ok (.putfield 22, 3) := by decide +kernel
theorem dX6_put_55 : decode cX6_put 55 = .ok (.aload_n 0, 1) := by decide +kernel
theorem dX6_put_56 : decode cX6_put 56 = .ok (.lload 5, 2) := by decide +kernel
theorem dX6_put_58 : decode cX6_put 58 = .ok (.lload 7, 2) := by decide +kernel
theorem dX6_put_60 : decode cX6_put 60 = .ok (.ldiv, 1) := by decide +kernel
theorem dX6_put_61 : decode cX6_put 61 = .ok (.putfield 7, 3) := by decide +kernel
theorem dX6_put_64 : decode cX6_put 64 = .ok (.return_, 1) := by decide +kernel
theorem dX10_init_0 : decode cX10_init 0 = .ok (.aload_n 0, 1) := by decide +kernel
theorem dX10_init_1 : decode cX10_init 1 = .ok (.invokespecial 1, 3) := by decide +kernel
theorem dX10_init_4 : decode cX10_init 4 = .ok (.aload_n 0, 1) := by decide +kernel
theorem dX10_init_5 : decode cX10_init 5 = .ok (.iconst 4, 1) := by decide +kernel
theorem dX10_init_6 : decode cX10_init 6 = .ok (.newarray .int, 2) := by decide +kernel
theorem dX10_init_8 : decode cX10_init 8 = .ok (.putfield 9, 3) := by decide +kernel
theorem dX10_init_11 : decode cX10_init 11 = .ok (.aload_n 0, 1) := by decide +kernel
theorem dX10_init_12 : decode cX10_init 12 = .ok (.iconst 4, 1) := by decide +kernel
theorem dX10_init_13 : decode cX10_init 13 = .ok (.newarray .long, 2) := by decide +kernel
theorem dX10_init_15 : decode cX10_init 15 = .ok (.putfield 13, 3) := by decide +kernel
theorem dX10_init_18 : decode cX10_init 18 = .ok (.return_, 1) := by decide +kernel
theorem dX10_find_0 : decode cX10_find 0 = .ok (.aload_n 0, 1) := by decide +kernel
theorem dX10_find_1 : decode cX10_find 1 = .ok (.iconst 0, 1) := by decide +kernel
theorem dX10_find_2 : decode cX10_find 2 = .ok (.putfield 17, 3) := by decide +kernel
theorem dX10_find_5 : decode cX10_find 5 = .ok (.iconst 0, 1) := by decide +kernel
theorem dX10_find_6 : decode cX10_find 6 = .ok (.istore_n 3, 1) := by decide +kernel
theorem dX10_find_7 : decode cX10_find 7 = .ok (.iload_n 3, 1) := by decide +kernel
theorem dX10_find_8 : decode cX10_find 8 = .ok (.aload_n 1, 1) := by decide +kernel
theorem dX10_find_9 : decode cX10_find 9 = .ok (.getfield 21, 3) := by decide +kernel
theorem dX10_find_12 : decode cX10_find 12 = .ok (.if_icmp .ge 64, 3) := by decide +kernel
theorem dX10_find_15 : decode cX10_find 15 = .ok (.iload_n 2, 1) := by decide +kernel
theorem dX10_find_16 : decode cX10_find 16 = .ok (.iload_n 3, 1) := by decide +kernel
theorem dX10_find_17 : decode cX10_find 17 = .ok (.invokestatic 24, 3) := by decide +kernel
theorem dX10_find_20 : decode cX10_find 20 = .ok (.ifCond .ne 6, 3) := by decide +kernel
theorem dX10_find_23 : decode cX10_find 23 = .ok (.goto 47, 3) := by decide +kernel
theorem dX10_find_26 : decode cX10_find 26 = .ok (.aload_n 0, 1) := by decide +kernel
theorem dX10_find_27 : decode cX10_find 27 = .ok (.getfield 17, 3) := by decide +kernel
theorem dX10_find_30 : decode cX10_find 30 = .ok (.iconst 4, 1) := by decide +kernel
theorem dX10_find_31 : decode cX10_find 31 = .ok (.if_icmp .lt 5, 3) := by decide +kernel
theorem dX10_find_34 : decode cX10_find 34 = .ok (.iconst 0, 1) := by decide +kernel
theorem dX10_find_35 : decode cX10_find 35 = .ok (.ireturn, 1) := by decide +kernel
theorem dX10_find_36 : decode cX10_find 36 = .ok (.aload_n 0, 1) := by decide +kernel
theorem dX10_find_37 : decode cX10_find 37 = .ok (.getfield 9, 3) := by decide +kernel
theorem dX10_find_40 : decode cX10_find 40 = .ok (.aload_n 0, 1) := by decide +kernel
theorem dX10_find_41 : decode cX10_find 41 = .ok (.getfield 17, 3) := by decide +kernel
theorem dX10_find_44 : decode cX10_find 44 = .ok (.iload_n 3, 1) := by decide +kernel
theorem dX10_find_45 : decode cX10_find 45 = .ok (.iastore, 1) := by decide +kernel
theorem dX10_find_46 : decode cX10_find 46 = .ok (.aload_n 0, 1) := by decide +kernel
theorem dX10_find_47 : decode cX10_find 47 = .ok (.dup, 1) := by decide +kernel
theorem dX10_find_48 : decode cX10_find 48 = .ok (.getfield 17, 3) := by decide +kernel
theorem dX10_find_51 : decode cX10_find 51 = .ok (.iconst 1, 1) := by decide +kernel
theorem dX10_find_52 : decode cX10_find 52 = .ok (.iadd, 1) := by decide +kernel
theorem dX10_find_53 : decode cX10_find 53 = .ok (.putfield 17, 3) := by decide +kernel
theorem dX10_find_56 : decode cX10_find 56 = .ok (.aload_n 0, 1) := by decide +kernel
theorem dX10_find_57 : decode cX10_find 57 = .ok (.aload_n 1, 1) := by decide +kernel
theorem dX10_find_58 : decode cX10_find 58 = .ok (.invokevirtual 30, 3) := by decide +kernel
theorem dX10_find_61 : decode cX10_find 61 = .ok (.ifCond .eq 9, 3) := by decide +kernel
theorem dX10_find_64 : decode cX10_find 64 = .ok (.aload_n 0, 1) := by decide +kernel
theorem dX10_find_65 : decode cX10_find 65 = .ok (.invokevirtual 34, 3) := by decide +kernel
theorem dX10_find_68 : decode cX10_find 68 = .ok (.iconst 1, 1) := by decide +kernel
theorem dX10_find_69 : decode cX10_find 69 = .ok (.ireturn, 1) := by decide +kernel
theorem dX10_find_70 : decode cX10_find 70 = .ok (.iinc 3 1, 3) := by decide +kernel
theorem dX10_find_73 : decode cX10_find 73 = .ok (.goto (-66), 3) := by decide +kernel
theorem dX10_find_76 : decode cX10_find 76 = .ok (.iconst 0, 1) := by decide +kernel
theorem dX10_find_77 : decode cX10_find 77 = .ok (.ireturn, 1) := by decide +kernel
theorem dX10_bind_0 : decode cX10_bind 0 = .ok (.aload_n 0, 1) := by decide +kernel
theorem dX10_bind_1 : decode cX10_bind 1 = .ok (.getfield 17, 3) := by decide +kernel
theorem dX10_bind_4 : decode cX10_bind 4 = .ok (.tableswitch 46 2 4 #[28, 34, 40], 28) := by decide +kernel
theorem dX10_bind_32 : decode cX10_bind 32 = .ok (.aload_n 0, 1) := by decide +kernel
theorem dX10_bind_33 : decode cX10_bind 33 = .ok (.aload_n 1, 1) := by decide +kernel
theorem dX10_bind_34 : decode cX10_bind 34 = .ok (.invokevirtual 37, 3) := by decide +kernel
theorem dX10_bind_37 : decode cX10_bind 37 = .ok (.ireturn, 1) := by decide +kernel
theorem dX10_bind_38 : decode cX10_bind 38 = .ok (.aload_n 0, 1) := by decide +kernel
theorem dX10_bind_39 : decode cX10_bind 39 = .ok (.aload_n 1, 1) := by decide +kernel
theorem dX10_bind_40 : decode cX10_bind 40 = .ok (.invokevirtual 40, 3) := by decide +kernel
theorem dX10_bind_43 : decode cX10_bind 43 = .ok (.ireturn, 1) := by decide +kernel
theorem dX10_bind_44 : decode cX10_bind 44 = .ok (.aload_n 0, 1) := by decide +kernel
theorem dX10_bind_45 : decode cX10_bind 45 = .ok (.aload_n 1, 1) := by decide +kernel
theorem dX10_bind_46 : decode cX10_bind 46 = .ok (.invokevirtual 43, 3) := by decide +kernel
theorem dX10_bind_49 : decode cX10_bind 49 = .ok (.ireturn, 1) := by decide +kernel
theorem dX10_bind_50 : decode cX10_bind 50 = .ok (.iconst 0, 1) := by decide +kernel
theorem dX10_bind_51 : decode cX10_bind 51 = .ok (.ireturn, 1) := by decide +kernel
theorem dX10_bindTwo_0 : decode cX10_bindTwo 0 = .ok (.aload_n 0, 1) := by decide +kernel
theorem dX10_bindTwo_1 : decode cX10_bindTwo 1 = .ok (.getfield 13, 3) := by decide +kernel
theorem dX10_bindTwo_4 : decode cX10_bindTwo 4 = .ok (.iconst 0, 1) := by decide +kernel
theorem dX10_bindTwo_5 : decode cX10_bindTwo 5 = .ok (.ldc2_w 46, 3) := by decide +kernel
theorem dX10_bindTwo_8 : decode cX10_bindTwo 8 = .ok (.lastore, 1) := by decide +kernel
theorem dX10_bindTwo_9 : decode cX10_bindTwo 9 = .ok (.aload_n 0, 1) := by decide +kernel
theorem dX10_bindTwo_10 : decode cX10_bindTwo 10 = .ok (.getfield 13, 3) := by decide +kernel
theorem dX10_bindTwo_13 : decode cX10_bindTwo 13 = .ok (.iconst 1, 1) := by decide +kernel
theorem dX10_bindTwo_14 : decode cX10_bindTwo 14 = .ok (.lconst 1, 1) := by decide +kernel
theorem dX10_bindTwo_15 : decode cX10_bindTwo 15 = .ok (.lastore, 1) := by decide +kernel
theorem dX10_bindTwo_16 : decode cX10_bindTwo 16 = .ok (.aload_n 1, 1) := by decide +kernel
theorem dX10_bindTwo_17 : decode cX10_bindTwo 17 = .ok (.aload_n 0, 1) := by decide +kernel
theorem dX10_bindTwo_18 : decode cX10_bindTwo 18 = .ok (.getfield 9, 3) := by decide +kernel
theorem dX10_bindTwo_21 : decode cX10_bindTwo 21 = .ok (.iconst 0, 1) := by decide +kernel
theorem dX10_bindTwo_22 : decode cX10_bindTwo 22 = .ok (.iaload, 1) := by decide +kernel
theorem dX10_bindTwo_23 : decode cX10_bindTwo 23 = .ok (.aload_n 1, 1) := by decide +kernel
theorem dX10_bindTwo_24 : decode cX10_bindTwo 24 = .ok (.getfield 48, 3) := by decide +kernel
theorem dX10_bindTwo_27 : decode cX10_bindTwo 27 = .ok (.aload_n 0, 1) := by decide +kernel
theorem dX10_bindTwo_28 : decode cX10_bindTwo 28 = .ok (.getfield 9, 3) := by decide +kernel
theorem dX10_bindTwo_31 : decode cX10_bindTwo 31 = .ok (.iconst 1, 1) := by decide +kernel
theorem dX10_bindTwo_32 : decode cX10_bindTwo 32 = .ok (.iaload, 1) := by decide +kernel
theorem dX10_bindTwo_33 : decode cX10_bindTwo 33 = .ok (.iaload, 1) := by decide +kernel
theorem dX10_bindTwo_34 : decode cX10_bindTwo 34 = .ok (.aload_n 1, 1) := by decide +kernel
theorem dX10_bindTwo_35 : decode cX10_bindTwo 35 = .ok (.getfield 51, 3) := by decide +kernel
theorem dX10_bindTwo_38 : decode cX10_bindTwo 38 = .ok (.aload_n 0, 1) := by decide +kernel
theorem dX10_bindTwo_39 : decode cX10_bindTwo 39 = .ok (.getfield 9, 3) := by decide +kernel
theorem dX10_bindTwo_42 : decode cX10_bindTwo 42 = .ok (.iconst 1, 1) := by decide +kernel
theorem dX10_bindTwo_43 : decode cX10_bindTwo 43 = .ok (.iaload, 1) := by decide +kernel
theorem dX10_bindTwo_44 : decode cX10_bindTwo 44 = .ok (.iaload, 1) := by decide +kernel
theorem dX10_bindTwo_45 : decode cX10_bindTwo 45 = .ok (.invokevirtual 54, 3) := by decide +kernel
theorem dX10_bindTwo_48 : decode cX10_bindTwo 48 = .ok (.ireturn, 1) := by decide +kernel
theorem dX10_bindThree_0 : decode cX10_bindThree 0 = .ok (.aload_n 1, 1) := by decide +kernel
theorem dX10_bindThree_1 : decode cX10_bindThree 1 = .ok (.getfield 48, 3) := by decide +kernel
theorem dX10_bindThree_4 : decode cX10_bindThree 4 = .ok (.aload_n 0, 1) := by decide +kernel
theorem dX10_bindThree_5 : decode cX10_bindThree 5 = .ok (.getfield 9, 3) := by decide +kernel
theorem dX10_bindThree_8 : decode cX10_bindThree 8 = .ok (.iconst 1, 1) := by decide +kernel
theorem dX10_bindThree_9 : decode cX10_bindThree 9 = .ok (.iaload, 1) := by decide +kernel
theorem dX10_bindThree_10 : decode cX10_bindThree 10 = .ok (.iaload, 1) := by decide +kernel
theorem dX10_bindThree_11 : decode cX10_bindThree 11 = .ok (.aload_n 1, 1) := by decide +kernel
theorem dX10_bindThree_12 : decode cX10_bindThree 12 = .ok (.getfield 48, 3) := by decide +kernel
theorem dX10_bindThree_15 : decode cX10_bindThree 15 = .ok (.aload_n 0, 1) := by decide +kernel
theorem dX10_bindThree_16 : decode cX10_bindThree 16 = .ok (.getfield 9, 3) := by decide +kernel
theorem dX10_bindThree_19 : decode cX10_bindThree 19 = .ok (.iconst 0, 1) := by decide +kernel
theorem dX10_bindThree_20 : decode cX10_bindThree 20 = .ok (.iaload, 1) := by decide +kernel
theorem dX10_bindThree_21 : decode cX10_bindThree 21 = .ok (.iaload, 1) := by decide +kernel
theorem dX10_bindThree_22 : decode cX10_bindThree 22 = .ok (.isub, 1) := by decide +kernel
theorem dX10_bindThree_23 : decode cX10_bindThree 23 = .ok (.i2l, 1) := by decide +kernel
theorem dX10_bindThree_24 : decode cX10_bindThree 24 = .ok (.lstore_n 2, 1) := by decide +kernel
theorem dX10_bindThree_25 : decode cX10_bindThree 25 = .ok (.aload_n 1, 1) := by decide +kernel
theorem dX10_bindThree_26 : decode cX10_bindThree 26 = .ok (.getfield 51, 3) := by decide +kernel
