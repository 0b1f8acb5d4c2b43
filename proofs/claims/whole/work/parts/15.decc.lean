theorem dX0_laws_0 : decode cX0_laws 0 = .ok (.aload_n 0, 1) := by decide +kernel
theorem dX0_laws_1 : decode cX0_laws 1 = .ok (.getfield 30, 3) := by decide +kernel
theorem dX0_laws_4 : decode cX0_laws 4 = .ok (.ireturn, 1) := by decide +kernel
theorem dX0_holding_0 : decode cX0_holding 0 = .ok (.aload_n 0, 1) := by decide +kernel
theorem dX0_holding_1 : decode cX0_holding 1 = .ok (.getfield 34, 3) := by decide +kernel
theorem dX0_holding_4 : decode cX0_holding 4 = .ok (.ireturn, 1) := by decide +kernel
theorem dX0_addLaw_0 : decode cX0_addLaw 0 = .ok (.aload_n 0, 1) := by decide +kernel
theorem dX0_addLaw_1 : decode cX0_addLaw 1 = .ok (.getfield 30, 3) := by decide +kernel
theorem dX0_addLaw_4 : decode cX0_addLaw 4 = .ok (.iconst 4, 1) := by decide +kernel
theorem dX0_addLaw_5 : decode cX0_addLaw 5 = .ok (.if_icmp .lt 5, 3) := by decide +kernel
theorem dX0_addLaw_8 : decode cX0_addLaw 8 = .ok (.iconst (-1), 1) := by decide +kernel
theorem dX0_addLaw_9 : decode cX0_addLaw 9 = .ok (.ireturn, 1) := by decide +kernel
theorem dX0_addLaw_10 : decode cX0_addLaw 10 = .ok (.aload_n 0, 1) := by decide +kernel
theorem dX0_addLaw_11 : decode cX0_addLaw 11 = .ok (.getfield 21, 3) := by decide +kernel
theorem dX0_addLaw_14 : decode cX0_addLaw 14 = .ok (.aload_n 0, 1) := by decide +kernel
theorem dX0_addLaw_15 : decode cX0_addLaw 15 = .ok (.getfield 30, 3) := by decide +kernel
theorem dX0_addLaw_18 : decode cX0_addLaw 18 = .ok (.aaload, 1) := by decide +kernel
theorem dX0_addLaw_19 : decode cX0_addLaw 19 = .ok (.aload_n 1, 1) := by decide +kernel
theorem dX0_addLaw_20 : decode cX0_addLaw 20 = .ok (.invokevirtual 41, 3) := by decide +kernel
theorem dX0_addLaw_23 : decode cX0_addLaw 23 = .ok (.aload_n 0, 1) := by decide +kernel
theorem dX0_addLaw_24 : decode cX0_addLaw 24 = .ok (.dup, 1) := by decide +kernel
theorem dX0_addLaw_25 : decode cX0_addLaw 25 = .ok (.getfield 30, 3) := by decide +kernel
theorem dX0_addLaw_28 : decode cX0_addLaw 28 = .ok (.iconst 1, 1) := by decide +kernel
theorem dX0_addLaw_29 : decode cX0_addLaw 29 = .ok (.iadd, 1) := by decide +kernel
theorem dX0_addLaw_30 : decode cX0_addLaw 30 = .ok (.putfield 30, 3) := by decide +kernel
theorem dX0_addLaw_33 : decode cX0_addLaw 33 = .ok (.aload_n 0, 1) := by decide +kernel
theorem dX0_addLaw_34 : decode cX0_addLaw 34 = .ok (.getfield 30, 3) := by decide +kernel
theorem dX0_addLaw_37 : decode cX0_addLaw 37 = .ok (.iconst 1, 1) := by decide +kernel
theorem dX0_addLaw_38 : decode cX0_addLaw 38 = .ok (.isub, 1) := by decide +kernel
theorem dX0_addLaw_39 : decode cX0_addLaw 39 = .ok (.ireturn, 1) := by decide +kernel
theorem dX0_holdTo_0 : decode cX0_holdTo 0 = .ok (.iload_n 1, 1) := by decide +kernel
theorem dX0_holdTo_1 : decode cX0_holdTo 1 = .ok (.iconst (-1), 1) := by decide +kernel
theorem dX0_holdTo_2 : decode cX0_holdTo 2 = .ok (.if_icmp .lt 11, 3) := by decide +kernel
theorem dX0_holdTo_5 : decode cX0_holdTo 5 = .ok (.iload_n 1, 1) := by decide +kernel
theorem dX0_holdTo_6 : decode cX0_holdTo 6 = .ok (.aload_n 0, 1) := by decide +kernel
theorem dX0_holdTo_7 : decode cX0_holdTo 7 = .ok (.getfield 30, 3) := by decide +kernel
theorem dX0_holdTo_10 : decode cX0_holdTo 10 = .ok (.if_icmp .lt 5, 3) := by decide +kernel
theorem dX0_holdTo_13 : decode cX0_holdTo 13 = .ok (.iconst 0, 1) := by decide +kernel
theorem dX0_holdTo_14 : decode cX0_holdTo 14 = .ok (.ireturn, 1) := by decide +kernel
theorem dX0_holdTo_15 : decode cX0_holdTo 15 = .ok (.aload_n 0, 1) := by decide +kernel
theorem dX0_holdTo_16 : decode cX0_holdTo 16 = .ok (.iload_n 1, 1) := by decide +kernel
theorem dX0_holdTo_17 : decode cX0_holdTo 17 = .ok (.putfield 34, 3) := by decide +kernel
theorem dX0_holdTo_20 : decode cX0_holdTo 20 = .ok (.iconst 1, 1) := by decide +kernel
theorem dX0_holdTo_21 : decode cX0_holdTo 21 = .ok (.ireturn, 1) := by decide +kernel
theorem dX0_canCome_0 : decode cX0_canCome 0 = .ok (.aload_n 0, 1) := by decide +kernel
theorem dX0_canCome_1 : decode cX0_canCome 1 = .ok (.getfield 9, 3) := by decide +kernel
theorem dX0_canCome_4 : decode cX0_canCome 4 = .ok (.iload_n 1, 1) := by decide +kernel
theorem dX0_canCome_5 : decode cX0_canCome 5 = .ok (.iload_n 2, 1) := by decide +kernel
theorem dX0_canCome_6 : decode cX0_canCome 6 = .ok (.invokevirtual 45, 3) := by decide +kernel
theorem dX0_canCome_9 : decode cX0_canCome 9 = .ok (.iconst (-1), 1) := by decide +kernel
theorem dX0_canCome_10 : decode cX0_canCome 10 = .ok (.if_icmp .eq 7, 3) := by decide +kernel
theorem dX0_canCome_13 : decode cX0_canCome 13 = .ok (.iconst 1, 1) := by decide +kernel
theorem dX0_canCome_14 : decode cX0_canCome 14 = .ok (.goto 4, 3) := by decide +kernel
theorem dX0_canCome_17 : decode cX0_canCome 17 = .ok (.iconst 0, 1) := by decide +kernel
theorem dX0_canCome_18 : decode cX0_canCome 18 = .ok (.ireturn, 1) := by decide +kernel
theorem dX0_canWork_0 : decode cX0_canWork 0 = .ok (.iload_n 3, 1) := by decide +kernel
theorem dX0_canWork_1 : decode cX0_canWork 1 = .ok (.iconst 2, 1) := by decide +kernel
theorem dX0_canWork_2 : decode cX0_canWork 2 = .ok (.if_icmp .eq 12, 3) := by decide +kernel
theorem dX0_canWork_5 : decode cX0_canWork 5 = .ok (.aload_n 0, 1) := by decide +kernel
theorem dX0_canWork_6 : decode cX0_canWork 6 = .ok (.iload_n 1, 1) := by decide +kernel
theorem dX0_canWork_7 : decode cX0_canWork 7 = .ok (.iload_n 2, 1) := by decide +kernel
theorem dX0_canWork_8 : decode cX0_canWork 8 = .ok (.invokevirtual 51, 3) := by decide +kernel
theorem dX0_canWork_11 : decode cX0_canWork 11 = .ok (.ifCond .eq 7, 3) := by decide +kernel
theorem dX0_canWork_14 : decode cX0_canWork 14 = .ok (.iconst 1, 1) := by decide +kernel
theorem dX0_canWork_15 : decode cX0_canWork 15 = .ok (.goto 4, 3) := by decide +kernel
theorem dX0_canWork_18 : decode cX0_canWork 18 = .ok (.iconst 0, 1) := by decide +kernel
theorem dX0_canWork_19 : decode cX0_canWork 19 = .ok (.ireturn, 1) := by decide +kernel
theorem dX0_canMeet_0 : decode cX0_canMeet 0 = .ok (.aload_n 0, 1) := by decide +kernel
theorem dX0_canMeet_1 : decode cX0_canMeet 1 = .ok (.getfield 9, 3) := by decide +kernel
theorem dX0_canMeet_4 : decode cX0_canMeet 4 = .ok (.iload_n 1, 1) := by decide +kernel
theorem dX0_canMeet_5 : decode cX0_canMeet 5 = .ok (.invokevirtual 55, 3) := by decide +kernel
theorem dX0_canMeet_8 : decode cX0_canMeet 8 = .ok (.ifCond .eq 30, 3) := by decide +kernel
theorem dX0_canMeet_11 : decode cX0_canMeet 11 = .ok (.aload_n 0, 1) := by decide +kernel
theorem dX0_canMeet_12 : decode cX0_canMeet 12 = .ok (.getfield 9, 3) := by decide +kernel
theorem dX0_canMeet_15 : decode cX0_canMeet 15 = .ok (.iload_n 2, 1) := by decide +kernel
theorem dX0_canMeet_16 : decode cX0_canMeet 16 = .ok (.invokevirtual 55, 3) := by decide +kernel
theorem dX0_canMeet_19 : decode cX0_canMeet 19 = .ok (.ifCond .eq 19, 3) := by decide +kernel
theorem dX0_canMeet_22 : decode cX0_canMeet 22 = .ok (.iload_n 1, 1) := by decide +kernel
theorem dX0_canMeet_23 : decode cX0_canMeet 23 = .ok (.iload_n 2, 1) := by decide +kernel
theorem dX0_canMeet_24 : decode cX0_canMeet 24 = .ok (.if_icmp .eq 14, 3) := by decide +kernel
theorem dX0_canMeet_27 : decode cX0_canMeet 27 = .ok (.aload_n 0, 1) := by decide +kernel
theorem dX0_canMeet_28 : decode cX0_canMeet 28 = .ok (.getfield 9, 3) := by decide +kernel
theorem dX0_canMeet_31 : decode cX0_canMeet 31 = .ok (.iload_n 3, 1) := by decide +kernel
theorem dX0_canMeet_32 : decode cX0_canMeet 32 = .ok (.invokevirtual 59, 3) := by decide +kernel
theorem dX0_canMeet_35 : decode cX0_canMeet 35 = .ok (.ifCond .ne 5, 3) := by decide +kernel
theorem dX0_canMeet_38 : decode cX0_canMeet 38 = .ok (.iconst 0, 1) := by decide +kernel
theorem dX0_canMeet_39 : decode cX0_canMeet 39 = .ok (.ireturn, 1) := by decide +kernel
theorem dX0_canMeet_40 : decode cX0_canMeet 40 = .ok (.aload_n 0, 1) := by decide +kernel
theorem dX0_canMeet_41 : decode cX0_canMeet 41 = .ok (.iload_n 1, 1) := by decide +kernel
theorem dX0_canMeet_42 : decode cX0_canMeet 42 = .ok (.iload_n 3, 1) := by decide +kernel
theorem dX0_canMeet_43 : decode cX0_canMeet 43 = .ok (.invokevirtual 51, 3) := by decide +kernel
theorem dX0_canMeet_46 : decode cX0_canMeet 46 = .ok (.ifCond .eq 16, 3) := by decide +kernel
theorem dX0_canMeet_49 : decode cX0_canMeet 49 = .ok (.aload_n 0, 1) := by decide +kernel
theorem dX0_canMeet_50 : decode cX0_canMeet 50 = .ok (.iload_n 2, 1) := by decide +kernel
theorem dX0_canMeet_51 : decode cX0_canMeet 51 = .ok (.iload_n 3, 1) := by decide +kernel
theorem dX0_canMeet_52 : decode cX0_canMeet 52 = .ok (.invokevirtual 51, 3) := by decide +kernel
theorem dX0_canMeet_55 : decode cX0_canMeet 55 = .ok (.ifCond .eq 7, 3) := by decide +kernel
theorem dX0_canMeet_58 : decode cX0_canMeet 58 = .ok (.iconst 1, 1) := by decide +kernel
theorem dX0_canMeet_59 : decode cX0_canMeet 59 = .ok (.goto 4, 3) := by decide +kernel
theorem dX0_canMeet_62 : decode cX0_canMeet 62 = .ok (.iconst 0, 1) := by decide +kernel
theorem dX0_canMeet_63 : decode cX0_canMeet 63 = .ok (.ireturn, 1) := by decide +kernel
theorem dX0_effect_0 : decode cX0_effect 0 = .ok (.iconst 0, 1) := by decide +kernel
theorem dX0_effect_1 : decode cX0_effect 1 = .ok (.istore 5, 2) := by decide +kernel
theorem dX0_effect_3 : decode cX0_effect 3 = .ok (.iload_n 3, 1) := by decide +kernel
theorem dX0_effect_4 : decode cX0_effect 4 = .ok (.iconst 2, 1) := by decide +kernel
theorem dX0_effect_5 : decode cX0_effect 5 = .ok (.if_icmp .ne 10, 3) := by decide +kernel
theorem dX0_effect_8 : decode cX0_effect 8 = .ok (.bipush 8, 2) := by decide +kernel
theorem dX0_effect_10 : decode cX0_effect 10 = .ok (.istore 5, 2) := by decide +kernel
theorem dX0_effect_12 : decode cX0_effect 12 = .ok (.goto 18, 3) := by decide +kernel
theorem dX0_effect_15 : decode cX0_effect 15 = .ok (.iload_n 3, 1) := by decide +kernel
theorem dX0_effect_16 : decode cX0_effect 16 = .ok (.iconst 3, 1) := by decide +kernel
theorem dX0_effect_17 : decode cX0_effect 17 = .ok (.if_icmp .eq 13, 3) := by decide +kernel
theorem dX0_effect_20 : decode cX0_effect 20 = .ok (.aload_n 0, 1) := by decide +kernel
theorem dX0_effect_21 : decode cX0_effect 21 = .ok (.iload_n 1, 1) := by decide +kernel
theorem dX0_effect_22 : decode cX0_effect 22 = .ok (.iload_n 2, 1) := by decide +kernel
theorem dX0_effect_23 : decode cX0_effect 23 = .ok (.iload 4, 2) := by decide +kernel
theorem dX0_effect_25 : decode cX0_effect 25 = .ok (.invokevirtual 62, 3) := by decide +kernel
theorem dX0_effect_28 : decode cX0_effect 28 = .ok (.istore 5, 2) := by decide +kernel
theorem dX0_effect_30 : decode cX0_effect 30 = .ok (.iload_n 3, 1) := by decide +kernel
theorem dX0_effect_31 : decode cX0_effect 31 = .ok (.iconst 1, 1) := by decide +kernel
theorem dX0_effect_32 : decode cX0_effect 32 = .ok (.if_icmp .ne 9, 3) := by decide +kernel
theorem dX0_effect_35 : decode cX0_effect 35 = .ok (.iload 5, 2) := by decide +kernel
theorem dX0_effect_37 : decode cX0_effect 37 = .ok (.iconst 2, 1) := by decide +kernel
theorem dX0_effect_38 : decode cX0_effect 38 = .ok (.idiv, 1) := by decide +kernel
theorem dX0_effect_39 : decode cX0_effect 39 = .ok (.istore 5, 2) := by decide +kernel
theorem dX0_effect_41 : decode cX0_effect 41 = .ok (.aload_n 0, 1) := by decide +kernel
theorem dX0_effect_42 : decode cX0_effect 42 = .ok (.getfield 15, 3) := by decide +kernel
theorem dX0_effect_45 : decode cX0_effect 45 = .ok (.invokevirtual 66, 3) := by decide +kernel
theorem dX0_effect_48 : decode cX0_effect 48 = .ok (.ifCond .eq 10, 3) := by decide +kernel
theorem dX0_effect_51 : decode cX0_effect 51 = .ok (.iload 5, 2) := by decide +kernel
theorem dX0_effect_53 : decode cX0_effect 53 = .ok (.iconst 2, 1) := by decide +kernel
theorem dX0_effect_54 : decode cX0_effect 54 = .ok (.idiv, 1) := by decide +kernel
theorem dX0_effect_55 : decode cX0_effect 55 = .ok (.goto 5, 3) := by decide +kernel
theorem dX0_effect_58 : decode cX0_effect 58 = .ok (.iload 5, 2) := by decide +kernel
theorem dX0_effect_60 : decode cX0_effect 60 = .ok (.ireturn, 1) := by decide +kernel
theorem dX0_effectNow_0 : decode cX0_effectNow 0 = .ok (.aload_n 0, 1) := by decide +kernel
theorem dX0_effectNow_1 : decode cX0_effectNow 1 = .ok (.iload_n 1, 1) := by decide +kernel
theorem dX0_effectNow_2 : decode cX0_effectNow 2 = .ok (.iload_n 2, 1) := by decide +kernel
theorem dX0_effectNow_3 : decode cX0_effectNow 3 = .ok (.iload_n 3, 1) := by decide +kernel
theorem dX0_effectNow_4 : decode cX0_effectNow 4 = .ok (.aload_n 0, 1) := by decide +kernel
theorem dX0_effectNow_5 : decode cX0_effectNow 5 = .ok (.getfield 15, 3) := by decide +kernel
theorem dX0_effectNow_8 : decode cX0_effectNow 8 = .ok (.iload_n 2, 1) := by decide +kernel
theorem dX0_effectNow_9 : decode cX0_effectNow 9 = .ok (.invokevirtual 72, 3) := by decide +kernel
theorem dX0_effectNow_12 : decode cX0_effectNow 12 = .ok (.invokevirtual 76, 3) := by decide +kernel
theorem dX0_effectNow_15 : decode cX0_effectNow 15 = .ok (.ireturn, 1) := by decide +kernel
theorem dX0_ownDay_0 : decode cX0_ownDay 0 = .ok (.aload_n 0, 1) := by decide +kernel
theorem dX0_ownDay_1 : decode cX0_ownDay 1 = .ok (.getfield 9, 3) := by decide +kernel
theorem dX0_ownDay_4 : decode cX0_ownDay 4 = .ok (.iload_n 1, 1) := by decide +kernel
theorem dX0_ownDay_5 : decode cX0_ownDay 5 = .ok (.iconst 1, 1) := by decide +kernel
theorem dX0_ownDay_6 : decode cX0_ownDay 6 = .ok (.invokevirtual 80, 3) := by decide +kernel
theorem dX0_ownDay_9 : decode cX0_ownDay 9 = .ok (.istore 4, 2) := by decide +kernel
theorem dX0_ownDay_11 : decode cX0_ownDay 11 = .ok (.aload_n 0, 1) := by decide +kernel
theorem dX0_ownDay_12 : decode cX0_ownDay 12 = .ok (.getfield 9, 3) := by decide +kernel
theorem dX0_ownDay_15 : decode cX0_ownDay 15 = .ok (.iload_n 1, 1) := by decide +kernel
theorem dX0_ownDay_16 : decode cX0_ownDay 16 = .ok (.iload_n 2, 1) := by decide +kernel
theorem dX0_ownDay_17 : decode cX0_ownDay 17 = .ok (.invokevirtual 45, 3) := by decide +kernel
theorem dX0_ownDay_20 : decode cX0_ownDay 20 = .ok (.istore 5, 2) := by decide +kernel
theorem dX0_ownDay_22 : decode cX0_ownDay 22 = .ok (.iconst 2, 1) := by decide +kernel
theorem dX0_ownDay_23 : decode cX0_ownDay 23 = .ok (.iload 4, 2) := by decide +kernel
theorem dX0_ownDay_25 : decode cX0_ownDay 25 = .ok (.imul, 1) := by decide +kernel
theorem dX0_ownDay_26 : decode cX0_ownDay 26 = .ok (.iload 5, 2) := by decide +kernel
theorem dX0_ownDay_28 : decode cX0_ownDay 28 = .ok (.isub, 1) := by decide +kernel
theorem dX0_ownDay_29 : decode cX0_ownDay 29 = .ok (.istore 6, 2) := by decide +kernel
theorem dX0_ownDay_31 : decode cX0_ownDay 31 = .ok (.aload_n 0, 1) := by decide +kernel
theorem dX0_ownDay_32 : decode cX0_ownDay 32 = .ok (.getfield 34, 3) := by decide +kernel
theorem dX0_ownDay_35 : decode cX0_ownDay 35 = .ok (.ifCond .lt 96, 3) := by decide +kernel
theorem dX0_ownDay_38 : decode cX0_ownDay 38 = .ok (.aload_n 0, 1) := by decide +kernel
theorem dX0_ownDay_39 : decode cX0_ownDay 39 = .ok (.getfield 34, 3) := by decide +kernel
theorem dX0_ownDay_42 : decode cX0_ownDay 42 = .ok (.iconst 4, 1) := by decide +kernel
theorem dX0_ownDay_43 : decode cX0_ownDay 43 = .ok (.if_icmp .ge 88, 3) := by decide +kernel
theorem dX0_ownDay_46 : decode cX0_ownDay 46 = .ok (.aload_n 0, 1) := by decide +kernel
theorem dX0_ownDay_47 : decode cX0_ownDay 47 = .ok (.getfield 26, 3) := by decide +kernel
theorem dX0_ownDay_50 : decode cX0_ownDay 50 = .ok (.iconst 0, 1) := by decide +kernel
theorem dX0_ownDay_51 : decode cX0_ownDay 51 = .ok (.iload 4, 2) := by decide +kernel
theorem dX0_ownDay_53 : decode cX0_ownDay 53 = .ok (.iastore, 1) := by decide +kernel
theorem dX0_ownDay_54 : decode cX0_ownDay 54 = .ok (.aload_n 0, 1) := by decide +kernel
theorem dX0_ownDay_55 : decode cX0_ownDay 55 = .ok (.getfield 26, 3) := by decide +kernel
theorem dX0_ownDay_58 : decode cX0_ownDay 58 = .ok (.iconst 1, 1) := by decide +kernel
theorem dX0_ownDay_59 : decode cX0_ownDay 59 = .ok (.aload_n 0, 1) := by decide +kernel
theorem dX0_ownDay_60 : decode cX0_ownDay 60 = .ok (.getfield 9, 3) := by decide +kernel
theorem dX0_ownDay_63 : decode cX0_ownDay 63 = .ok (.iload_n 1, 1) := by decide +kernel
theorem dX0_ownDay_64 : decode cX0_ownDay 64 = .ok (.iconst 2, 1) := by decide +kernel
theorem dX0_ownDay_65 : decode cX0_ownDay 65 = .ok (.invokevirtual 80, 3) := by decide +kernel
theorem dX0_ownDay_68 : decode cX0_ownDay 68 = .ok (.iastore, 1) := by decide +kernel
theorem dX0_ownDay_69 : decode cX0_ownDay 69 = .ok (.aload_n 0, 1) := by decide +kernel
theorem dX0_ownDay_70 : decode cX0_ownDay 70 = .ok (.getfield 26, 3) := by decide +kernel
theorem dX0_ownDay_73 : decode cX0_ownDay 73 = .ok (.iconst 2, 1) := by decide +kernel
theorem dX0_ownDay_74 : decode cX0_ownDay 74 = .ok (.iload 5, 2) := by decide +kernel
theorem dX0_ownDay_76 : decode cX0_ownDay 76 = .ok (.iastore, 1) := by decide +kernel
theorem dX0_ownDay_77 : decode cX0_ownDay 77 = .ok (.aload_n 0, 1) := by decide +kernel
theorem dX0_ownDay_78 : decode cX0_ownDay 78 = .ok (.getfield 26, 3) := by decide +kernel
theorem dX0_ownDay_81 : decode cX0_ownDay 81 = .ok (.iconst 3, 1) := by decide +kernel
theorem dX0_ownDay_82 : decode cX0_ownDay 82 = .ok (.iload_n 3, 1) := by decide +kernel
theorem dX0_ownDay_83 : decode cX0_ownDay 83 = .ok (.iastore, 1) := by decide +kernel
theorem dX0_ownDay_84 : decode cX0_ownDay 84 = .ok (.aload_n 0, 1) := by decide +kernel
theorem dX0_ownDay_85 : decode cX0_ownDay 85 = .ok (.getfield 26, 3) := by decide +kernel
theorem dX0_ownDay_88 : decode cX0_ownDay 88 = .ok (.iconst 4, 1) := by decide +kernel
theorem dX0_ownDay_89 : decode cX0_ownDay 89 = .ok (.aload_n 0, 1) := by decide +kernel
theorem dX0_ownDay_90 : decode cX0_ownDay 90 = .ok (.getfield 15, 3) := by decide +kernel
theorem dX0_ownDay_93 : decode cX0_ownDay 93 = .ok (.iload_n 2, 1) := by decide +kernel
theorem dX0_ownDay_94 : decode cX0_ownDay 94 = .ok (.invokevirtual 83, 3) := by decide +kernel
theorem dX0_ownDay_97 : decode cX0_ownDay 97 = .ok (.iastore, 1) := by decide +kernel
theorem dX0_ownDay_98 : decode cX0_ownDay 98 = .ok (.aload_n 0, 1) := by decide +kernel
theorem dX0_ownDay_99 : decode cX0_ownDay 99 = .ok (.getfield 26, 3) := by decide +kernel
theorem dX0_ownDay_102 : decode cX0_ownDay 102 = .ok (.iconst 5, 1) := by decide +kernel
theorem dX0_ownDay_103 : decode cX0_ownDay 103 = .ok (.aload_n 0, 1) := by decide +kernel
theorem dX0_ownDay_104 : decode cX0_ownDay 104 = .ok (.getfield 15, 3) := by decide +kernel
theorem dX0_ownDay_107 : decode cX0_ownDay 107 = .ok (.invokevirtual 86, 3) := by decide +kernel
theorem dX0_ownDay_110 : decode cX0_ownDay 110 = .ok (.iconst 4, 1) := by decide +kernel
theorem dX0_ownDay_111 : decode cX0_ownDay 111 = .ok (.irem, 1) := by decide +kernel
theorem dX0_ownDay_112 : decode cX0_ownDay 112 = .ok (.iastore, 1) := by decide +kernel
theorem dX0_ownDay_113 : decode cX0_ownDay 113 = .ok (.aload_n 0, 1) := by decide +kernel
theorem dX0_ownDay_114 : decode cX0_ownDay 114 = .ok (.getfield 21, 3) := by decide +kernel
theorem dX0_ownDay_117 : decode cX0_ownDay 117 = .ok (.aload_n 0, 1) := by decide +kernel
theorem dX0_ownDay_118 : decode cX0_ownDay 118 = .ok (.getfield 34, 3) := by decide +kernel
theorem dX0_ownDay_121 : decode cX0_ownDay 121 = .ok (.aaload, 1) := by decide +kernel
theorem dX0_ownDay_122 : decode cX0_ownDay 122 = .ok (.aload_n 0, 1) := by decide +kernel
theorem dX0_ownDay_123 : decode cX0_ownDay 123 = .ok (.getfield 26, 3) := by decide +kernel
theorem dX0_ownDay_126 : decode cX0_ownDay 126 = .ok (.invokevirtual 90, 3) := by decide +kernel
theorem dX0_ownDay_129 : decode cX0_ownDay 129 = .ok (.istore 6, 2) := by decide +kernel
theorem dX0_ownDay_131 : decode cX0_ownDay 131 = .ok (.iload 6, 2) := by decide +kernel
theorem dX0_ownDay_133 : decode cX0_ownDay 133 = .ok (.ifCond .ge 5, 3) := by decide +kernel
theorem dX0_ownDay_136 : decode cX0_ownDay 136 = .ok (.iconst 0, 1) := by decide +kernel
theorem dX0_ownDay_137 : decode cX0_ownDay 137 = .ok (.ireturn, 1) := by decide +kernel
theorem dX0_ownDay_138 : decode cX0_ownDay 138 = .ok (.iload 6, 2) := by decide +kernel
theorem dX0_ownDay_140 : decode cX0_ownDay 140 = .ok (.bipush 99, 2) := by decide +kernel
theorem dX0_ownDay_142 : decode cX0_ownDay 142 = .ok (.if_icmp .le 8, 3) := by decide +kernel
theorem dX0_ownDay_145 : decode cX0_ownDay 145 = .ok (.bipush 99, 2) := by decide +kernel
theorem dX0_ownDay_147 : decode cX0_ownDay 147 = .ok (.goto 5, 3) := by decide +kernel
theorem dX0_ownDay_150 : decode cX0_ownDay 150 = .ok (.iload 6, 2) := by decide +kernel
theorem dX0_ownDay_152 : decode cX0_ownDay 152 = .ok (.ireturn, 1) := by decide +kernel
theorem dX0_workDay_0 : decode cX0_workDay 0 = .ok (.aload_n 0, 1) := by decide +kernel
theorem dX0_workDay_1 : decode cX0_workDay 1 = .ok (.getfield 15, 3) := by decide +kernel
theorem dX0_workDay_4 : decode cX0_workDay 4 = .ok (.iload_n 2, 1) := by decide +kernel
theorem dX0_workDay_5 : decode cX0_workDay 5 = .ok (.invokevirtual 72, 3) := by decide +kernel
theorem dX0_workDay_8 : decode cX0_workDay 8 = .ok (.aload_n 0, 1) := by decide +kernel
theorem dX0_workDay_9 : decode cX0_workDay 9 = .ok (.iload_n 1, 1) := by decide +kernel
theorem dX0_workDay_10 : decode cX0_workDay 10 = .ok (.iload_n 2, 1) := by decide +kernel
theorem dX0_workDay_11 : decode cX0_workDay 11 = .ok (.iload_n 3, 1) := by decide +kernel
theorem dX0_workDay_12 : decode cX0_workDay 12 = .ok (.aload_n 0, 1) := by decide +kernel
theorem dX0_workDay_13 : decode cX0_workDay 13 = .ok (.getfield 15, 3) := by decide +kernel
theorem dX0_workDay_16 : decode cX0_workDay 16 = .ok (.iload_n 2, 1) := by decide +kernel
theorem dX0_workDay_17 : decode cX0_workDay 17 = .ok (.invokevirtual 72, 3) := by decide +kernel
theorem dX0_workDay_20 : decode cX0_workDay 20 = .ok (.invokevirtual 76, 3) := by decide +kernel
theorem dX0_workDay_23 : decode cX0_workDay 23 = .ok (.isub, 1) := by decide +kernel
theorem dX0_workDay_24 : decode cX0_workDay 24 = .ok (.istore 4, 2) := by decide +kernel
theorem dX0_workDay_26 : decode cX0_workDay 26 = .ok (.aload_n 0, 1) := by decide +kernel
theorem dX0_workDay_27 : decode cX0_workDay 27 = .ok (.getfield 15, 3) := by decide +kernel
theorem dX0_workDay_30 : decode cX0_workDay 30 = .ok (.iload_n 2, 1) := by decide +kernel
theorem dX0_workDay_31 : decode cX0_workDay 31 = .ok (.iload 4, 2) := by decide +kernel
theorem dX0_workDay_33 : decode cX0_workDay 33 = .ok (.ifCond .ge 7, 3) := by decide +kernel
theorem dX0_workDay_36 : decode cX0_workDay 36 = .ok (.iconst 0, 1) := by decide +kernel
theorem dX0_workDay_37 : decode cX0_workDay 37 = .ok (.goto 5, 3) := by decide +kernel
theorem dX0_workDay_40 : decode cX0_workDay 40 = .ok (.iload 4, 2) := by decide +kernel
theorem dX0_workDay_42 : decode cX0_workDay 42 = .ok (.invokevirtual 94, 3) := by decide +kernel
theorem dX0_workDay_45 : decode cX0_workDay 45 = .ok (.aload_n 0, 1) := by decide +kernel
theorem dX0_workDay_46 : decode cX0_workDay 46 = .ok (.getfield 15, 3) := by decide +kernel
theorem dX0_workDay_49 : decode cX0_workDay 49 = .ok (.iload_n 1, 1) := by decide +kernel
theorem dX0_workDay_50 : decode cX0_workDay 50 = .ok (.aload_n 0, 1) := by decide +kernel
theorem dX0_workDay_51 : decode cX0_workDay 51 = .ok (.getfield 15, 3) := by decide +kernel
theorem dX0_workDay_54 : decode cX0_workDay 54 = .ok (.iload_n 1, 1) := by decide +kernel
theorem dX0_workDay_55 : decode cX0_workDay 55 = .ok (.invokevirtual 98, 3) := by decide +kernel
theorem dX0_workDay_58 : decode cX0_workDay 58 = .ok (.iconst 1, 1) := by decide +kernel
theorem dX0_workDay_59 : decode cX0_workDay 59 = .ok (.isub, 1) := by decide +kernel
theorem dX0_workDay_60 : decode cX0_workDay 60 = .ok (.invokevirtual 101, 3) := by decide +kernel
theorem dX0_workDay_63 : decode cX0_workDay 63 = .ok (.aload_n 0, 1) := by decide +kernel
theorem dX0_workDay_64 : decode cX0_workDay 64 = .ok (.getfield 15, 3) := by decide +kernel
theorem dX0_workDay_67 : decode cX0_workDay 67 = .ok (.invokevirtual 104, 3) := by decide +kernel
theorem dX0_workDay_70 : decode cX0_workDay 70 = .ok (.iload_n 3, 1) := by decide +kernel
theorem dX0_workDay_71 : decode cX0_workDay 71 = .ok (.iconst 2, 1) := by decide +kernel
theorem dX0_workDay_72 : decode cX0_workDay 72 = .ok (.if_icmp .ne 18, 3) := by decide +kernel
theorem dX0_workDay_75 : decode cX0_workDay 75 = .ok (.aload_n 0, 1) := by decide +kernel
theorem dX0_workDay_76 : decode cX0_workDay 76 = .ok (.getfield 15, 3) := by decide +kernel
theorem dX0_workDay_79 : decode cX0_workDay 79 = .ok (.aload_n 0, 1) := by decide +kernel
theorem dX0_workDay_80 : decode cX0_workDay 80 = .ok (.getfield 9, 3) := by decide +kernel
theorem dX0_workDay_83 : decode cX0_workDay 83 = .ok (.iconst 2, 1) := by decide +kernel
theorem dX0_workDay_84 : decode cX0_workDay 84 = .ok (.invokevirtual 107, 3) := by decide +kernel
theorem dX0_workDay_87 : decode cX0_workDay 87 = .ok (.invokevirtual 110, 3) := by decide +kernel
theorem dX0_workDay_90 : decode cX0_workDay 90 = .ok (.return_, 1) := by decide +kernel
theorem dX0_drain_0 : decode cX0_drain 0 = .ok (.aload_n 0, 1) := by decide +kernel
theorem dX0_drain_1 : decode cX0_drain 1 = .ok (.getfield 9, 3) := by decide +kernel
theorem dX0_drain_4 : decode cX0_drain 4 = .ok (.iload_n 1, 1) := by decide +kernel
theorem dX0_drain_5 : decode cX0_drain 5 = .ok (.iconst 1, 1) := by decide +kernel
theorem dX0_drain_6 : decode cX0_drain 6 = .ok (.invokevirtual 114, 3) := by decide +kernel
theorem dX0_drain_9 : decode cX0_drain 9 = .ok (.istore_n 2, 1) := by decide +kernel
theorem dX0_drain_10 : decode cX0_drain 10 = .ok (.aload_n 0, 1) := by decide +kernel
theorem dX0_drain_11 : decode cX0_drain 11 = .ok (.getfield 15, 3) := by decide +kernel
theorem dX0_drain_14 : decode cX0_drain 14 = .ok (.bipush (-2), 2) := by decide +kernel
theorem dX0_drain_16 : decode cX0_drain 16 = .ok (.invokevirtual 110, 3) := by decide +kernel
theorem dX0_drain_19 : decode cX0_drain 19 = .ok (.aload_n 0, 1) := by decide +kernel
theorem dX0_drain_20 : decode cX0_drain 20 = .ok (.getfield 15, 3) := by decide +kernel
theorem dX0_drain_23 : decode cX0_drain 23 = .ok (.iload_n 1, 1) := by decide +kernel
theorem dX0_drain_24 : decode cX0_drain 24 = .ok (.aload_n 0, 1) := by decide +kernel
theorem dX0_drain_25 : decode cX0_drain 25 = .ok (.getfield 15, 3) := by decide +kernel
theorem dX0_drain_28 : decode cX0_drain 28 = .ok (.iload_n 1, 1) := by decide +kernel
theorem dX0_drain_29 : decode cX0_drain 29 = .ok (.invokevirtual 83, 3) := by decide +kernel
theorem dX0_drain_32 : decode cX0_drain 32 = .ok (.iconst 1, 1) := by decide +kernel
theorem dX0_drain_33 : decode cX0_drain 33 = .ok (.isub, 1) := by decide +kernel
theorem dX0_drain_34 : decode cX0_drain 34 = .ok (.invokevirtual 117, 3) := by decide +kernel
theorem dX0_drain_37 : decode cX0_drain 37 = .ok (.iconst 0, 1) := by decide +kernel
theorem dX0_drain_38 : decode cX0_drain 38 = .ok (.istore_n 3, 1) := by decide +kernel
theorem dX0_drain_39 : decode cX0_drain 39 = .ok (.iload_n 3, 1) := by decide +kernel
theorem dX0_drain_40 : decode cX0_drain 40 = .ok (.aload_n 0, 1) := by decide +kernel
theorem dX0_drain_41 : decode cX0_drain 41 = .ok (.getfield 9, 3) := by decide +kernel
theorem dX0_drain_44 : decode cX0_drain 44 = .ok (.invokevirtual 120, 3) := by decide +kernel
theorem dX0_drain_47 : decode cX0_drain 47 = .ok (.if_icmp .ge 57, 3) := by decide +kernel
theorem dX0_drain_50 : decode cX0_drain 50 = .ok (.iload_n 3, 1) := by decide +kernel
theorem dX0_drain_51 : decode cX0_drain 51 = .ok (.iload_n 1, 1) := by decide +kernel
theorem dX0_drain_52 : decode cX0_drain 52 = .ok (.if_icmp .eq 46, 3) := by decide +kernel
theorem dX0_drain_55 : decode cX0_drain 55 = .ok (.aload_n 0, 1) := by decide +kernel
theorem dX0_drain_56 : decode cX0_drain 56 = .ok (.getfield 9, 3) := by decide +kernel
theorem dX0_drain_59 : decode cX0_drain 59 = .ok (.iload_n 3, 1) := by decide +kernel
theorem dX0_drain_60 : decode cX0_drain 60 = .ok (.iload_n 2, 1) := by decide +kernel
theorem dX0_drain_61 : decode cX0_drain 61 = .ok (.invokevirtual 123, 3) := by decide +kernel
theorem dX0_drain_64 : decode cX0_drain 64 = .ok (.ifCond .eq 34, 3) := by decide +kernel
theorem dX0_drain_67 : decode cX0_drain 67 = .ok (.aload_n 0, 1) := by decide +kernel
theorem dX0_drain_68 : decode cX0_drain 68 = .ok (.getfield 15, 3) := by decide +kernel
theorem dX0_drain_71 : decode cX0_drain 71 = .ok (.iload_n 3, 1) := by decide +kernel
theorem dX0_drain_72 : decode cX0_drain 72 = .ok (.invokevirtual 83, 3) := by decide +kernel
theorem dX0_drain_75 : decode cX0_drain 75 = .ok (.bipush 9, 2) := by decide +kernel
theorem dX0_drain_77 : decode cX0_drain 77 = .ok (.if_icmp .ge 21, 3) := by decide +kernel
theorem dX0_drain_80 : decode cX0_drain 80 = .ok (.aload_n 0, 1) := by decide +kernel
theorem dX0_drain_81 : decode cX0_drain 81 = .ok (.getfield 15, 3) := by decide +kernel
theorem dX0_drain_84 : decode cX0_drain 84 = .ok (.iload_n 3, 1) := by decide +kernel
theorem dX0_drain_85 : decode cX0_drain 85 = .ok (.aload_n 0, 1) := by decide +kernel
theorem dX0_drain_86 : decode cX0_drain 86 = .ok (.getfield 15, 3) := by decide +kernel
theorem dX0_drain_89 : decode cX0_drain 89 = .ok (.iload_n 3, 1) := by decide +kernel
theorem dX0_drain_90 : decode cX0_drain 90 = .ok (.invokevirtual 83, 3) := by decide +kernel
theorem dX0_drain_93 : decode cX0_drain 93 = .ok (.iconst 1, 1) := by decide +kernel
theorem dX0_drain_94 : decode cX0_drain 94 = .ok (.iadd, 1) := by decide +kernel
theorem dX0_drain_95 : decode cX0_drain 95 = .ok (.invokevirtual 117, 3) := by decide +kernel
theorem dX0_drain_98 : decode cX0_drain 98 = .ok (.iinc 3 1, 3) := by decide +kernel
theorem dX0_drain_101 : decode cX0_drain 101 = .ok (.goto (-62), 3) := by decide +kernel
theorem dX0_drain_104 : decode cX0_drain 104 = .ok (.return_, 1) := by decide +kernel
theorem dX0_passSeason_0 : decode cX0_passSeason 0 = .ok (.aload_n 0, 1) := by decide +kernel
theorem dX0_passSeason_1 : decode cX0_passSeason 1 = .ok (.getfield 15, 3) := by decide +kernel
theorem dX0_passSeason_4 : decode cX0_passSeason 4 = .ok (.invokevirtual 66, 3) := by decide +kernel
theorem dX0_passSeason_7 : decode cX0_passSeason 7 = .ok (.istore_n 1, 1) := by decide +kernel
theorem dX0_passSeason_8 : decode cX0_passSeason 8 = .ok (.iconst 0, 1) := by decide +kernel
theorem dX0_passSeason_9 : decode cX0_passSeason 9 = .ok (.istore_n 2, 1) := by decide +kernel
theorem dX0_passSeason_10 : decode cX0_passSeason 10 = .ok (.iload_n 2, 1) := by decide +kernel
theorem dX0_passSeason_11 : decode cX0_passSeason 11 = .ok (.aload_n 0, 1) := by decide +kernel
theorem dX0_passSeason_12 : decode cX0_passSeason 12 = .ok (.getfield 9, 3) := by decide +kernel
theorem dX0_passSeason_15 : decode cX0_passSeason 15 = .ok (.invokevirtual 120, 3) := by decide +kernel
theorem dX0_passSeason_18 : decode cX0_passSeason 18 = .ok (.if_icmp .ge 31, 3) := by decide +kernel
theorem dX0_passSeason_21 : decode cX0_passSeason 21 = .ok (.aload_n 0, 1) := by decide +kernel
theorem dX0_passSeason_22 : decode cX0_passSeason 22 = .ok (.getfield 15, 3) := by decide +kernel
theorem dX0_passSeason_25 : decode cX0_passSeason 25 = .ok (.iload_n 2, 1) := by decide +kernel
theorem dX0_passSeason_26 : decode cX0_passSeason 26 = .ok (.aload_n 0, 1) := by decide +kernel
theorem dX0_passSeason_27 : decode cX0_passSeason 27 = .ok (.iload_n 2, 1) := by decide +kernel
theorem dX0_passSeason_28 : decode cX0_passSeason 28 = .ok (.aload_n 0, 1) := by decide +kernel
theorem dX0_passSeason_29 : decode cX0_passSeason 29 = .ok (.getfield 15, 3) := by decide +kernel
theorem dX0_passSeason_32 : decode cX0_passSeason 32 = .ok (.iload_n 2, 1) := by decide +kernel
theorem dX0_passSeason_33 : decode cX0_passSeason 33 = .ok (.invokevirtual 72, 3) := by decide +kernel
theorem dX0_passSeason_36 : decode cX0_passSeason 36 = .ok (.iload_n 1, 1) := by decide +kernel
theorem dX0_passSeason_37 : decode cX0_passSeason 37 = .ok (.invokevirtual 126, 3) := by decide +kernel
theorem dX0_passSeason_40 : decode cX0_passSeason 40 = .ok (.invokevirtual 94, 3) := by decide +kernel
theorem dX0_passSeason_43 : decode cX0_passSeason 43 = .ok (.iinc 2 1, 3) := by decide +kernel
theorem dX0_passSeason_46 : decode cX0_passSeason 46 = .ok (.goto (-36), 3) := by decide +kernel
theorem dX0_passSeason_49 : decode cX0_passSeason 49 = .ok (.aload_n 0, 1) := by decide +kernel
theorem dX0_passSeason_50 : decode cX0_passSeason 50 = .ok (.getfield 15, 3) := by decide +kernel
theorem dX0_passSeason_53 : decode cX0_passSeason 53 = .ok (.invokevirtual 130, 3) := by decide +kernel
theorem dX0_passSeason_56 : decode cX0_passSeason 56 = .ok (.aload_n 0, 1) := by decide +kernel
theorem dX0_passSeason_57 : decode cX0_passSeason 57 = .ok (.getfield 15, 3) := by decide +kernel
theorem dX0_passSeason_60 : decode cX0_passSeason 60 = .ok (.invokevirtual 86, 3) := by decide +kernel
theorem dX0_passSeason_63 : decode cX0_passSeason 63 = .ok (.iconst 4, 1) := by decide +kernel
theorem dX0_passSeason_64 : decode cX0_passSeason 64 = .ok (.irem, 1) := by decide +kernel
theorem dX0_passSeason_65 : decode cX0_passSeason 65 = .ok (.ifCond .ne 7, 3) := by decide +kernel
theorem dX0_passSeason_68 : decode cX0_passSeason 68 = .ok (.aload_n 0, 1) := by decide +kernel
theorem dX0_passSeason_69 : decode cX0_passSeason 69 = .ok (.invokevirtual 133, 3) := by decide +kernel
theorem dX0_passSeason_72 : decode cX0_passSeason 72 = .ok (.aload_n 0, 1) := by decide +kernel
theorem dX0_passSeason_73 : decode cX0_passSeason 73 = .ok (.getfield 15, 3) := by decide +kernel
theorem dX0_passSeason_76 : decode cX0_passSeason 76 = .ok (.invokevirtual 136, 3) := by decide +kernel
theorem dX0_passSeason_79 : decode cX0_passSeason 79 = .ok (.return_, 1) := by decide +kernel
theorem dX0_wornOn_0 : decode cX0_wornOn 0 = .ok (.iload_n 2, 1) := by decide +kernel
theorem dX0_wornOn_1 : decode cX0_wornOn 1 = .ok (.aload_n 0, 1) := by decide +kernel
theorem dX0_wornOn_2 : decode cX0_wornOn 2 = .ok (.getfield 9, 3) := by decide +kernel
theorem dX0_wornOn_5 : decode cX0_wornOn 5 = .ok (.iload_n 1, 1) := by decide +kernel
theorem dX0_wornOn_6 : decode cX0_wornOn 6 = .ok (.iconst 4, 1) := by decide +kernel
theorem dX0_wornOn_7 : decode cX0_wornOn 7 = .ok (.invokevirtual 114, 3) := by decide +kernel
theorem dX0_wornOn_10 : decode cX0_wornOn 10 = .ok (.iadd, 1) := by decide +kernel
theorem dX0_wornOn_11 : decode cX0_wornOn 11 = .ok (.istore 4, 2) := by decide +kernel
theorem dX0_wornOn_13 : decode cX0_wornOn 13 = .ok (.iload_n 3, 1) := by decide +kernel
theorem dX0_wornOn_14 : decode cX0_wornOn 14 = .ok (.ifCond .eq 25, 3) := by decide +kernel
theorem dX0_wornOn_17 : decode cX0_wornOn 17 = .ok (.iload 4, 2) := by decide +kernel
theorem dX0_wornOn_19 : decode cX0_wornOn 19 = .ok (.aload_n 0, 1) := by decide +kernel
theorem dX0_wornOn_20 : decode cX0_wornOn 20 = .ok (.getfield 9, 3) := by decide +kernel
theorem dX0_wornOn_23 : decode cX0_wornOn 23 = .ok (.iconst 1, 1) := by decide +kernel
theorem dX0_wornOn_24 : decode cX0_wornOn 24 = .ok (.invokevirtual 107, 3) := by decide +kernel
theorem dX0_wornOn_27 : decode cX0_wornOn 27 = .ok (.aload_n 0, 1) := by decide +kernel
theorem dX0_wornOn_28 : decode cX0_wornOn 28 = .ok (.getfield 15, 3) := by decide +kernel
theorem dX0_wornOn_31 : decode cX0_wornOn 31 = .ok (.iload_n 1, 1) := by decide +kernel
theorem dX0_wornOn_32 : decode cX0_wornOn 32 = .ok (.invokevirtual 83, 3) := by decide +kernel
theorem dX0_wornOn_35 : decode cX0_wornOn 35 = .ok (.iadd, 1) := by decide +kernel
theorem dX0_wornOn_36 : decode cX0_wornOn 36 = .ok (.iadd, 1) := by decide +kernel
theorem dX0_wornOn_37 : decode cX0_wornOn 37 = .ok (.istore 4, 2) := by decide +kernel
theorem dX0_wornOn_39 : decode cX0_wornOn 39 = .ok (.iload 4, 2) := by decide +kernel
theorem dX0_wornOn_41 : decode cX0_wornOn 41 = .ok (.bipush 99, 2) := by decide +kernel
theorem dX0_wornOn_43 : decode cX0_wornOn 43 = .ok (.if_icmp .le 8, 3) := by decide +kernel
theorem dX0_wornOn_46 : decode cX0_wornOn 46 = .ok (.bipush 99, 2) := by decide +kernel
theorem dX0_wornOn_48 : decode cX0_wornOn 48 = .ok (.goto 5, 3) := by decide +kernel
theorem dX0_wornOn_51 : decode cX0_wornOn 51 = .ok (.iload 4, 2) := by decide +kernel
theorem dX0_wornOn_53 : decode cX0_wornOn 53 = .ok (.ireturn, 1) := by decide +kernel
theorem dX0_beginYear_0 : decode cX0_beginYear 0 = .ok (.iconst 0, 1) := by decide +kernel
theorem dX0_beginYear_1 : decode cX0_beginYear 1 = .ok (.istore_n 1, 1) := by decide +kernel
theorem dX0_beginYear_2 : decode cX0_beginYear 2 = .ok (.iload_n 1, 1) := by decide +kernel
theorem dX0_beginYear_3 : decode cX0_beginYear 3 = .ok (.aload_n 0, 1) := by decide +kernel
theorem dX0_beginYear_4 : decode cX0_beginYear 4 = .ok (.getfield 9, 3) := by decide +kernel
theorem dX0_beginYear_7 : decode cX0_beginYear 7 = .ok (.invokevirtual 139, 3) := by decide +kernel
theorem dX0_beginYear_10 : decode cX0_beginYear 10 = .ok (.if_icmp .ge 65, 3) := by decide +kernel
theorem dX0_beginYear_13 : decode cX0_beginYear 13 = .ok (.aload_n 0, 1) := by decide +kernel
theorem dX0_beginYear_14 : decode cX0_beginYear 14 = .ok (.getfield 15, 3) := by decide +kernel
theorem dX0_beginYear_17 : decode cX0_beginYear 17 = .ok (.iload_n 1, 1) := by decide +kernel
theorem dX0_beginYear_18 : decode cX0_beginYear 18 = .ok (.invokevirtual 142, 3) := by decide +kernel
theorem dX0_beginYear_21 : decode cX0_beginYear 21 = .ok (.aload_n 0, 1) := by decide +kernel
theorem dX0_beginYear_22 : decode cX0_beginYear 22 = .ok (.getfield 15, 3) := by decide +kernel
theorem dX0_beginYear_25 : decode cX0_beginYear 25 = .ok (.iload_n 1, 1) := by decide +kernel
theorem dX0_beginYear_26 : decode cX0_beginYear 26 = .ok (.invokevirtual 98, 3) := by decide +kernel
theorem dX0_beginYear_29 : decode cX0_beginYear 29 = .ok (.iadd, 1) := by decide +kernel
theorem dX0_beginYear_30 : decode cX0_beginYear 30 = .ok (.istore_n 2, 1) := by decide +kernel
theorem dX0_beginYear_31 : decode cX0_beginYear 31 = .ok (.aload_n 0, 1) := by decide +kernel
theorem dX0_beginYear_32 : decode cX0_beginYear 32 = .ok (.getfield 15, 3) := by decide +kernel
theorem dX0_beginYear_35 : decode cX0_beginYear 35 = .ok (.iload_n 1, 1) := by decide +kernel
theorem dX0_beginYear_36 : decode cX0_beginYear 36 = .ok (.iload_n 2, 1) := by decide +kernel
theorem dX0_beginYear_37 : decode cX0_beginYear 37 = .ok (.sipush 999, 3) := by decide +kernel
theorem dX0_beginYear_40 : decode cX0_beginYear 40 = .ok (.if_icmp .le 9, 3) := by decide +kernel
theorem dX0_beginYear_43 : decode cX0_beginYear 43 = .ok (.sipush 999, 3) := by decide +kernel
theorem dX0_beginYear_46 : decode cX0_beginYear 46 = .ok (.goto 4, 3) := by decide +kernel
theorem dX0_beginYear_49 : decode cX0_beginYear 49 = .ok (.iload_n 2, 1) := by decide +kernel
theorem dX0_beginYear_50 : decode cX0_beginYear 50 = .ok (.invokevirtual 145, 3) := by decide +kernel
theorem dX0_beginYear_53 : decode cX0_beginYear 53 = .ok (.aload_n 0, 1) := by decide +kernel
theorem dX0_beginYear_54 : decode cX0_beginYear 54 = .ok (.getfield 15, 3) := by decide +kernel
theorem dX0_beginYear_57 : decode cX0_beginYear 57 = .ok (.iload_n 1, 1) := by decide +kernel
theorem dX0_beginYear_58 : decode cX0_beginYear 58 = .ok (.aload_n 0, 1) := by decide +kernel
theorem dX0_beginYear_59 : decode cX0_beginYear 59 = .ok (.getfield 9, 3) := by decide +kernel
theorem dX0_beginYear_62 : decode cX0_beginYear 62 = .ok (.iconst 0, 1) := by decide +kernel
theorem dX0_beginYear_63 : decode cX0_beginYear 63 = .ok (.invokevirtual 107, 3) := by decide +kernel
theorem dX0_beginYear_66 : decode cX0_beginYear 66 = .ok (.invokevirtual 101, 3) := by decide +kernel
theorem dX0_beginYear_69 : decode cX0_beginYear 69 = .ok (.iinc 1 1, 3) := by decide +kernel
theorem dX0_beginYear_72 : decode cX0_beginYear 72 = .ok (.goto (-70), 3) := by decide +kernel
theorem dX0_beginYear_75 : decode cX0_beginYear 75 = .ok (.return_, 1) := by decide +kernel
theorem dX0_sow_0 : decode cX0_sow 0 = .ok (.aload_n 0, 1) := by decide +kernel
theorem dX0_sow_1 : decode cX0_sow 1 = .ok (.lload_n 1, 1) := by decide +kernel
theorem dX0_sow_2 : decode cX0_sow 2 = .ok (.putfield 37, 3) := by decide +kernel
theorem dX0_sow_5 : decode cX0_sow 5 = .ok (.return_, 1) := by decide +kernel
theorem dX0_workDrawnDays_0 : decode cX0_workDrawnDays 0 = .ok (.iconst 0, 1) := by decide +kernel
theorem dX0_workDrawnDays_1 : decode cX0_workDrawnDays 1 = .ok (.istore_n 1, 1) := by decide +kernel
theorem dX0_workDrawnDays_2 : decode cX0_workDrawnDays 2 = .ok (.iload_n 1, 1) := by decide +kernel
theorem dX0_workDrawnDays_3 : decode cX0_workDrawnDays 3 = .ok (.aload_n 0, 1) := by decide +kernel
theorem dX0_workDrawnDays_4 : decode cX0_workDrawnDays 4 = .ok (.getfield 9, 3) := by decide +kernel
theorem dX0_workDrawnDays_7 : decode cX0_workDrawnDays 7 = .ok (.invokevirtual 139, 3) := by decide +kernel
theorem dX0_workDrawnDays_10 : decode cX0_workDrawnDays 10 = .ok (.if_icmp .ge 82, 3) := by decide +kernel
theorem dX0_workDrawnDays_13 : decode cX0_workDrawnDays 13 = .ok (.aload_n 0, 1) := by decide +kernel
theorem dX0_workDrawnDays_14 : decode cX0_workDrawnDays 14 = .ok (.getfield 15, 3) := by decide +kernel
theorem dX0_workDrawnDays_17 : decode cX0_workDrawnDays 17 = .ok (.iload_n 1, 1) := by decide +kernel
theorem dX0_workDrawnDays_18 : decode cX0_workDrawnDays 18 = .ok (.invokevirtual 98, 3) := by decide +kernel
theorem dX0_workDrawnDays_21 : decode cX0_workDrawnDays 21 = .ok (.ifCond .le 65, 3) := by decide +kernel
theorem dX0_workDrawnDays_24 : decode cX0_workDrawnDays 24 = .ok (.aload_n 0, 1) := by decide +kernel
theorem dX0_workDrawnDays_25 : decode cX0_workDrawnDays 25 = .ok (.aload_n 0, 1) := by decide +kernel
theorem dX0_workDrawnDays_26 : decode cX0_workDrawnDays 26 = .ok (.getfield 9, 3) := by decide +kernel
theorem dX0_workDrawnDays_29 : decode cX0_workDrawnDays 29 = .ok (.invokevirtual 120, 3) := by decide +kernel
theorem dX0_workDrawnDays_32 : decode cX0_workDrawnDays 32 = .ok (.invokevirtual 148, 3) := by decide +kernel
theorem dX0_workDrawnDays_35 : decode cX0_workDrawnDays 35 = .ok (.istore_n 2, 1) := by decide +kernel
theorem dX0_workDrawnDays_36 : decode cX0_workDrawnDays 36 = .ok (.iconst 0, 1) := by decide +kernel
theorem dX0_workDrawnDays_37 : decode cX0_workDrawnDays 37 = .ok (.istore_n 3, 1) := by decide +kernel
theorem dX0_workDrawnDays_38 : decode cX0_workDrawnDays 38 = .ok (.aload_n 0, 1) := by decide +kernel
theorem dX0_workDrawnDays_39 : decode cX0_workDrawnDays 39 = .ok (.bipush 10, 2) := by decide +kernel
theorem dX0_workDrawnDays_41 : decode cX0_workDrawnDays 41 = .ok (.invokevirtual 148, 3) := by decide +kernel
theorem dX0_workDrawnDays_44 : decode cX0_workDrawnDays 44 = .ok (.aload_n 0, 1) := by decide +kernel
theorem dX0_workDrawnDays_45 : decode cX0_workDrawnDays 45 = .ok (.getfield 9, 3) := by decide +kernel
theorem dX0_workDrawnDays_48 : decode cX0_workDrawnDays 48 = .ok (.iload_n 1, 1) := by decide +kernel
theorem dX0_workDrawnDays_49 : decode cX0_workDrawnDays 49 = .ok (.iconst 2, 1) := by decide +kernel
theorem dX0_workDrawnDays_50 : decode cX0_workDrawnDays 50 = .ok (.invokevirtual 80, 3) := by decide +kernel
theorem dX0_workDrawnDays_53 : decode cX0_workDrawnDays 53 = .ok (.if_icmp .lt 17, 3) := by decide +kernel
theorem dX0_workDrawnDays_56 : decode cX0_workDrawnDays 56 = .ok (.aload_n 0, 1) := by decide +kernel
theorem dX0_workDrawnDays_57 : decode cX0_workDrawnDays 57 = .ok (.iconst 2, 1) := by decide +kernel
theorem dX0_workDrawnDays_58 : decode cX0_workDrawnDays 58 = .ok (.invokevirtual 148, 3) := by decide +kernel
theorem dX0_workDrawnDays_61 : decode cX0_workDrawnDays 61 = .ok (.ifCond .ne 7, 3) := by decide +kernel
theorem dX0_workDrawnDays_64 : decode cX0_workDrawnDays 64 = .ok (.iconst 1, 1) := by decide +kernel
theorem dX0_workDrawnDays_65 : decode cX0_workDrawnDays 65 = .ok (.goto 4, 3) := by decide +kernel
theorem dX0_workDrawnDays_68 : decode cX0_workDrawnDays 68 = .ok (.iconst 3, 1) := by decide +kernel
theorem dX0_workDrawnDays_69 : decode cX0_workDrawnDays 69 = .ok (.istore_n 3, 1) := by decide +kernel
theorem dX0_workDrawnDays_70 : decode cX0_workDrawnDays 70 = .ok (.aload_n 0, 1) := by decide +kernel
theorem dX0_workDrawnDays_71 : decode cX0_workDrawnDays 71 = .ok (.iload_n 1, 1) := by decide +kernel
theorem dX0_workDrawnDays_72 : decode cX0_workDrawnDays 72 = .ok (.iload_n 2, 1) := by decide +kernel
theorem dX0_workDrawnDays_73 : decode cX0_workDrawnDays 73 = .ok (.invokevirtual 51, 3) := by decide +kernel
theorem dX0_workDrawnDays_76 : decode cX0_workDrawnDays 76 = .ok (.ifCond .eq 10, 3) := by decide +kernel
theorem dX0_workDrawnDays_79 : decode cX0_workDrawnDays 79 = .ok (.aload_n 0, 1) := by decide +kernel
theorem dX0_workDrawnDays_80 : decode cX0_workDrawnDays 80 = .ok (.iload_n 1, 1) := by decide +kernel
theorem dX0_workDrawnDays_81 : decode cX0_workDrawnDays 81 = .ok (.iload_n 2, 1) := by decide +kernel
theorem dX0_workDrawnDays_82 : decode cX0_workDrawnDays 82 = .ok (.iload_n 3, 1) := by decide +kernel
theorem dX0_workDrawnDays_83 : decode cX0_workDrawnDays 83 = .ok (.invokevirtual 151, 3) := by decide +kernel
theorem dX0_workDrawnDays_86 : decode cX0_workDrawnDays 86 = .ok (.iinc 1 1, 3) := by decide +kernel
theorem dX0_workDrawnDays_89 : decode cX0_workDrawnDays 89 = .ok (.goto (-87), 3) := by decide +kernel
theorem dX0_workDrawnDays_92 : decode cX0_workDrawnDays 92 = .ok (.return_, 1) := by decide +kernel
theorem dX0_draw_0 : decode cX0_draw 0 = .ok (.aload_n 0, 1) := by decide +kernel
theorem dX0_draw_1 : decode cX0_draw 1 = .ok (.aload_n 0, 1) := by decide +kernel
theorem dX0_draw_2 : decode cX0_draw 2 = .ok (.getfield 37, 3) := by decide +kernel
theorem dX0_draw_5 : decode cX0_draw 5 = .ok (.ldc2_w 155, 3) := by decide +kernel
theorem dX0_draw_8 : decode cX0_draw 8 = .ok (.lmul, 1) := by decide +kernel
theorem dX0_draw_9 : decode cX0_draw 9 = .ok (.ldc2_w 157, 3) := by decide +kernel
theorem dX0_draw_12 : decode cX0_draw 12 = .ok (.ladd, 1) := by decide +kernel
theorem dX0_draw_13 : decode cX0_draw 13 = .ok (.putfield 37, 3) := by decide +kernel
theorem dX0_draw_16 : decode cX0_draw 16 = .ok (.iload_n 1, 1) := by decide +kernel
theorem dX0_draw_17 : decode cX0_draw 17 = .ok (.iconst 1, 1) := by decide +kernel
theorem dX0_draw_18 : decode cX0_draw 18 = .ok (.if_icmp .ge 7, 3) := by decide +kernel
theorem dX0_draw_21 : decode cX0_draw 21 = .ok (.iconst 0, 1) := by decide +kernel
theorem dX0_draw_22 : decode cX0_draw 22 = .ok (.goto 14, 3) := by decide +kernel
theorem dX0_draw_25 : decode cX0_draw 25 = .ok (.aload_n 0, 1) := by decide +kernel
theorem dX0_draw_26 : decode cX0_draw 26 = .ok (.getfield 37, 3) := by decide +kernel
theorem dX0_draw_29 : decode cX0_draw 29 = .ok (.bipush 33, 2) := by decide +kernel
theorem dX0_draw_31 : decode cX0_draw 31 = .ok (.lushr, 1) := by decide +kernel
theorem dX0_draw_32 : decode cX0_draw 32 = .ok (.iload_n 1, 1) := by decide +kernel
theorem dX0_draw_33 : decode cX0_draw 33 = .ok (.i2l, 1) := by decide +kernel
theorem dX0_draw_34 : decode cX0_draw 34 = .ok (.lrem, 1) := by decide +kernel
theorem dX0_draw_35 : decode cX0_draw 35 = .ok (.l2i, 1) := by decide +kernel
theorem dX0_draw_36 : decode cX0_draw 36 = .ok (.ireturn, 1) := by decide +kernel
theorem dX0_mostWorth_0 : decode cX0_mostWorth 0 = .ok (.iconst (-1), 1) := by decide +kernel
theorem dX0_mostWorth_1 : decode cX0_mostWorth 1 = .ok (.istore_n 2, 1) := by decide +kernel
theorem dX0_mostWorth_2 : decode cX0_mostWorth 2 = .ok (.iconst (-1), 1) := by decide +kernel
theorem dX0_mostWorth_3 : decode cX0_mostWorth 3 = .ok (.istore_n 3, 1) := by decide +kernel
theorem dX0_mostWorth_4 : decode cX0_mostWorth 4 = .ok (.iconst 0, 1) := by decide +kernel
theorem dX0_mostWorth_5 : decode cX0_mostWorth 5 = .ok (.istore 4, 2) := by decide +kernel
theorem dX0_mostWorth_7 : decode cX0_mostWorth 7 = .ok (.iload 4, 2) := by decide +kernel
theorem dX0_mostWorth_9 : decode cX0_mostWorth 9 = .ok (.aload_n 0, 1) := by decide +kernel
theorem dX0_mostWorth_10 : decode cX0_mostWorth 10 = .ok (.getfield 9, 3) := by decide +kernel
theorem dX0_mostWorth_13 : decode cX0_mostWorth 13 = .ok (.invokevirtual 120, 3) := by decide +kernel
theorem dX0_mostWorth_16 : decode cX0_mostWorth 16 = .ok (.if_icmp .ge 43, 3) := by decide +kernel
theorem dX0_mostWorth_19 : decode cX0_mostWorth 19 = .ok (.aload_n 0, 1) := by decide +kernel
theorem dX0_mostWorth_20 : decode cX0_mostWorth 20 = .ok (.iload_n 1, 1) := by decide +kernel
theorem dX0_mostWorth_21 : decode cX0_mostWorth 21 = .ok (.iload 4, 2) := by decide +kernel
theorem dX0_mostWorth_23 : decode cX0_mostWorth 23 = .ok (.invokevirtual 51, 3) := by decide +kernel
theorem dX0_mostWorth_26 : decode cX0_mostWorth 26 = .ok (.ifCond .eq 27, 3) := by decide +kernel
theorem dX0_mostWorth_29 : decode cX0_mostWorth 29 = .ok (.aload_n 0, 1) := by decide +kernel
theorem dX0_mostWorth_30 : decode cX0_mostWorth 30 = .ok (.iload_n 1, 1) := by decide +kernel
theorem dX0_mostWorth_31 : decode cX0_mostWorth 31 = .ok (.iload 4, 2) := by decide +kernel
theorem dX0_mostWorth_33 : decode cX0_mostWorth 33 = .ok (.iconst 0, 1) := by decide +kernel
theorem dX0_mostWorth_34 : decode cX0_mostWorth 34 = .ok (.invokevirtual 159, 3) := by decide +kernel
theorem dX0_mostWorth_37 : decode cX0_mostWorth 37 = .ok (.iload_n 2, 1) := by decide +kernel
theorem dX0_mostWorth_38 : decode cX0_mostWorth 38 = .ok (.if_icmp .le 15, 3) := by decide +kernel
theorem dX0_mostWorth_41 : decode cX0_mostWorth 41 = .ok (.aload_n 0, 1) := by decide +kernel
theorem dX0_mostWorth_42 : decode cX0_mostWorth 42 = .ok (.iload_n 1, 1) := by decide +kernel
theorem dX0_mostWorth_43 : decode cX0_mostWorth 43 = .ok (.iload 4, 2) := by decide +kernel
theorem dX0_mostWorth_45 : decode cX0_mostWorth 45 = .ok (.iconst 0, 1) := by decide +kernel
theorem dX0_mostWorth_46 : decode cX0_mostWorth 46 = .ok (.invokevirtual 159, 3) := by decide +kernel
theorem dX0_mostWorth_49 : decode cX0_mostWorth 49 = .ok (.istore_n 2, 1) := by decide +kernel
theorem dX0_mostWorth_50 : decode cX0_mostWorth 50 = .ok (.iload 4, 2) := by decide +kernel
theorem dX0_mostWorth_52 : decode cX0_mostWorth 52 = .ok (.istore_n 3, 1) := by decide +kernel
theorem dX0_mostWorth_53 : decode cX0_mostWorth 53 = .ok (.iinc 4 1, 3) := by decide +kernel
theorem dX0_mostWorth_56 : decode cX0_mostWorth 56 = .ok (.goto (-49), 3) := by decide +kernel
theorem dX0_mostWorth_59 : decode cX0_mostWorth 59 = .ok (.iload_n 3, 1) := by decide +kernel
theorem dX0_mostWorth_60 : decode cX0_mostWorth 60 = .ok (.ireturn, 1) := by decide +kernel
theorem dX0_buyers_0 : decode cX0_buyers 0 = .ok (.iconst 0, 1) := by decide +kernel
theorem dX0_buyers_1 : decode cX0_buyers 1 = .ok (.istore_n 1, 1) := by decide +kernel
theorem dX0_buyers_2 : decode cX0_buyers 2 = .ok (.iconst 0, 1) := by decide +kernel
theorem dX0_buyers_3 : decode cX0_buyers 3 = .ok (.istore_n 2, 1) := by decide +kernel
theorem dX0_buyers_4 : decode cX0_buyers 4 = .ok (.iload_n 2, 1) := by decide +kernel
theorem dX0_buyers_5 : decode cX0_buyers 5 = .ok (.aload_n 0, 1) := by decide +kernel
theorem dX0_buyers_6 : decode cX0_buyers 6 = .ok (.getfield 9, 3) := by decide +kernel
theorem dX0_buyers_9 : decode cX0_buyers 9 = .ok (.invokevirtual 139, 3) := by decide +kernel
theorem dX0_buyers_12 : decode cX0_buyers 12 = .ok (.if_icmp .ge 23, 3) := by decide +kernel
theorem dX0_buyers_15 : decode cX0_buyers 15 = .ok (.aload_n 0, 1) := by decide +kernel
theorem dX0_buyers_16 : decode cX0_buyers 16 = .ok (.iload_n 2, 1) := by decide +kernel
theorem dX0_buyers_17 : decode cX0_buyers 17 = .ok (.invokevirtual 162, 3) := by decide +kernel
theorem dX0_buyers_20 : decode cX0_buyers 20 = .ok (.ifCond .eq 9, 3) := by decide +kernel
theorem dX0_buyers_23 : decode cX0_buyers 23 = .ok (.iload_n 1, 1) := by decide +kernel
theorem dX0_buyers_24 : decode cX0_buyers 24 = .ok (.iconst 1, 1) := by decide +kernel
theorem dX0_buyers_25 : decode cX0_buyers 25 = .ok (.iload_n 2, 1) := by decide +kernel
theorem dX0_buyers_26 : decode cX0_buyers 26 = .ok (.ishl, 1) := by decide +kernel
theorem dX0_buyers_27 : decode cX0_buyers 27 = .ok (.ior, 1) := by decide +kernel
theorem dX0_buyers_28 : decode cX0_buyers 28 = .ok (.istore_n 1, 1) := by decide +kernel
theorem dX0_buyers_29 : decode cX0_buyers 29 = .ok (.iinc 2 1, 3) := by decide +kernel
theorem dX0_buyers_32 : decode cX0_buyers 32 = .ok (.goto (-28), 3) := by decide +kernel
theorem dX0_buyers_35 : decode cX0_buyers 35 = .ok (.iload_n 1, 1) := by decide +kernel
theorem dX0_buyers_36 : decode cX0_buyers 36 = .ok (.ireturn, 1) := by decide +kernel
theorem dX0_shouldBuy_0 : decode cX0_shouldBuy 0 = .ok (.iconst 0, 1) := by decide +kernel
theorem dX0_shouldBuy_1 : decode cX0_shouldBuy 1 = .ok (.istore_n 2, 1) := by decide +kernel
theorem dX0_shouldBuy_2 : decode cX0_shouldBuy 2 = .ok (.iload_n 2, 1) := by decide +kernel
theorem dX0_shouldBuy_3 : decode cX0_shouldBuy 3 = .ok (.aload_n 0, 1) := by decide +kernel
theorem dX0_shouldBuy_4 : decode cX0_shouldBuy 4 = .ok (.getfield 9, 3) := by decide +kernel
theorem dX0_shouldBuy_7 : decode cX0_shouldBuy 7 = .ok (.invokevirtual 120, 3) := by decide +kernel
theorem dX0_shouldBuy_10 : decode cX0_shouldBuy 10 = .ok (.if_icmp .ge 52, 3) := by decide +kernel
theorem dX0_shouldBuy_13 : decode cX0_shouldBuy 13 = .ok (.aload_n 0, 1) := by decide +kernel
theorem dX0_shouldBuy_14 : decode cX0_shouldBuy 14 = .ok (.getfield 15, 3) := by decide +kernel
theorem dX0_shouldBuy_17 : decode cX0_shouldBuy 17 = .ok (.iload_n 2, 1) := by decide +kernel
theorem dX0_shouldBuy_18 : decode cX0_shouldBuy 18 = .ok (.invokevirtual 72, 3) := by decide +kernel
theorem dX0_shouldBuy_21 : decode cX0_shouldBuy 21 = .ok (.istore_n 3, 1) := by decide +kernel
theorem dX0_shouldBuy_22 : decode cX0_shouldBuy 22 = .ok (.aload_n 0, 1) := by decide +kernel
theorem dX0_shouldBuy_23 : decode cX0_shouldBuy 23 = .ok (.iload_n 1, 1) := by decide +kernel
theorem dX0_shouldBuy_24 : decode cX0_shouldBuy 24 = .ok (.iload_n 2, 1) := by decide +kernel
theorem dX0_shouldBuy_25 : decode cX0_shouldBuy 25 = .ok (.iconst 2, 1) := by decide +kernel
theorem dX0_shouldBuy_26 : decode cX0_shouldBuy 26 = .ok (.iload_n 3, 1) := by decide +kernel
theorem dX0_shouldBuy_27 : decode cX0_shouldBuy 27 = .ok (.invokevirtual 76, 3) := by decide +kernel
theorem dX0_shouldBuy_30 : decode cX0_shouldBuy 30 = .ok (.istore 4, 2) := by decide +kernel
theorem dX0_shouldBuy_32 : decode cX0_shouldBuy 32 = .ok (.aload_n 0, 1) := by decide +kernel
theorem dX0_shouldBuy_33 : decode cX0_shouldBuy 33 = .ok (.iload_n 1, 1) := by decide +kernel
theorem dX0_shouldBuy_34 : decode cX0_shouldBuy 34 = .ok (.iload_n 2, 1) := by decide +kernel
theorem dX0_shouldBuy_35 : decode cX0_shouldBuy 35 = .ok (.invokevirtual 51, 3) := by decide +kernel
theorem dX0_shouldBuy_38 : decode cX0_shouldBuy 38 = .ok (.ifCond .eq 18, 3) := by decide +kernel
theorem dX0_shouldBuy_41 : decode cX0_shouldBuy 41 = .ok (.aload_n 0, 1) := by decide +kernel
theorem dX0_shouldBuy_42 : decode cX0_shouldBuy 42 = .ok (.iload_n 1, 1) := by decide +kernel
theorem dX0_shouldBuy_43 : decode cX0_shouldBuy 43 = .ok (.iload_n 2, 1) := by decide +kernel
theorem dX0_shouldBuy_44 : decode cX0_shouldBuy 44 = .ok (.iconst 0, 1) := by decide +kernel
theorem dX0_shouldBuy_45 : decode cX0_shouldBuy 45 = .ok (.iload_n 3, 1) := by decide +kernel
theorem dX0_shouldBuy_46 : decode cX0_shouldBuy 46 = .ok (.invokevirtual 76, 3) := by decide +kernel
theorem dX0_shouldBuy_49 : decode cX0_shouldBuy 49 = .ok (.iload 4, 2) := by decide +kernel
theorem dX0_shouldBuy_51 : decode cX0_shouldBuy 51 = .ok (.if_icmp .lt 5, 3) := by decide +kernel
theorem dX0_shouldBuy_54 : decode cX0_shouldBuy 54 = .ok (.iconst 0, 1) := by decide +kernel
theorem dX0_shouldBuy_55 : decode cX0_shouldBuy 55 = .ok (.ireturn, 1) := by decide +kernel
theorem dX0_shouldBuy_56 : decode cX0_shouldBuy 56 = .ok (.iinc 2 1, 3) := by decide +kernel
theorem dX0_shouldBuy_59 : decode cX0_shouldBuy 59 = .ok (.goto (-57), 3) := by decide +kernel
theorem dX0_shouldBuy_62 : decode cX0_shouldBuy 62 = .ok (.iconst 1, 1) := by decide +kernel
theorem dX0_shouldBuy_63 : decode cX0_shouldBuy 63 = .ok (.ireturn, 1) := by decide +kernel
theorem dX0_doersOf_0 : decode cX0_doersOf 0 = .ok (.iconst 0, 1) := by decide +kernel
theorem dX0_doersOf_1 : decode cX0_doersOf 1 = .ok (.istore_n 3, 1) := by decide +kernel
theorem dX0_doersOf_2 : decode cX0_doersOf 2 = .ok (.iconst 0, 1) := by decide +kernel
theorem dX0_doersOf_3 : decode cX0_doersOf 3 = .ok (.istore 4, 2) := by decide +kernel
theorem dX0_doersOf_5 : decode cX0_doersOf 5 = .ok (.iload 4, 2) := by decide +kernel
theorem dX0_doersOf_7 : decode cX0_doersOf 7 = .ok (.aload_n 0, 1) := by decide +kernel
theorem dX0_doersOf_8 : decode cX0_doersOf 8 = .ok (.getfield 9, 3) := by decide +kernel
theorem dX0_doersOf_11 : decode cX0_doersOf 11 = .ok (.invokevirtual 139, 3) := by decide +kernel
theorem dX0_doersOf_14 : decode cX0_doersOf 14 = .ok (.if_icmp .ge 50, 3) := by decide +kernel
theorem dX0_doersOf_17 : decode cX0_doersOf 17 = .ok (.aload_n 0, 1) := by decide +kernel
theorem dX0_doersOf_18 : decode cX0_doersOf 18 = .ok (.iload 4, 2) := by decide +kernel
theorem dX0_doersOf_20 : decode cX0_doersOf 20 = .ok (.iload_n 1, 1) := by decide +kernel
theorem dX0_doersOf_21 : decode cX0_doersOf 21 = .ok (.invokevirtual 51, 3) := by decide +kernel
theorem dX0_doersOf_24 : decode cX0_doersOf 24 = .ok (.ifCond .eq 34, 3) := by decide +kernel
theorem dX0_doersOf_27 : decode cX0_doersOf 27 = .ok (.aload_n 0, 1) := by decide +kernel
theorem dX0_doersOf_28 : decode cX0_doersOf 28 = .ok (.iload 4, 2) := by decide +kernel
theorem dX0_doersOf_30 : decode cX0_doersOf 30 = .ok (.iload_n 1, 1) := by decide +kernel
theorem dX0_doersOf_31 : decode cX0_doersOf 31 = .ok (.iconst 0, 1) := by decide +kernel
theorem dX0_doersOf_32 : decode cX0_doersOf 32 = .ok (.invokevirtual 159, 3) := by decide +kernel
theorem dX0_doersOf_35 : decode cX0_doersOf 35 = .ok (.iload_n 2, 1) := by decide +kernel
theorem dX0_doersOf_36 : decode cX0_doersOf 36 = .ok (.if_icmp .eq 15, 3) := by decide +kernel
theorem dX0_doersOf_39 : decode cX0_doersOf 39 = .ok (.aload_n 0, 1) := by decide +kernel
theorem dX0_doersOf_40 : decode cX0_doersOf 40 = .ok (.iload 4, 2) := by decide +kernel
theorem dX0_doersOf_42 : decode cX0_doersOf 42 = .ok (.iload_n 1, 1) := by decide +kernel
theorem dX0_doersOf_43 : decode cX0_doersOf 43 = .ok (.iconst 1, 1) := by decide +kernel
theorem dX0_doersOf_44 : decode cX0_doersOf 44 = .ok (.invokevirtual 159, 3) := by decide +kernel
theorem dX0_doersOf_47 : decode cX0_doersOf 47 = .ok (.iload_n 2, 1) := by decide +kernel
theorem dX0_doersOf_48 : decode cX0_doersOf 48 = .ok (.if_icmp .ne 10, 3) := by decide +kernel
theorem dX0_doersOf_51 : decode cX0_doersOf 51 = .ok (.iload_n 3, 1) := by decide +kernel
theorem dX0_doersOf_52 : decode cX0_doersOf 52 = .ok (.iconst 1, 1) := by decide +kernel
theorem dX0_doersOf_53 : decode cX0_doersOf 53 = .ok (.iload 4, 2) := by decide +kernel
theorem dX0_doersOf_55 : decode cX0_doersOf 55 = .ok (.ishl, 1) := by decide +kernel
theorem dX0_doersOf_56 : decode cX0_doersOf 56 = .ok (.ior, 1) := by decide +kernel
theorem dX0_doersOf_57 : decode cX0_doersOf 57 = .ok (.istore_n 3, 1) := by decide +kernel
theorem dX0_doersOf_58 : decode cX0_doersOf 58 = .ok (.iinc 4 1, 3) := by decide +kernel
theorem dX0_doersOf_61 : decode cX0_doersOf 61 = .ok (.goto (-56), 3) := by decide +kernel
theorem dX0_doersOf_64 : decode cX0_doersOf 64 = .ok (.iload_n 3, 1) := by decide +kernel
theorem dX0_doersOf_65 : decode cX0_doersOf 65 = .ok (.ireturn, 1) := by decide +kernel
theorem dX3_fewestDays_0 : decode cX3_fewestDays 0 = .ok (.aload_n 0, 1) := by decide +kernel
theorem dX3_fewestDays_1 : decode cX3_fewestDays 1 = .ok (.getfield 15, 3) := by decide +kernel
theorem dX3_fewestDays_4 : decode cX3_fewestDays 4 = .ok (.iload_n 1, 1) := by decide +kernel
theorem dX3_fewestDays_5 : decode cX3_fewestDays 5 = .ok (.invokevirtual 45, 3) := by decide +kernel
theorem dX3_fewestDays_8 : decode cX3_fewestDays 8 = .ok (.istore_n 3, 1) := by decide +kernel
theorem dX3_fewestDays_9 : decode cX3_fewestDays 9 = .ok (.iconst 0, 1) := by decide +kernel
theorem dX3_fewestDays_10 : decode cX3_fewestDays 10 = .ok (.istore 4, 2) := by decide +kernel
theorem dX3_fewestDays_12 : decode cX3_fewestDays 12 = .ok (.iload 4, 2) := by decide +kernel
theorem dX3_fewestDays_14 : decode cX3_fewestDays 14 = .ok (.aload_n 0, 1) := by decide +kernel
theorem dX3_fewestDays_15 : decode cX3_fewestDays 15 = .ok (.getfield 9, 3) := by decide +kernel
theorem dX3_fewestDays_18 : decode cX3_fewestDays 18 = .ok (.invokevirtual 51, 3) := by decide +kernel
theorem dX3_fewestDays_21 : decode cX3_fewestDays 21 = .ok (.if_icmp .ge 42, 3) := by decide +kernel
theorem dX3_fewestDays_24 : decode cX3_fewestDays 24 = .ok (.aload_n 0, 1) := by decide +kernel
theorem dX3_fewestDays_25 : decode cX3_fewestDays 25 = .ok (.getfield 23, 3) := by decide +kernel
theorem dX3_fewestDays_28 : decode cX3_fewestDays 28 = .ok (.iload 4, 2) := by decide +kernel
theorem dX3_fewestDays_30 : decode cX3_fewestDays 30 = .ok (.aload_n 0, 1) := by decide +kernel
theorem dX3_fewestDays_31 : decode cX3_fewestDays 31 = .ok (.getfield 19, 3) := by decide +kernel
theorem dX3_fewestDays_34 : decode cX3_fewestDays 34 = .ok (.iload 4, 2) := by decide +kernel
theorem dX3_fewestDays_36 : decode cX3_fewestDays 36 = .ok (.iload_n 1, 1) := by decide +kernel
theorem dX3_fewestDays_37 : decode cX3_fewestDays 37 = .ok (.invokevirtual 57, 3) := by decide +kernel
theorem dX3_fewestDays_40 : decode cX3_fewestDays 40 = .ok (.ifCond .eq 15, 3) := by decide +kernel
theorem dX3_fewestDays_43 : decode cX3_fewestDays 43 = .ok (.aload_n 0, 1) := by decide +kernel
theorem dX3_fewestDays_44 : decode cX3_fewestDays 44 = .ok (.getfield 15, 3) := by decide +kernel
theorem dX3_fewestDays_47 : decode cX3_fewestDays 47 = .ok (.iload 4, 2) := by decide +kernel
theorem dX3_fewestDays_49 : decode cX3_fewestDays 49 = .ok (.invokevirtual 63, 3) := by decide +kernel
theorem dX3_fewestDays_52 : decode cX3_fewestDays 52 = .ok (.goto 4, 3) := by decide +kernel
theorem dX3_fewestDays_55 : decode cX3_fewestDays 55 = .ok (.iconst 0, 1) := by decide +kernel
theorem dX3_fewestDays_56 : decode cX3_fewestDays 56 = .ok (.iastore, 1) := by decide +kernel
theorem dX3_fewestDays_57 : decode cX3_fewestDays 57 = .ok (.iinc 4 1, 3) := by decide +kernel
theorem dX3_fewestDays_60 : decode cX3_fewestDays 60 = .ok (.goto (-48), 3) := by decide +kernel
theorem dX3_fewestDays_63 : decode cX3_fewestDays 63 = .ok (.aload_n 0, 1) := by decide +kernel
theorem dX3_fewestDays_64 : decode cX3_fewestDays 64 = .ok (.iload_n 1, 1) := by decide +kernel
theorem dX3_fewestDays_65 : decode cX3_fewestDays 65 = .ok (.iload_n 3, 1) := by decide +kernel
theorem dX3_fewestDays_66 : decode cX3_fewestDays 66 = .ok (.invokevirtual 66, 3) := by decide +kernel
theorem dX3_fewestDays_69 : decode cX3_fewestDays 69 = .ok (.aload_n 0, 1) := by decide +kernel
theorem dX3_fewestDays_70 : decode cX3_fewestDays 70 = .ok (.iload_n 3, 1) := by decide +kernel
theorem dX3_fewestDays_71 : decode cX3_fewestDays 71 = .ok (.invokevirtual 70, 3) := by decide +kernel
theorem dX3_fewestDays_74 : decode cX3_fewestDays 74 = .ok (.iconst 0, 1) := by decide +kernel
theorem dX3_fewestDays_75 : decode cX3_fewestDays 75 = .ok (.istore 4, 2) := by decide +kernel
theorem dX3_fewestDays_77 : decode cX3_fewestDays 77 = .ok (.iload 4, 2) := by decide +kernel
theorem dX3_fewestDays_79 : decode cX3_fewestDays 79 = .ok (.bipush 6, 2) := by decide +kernel
theorem dX3_fewestDays_81 : decode cX3_fewestDays 81 = .ok (.if_icmp .gt 35, 3) := by decide +kernel
theorem dX3_fewestDays_84 : decode cX3_fewestDays 84 = .ok (.aload_n 0, 1) := by decide +kernel
theorem dX3_fewestDays_85 : decode cX3_fewestDays 85 = .ok (.iload 4, 2) := by decide +kernel
theorem dX3_fewestDays_87 : decode cX3_fewestDays 87 = .ok (.iload_n 3, 1) := by decide +kernel
theorem dX3_fewestDays_88 : decode cX3_fewestDays 88 = .ok (.iload_n 2, 1) := by decide +kernel
theorem dX3_fewestDays_89 : decode cX3_fewestDays 89 = .ok (.iconst 0, 1) := by decide +kernel
theorem dX3_fewestDays_90 : decode cX3_fewestDays 90 = .ok (.invokevirtual 74, 3) := by decide +kernel
theorem dX3_fewestDays_93 : decode cX3_fewestDays 93 = .ok (.istore 5, 2) := by decide +kernel
theorem dX3_fewestDays_95 : decode cX3_fewestDays 95 = .ok (.iload 5, 2) := by decide +kernel
theorem dX3_fewestDays_97 : decode cX3_fewestDays 97 = .ok (.iconst (-1), 1) := by decide +kernel
theorem dX3_fewestDays_98 : decode cX3_fewestDays 98 = .ok (.if_icmp .eq 12, 3) := by decide +kernel
theorem dX3_fewestDays_101 : decode cX3_fewestDays 101 = .ok (.iload 4, 2) := by decide +kernel
theorem dX3_fewestDays_103 : decode cX3_fewestDays 103 = .ok (.ldc 78, 2) := by decide +kernel
theorem dX3_fewestDays_105 : decode cX3_fewestDays 105 = .ok (.imul, 1) := by decide +kernel
theorem dX3_fewestDays_106 : decode cX3_fewestDays 106 = .ok (.iload 5, 2) := by decide +kernel
theorem dX3_fewestDays_108 : decode cX3_fewestDays 108 = .ok (.iadd, 1) := by decide +kernel
theorem dX3_fewestDays_109 : decode cX3_fewestDays 109 = .ok (.ireturn, 1) := by decide +kernel
theorem dX3_fewestDays_110 : decode cX3_fewestDays 110 = .ok (.iinc 4 1, 3) := by decide +kernel
theorem dX3_fewestDays_113 : decode cX3_fewestDays 113 = .ok (.goto (-36), 3) := by decide +kernel
theorem dX3_fewestDays_116 : decode cX3_fewestDays 116 = .ok (.iconst (-1), 1) := by decide +kernel
theorem dX3_fewestDays_117 : decode cX3_fewestDays 117 = .ok (.ireturn, 1) := by decide +kernel
theorem dX3_foreseeDays_0 : decode cX3_foreseeDays 0 = .ok (.aload_n 0, 1) := by decide +kernel
theorem dX3_foreseeDays_1 : decode cX3_foreseeDays 1 = .ok (.getfield 30, 3) := by decide +kernel
theorem dX3_foreseeDays_4 : decode cX3_foreseeDays 4 = .ok (.sipush 1000, 3) := by decide +kernel
theorem dX3_foreseeDays_7 : decode cX3_foreseeDays 7 = .ok (.invokestatic 79, 3) := by decide +kernel
theorem dX3_foreseeDays_10 : decode cX3_foreseeDays 10 = .ok (.aload_n 0, 1) := by decide +kernel
theorem dX3_foreseeDays_11 : decode cX3_foreseeDays 11 = .ok (.getfield 30, 3) := by decide +kernel
theorem dX3_foreseeDays_14 : decode cX3_foreseeDays 14 = .ok (.iload_n 2, 1) := by decide +kernel
theorem dX3_foreseeDays_15 : decode cX3_foreseeDays 15 = .ok (.iconst 0, 1) := by decide +kernel
theorem dX3_foreseeDays_16 : decode cX3_foreseeDays 16 = .ok (.iastore, 1) := by decide +kernel
theorem dX3_foreseeDays_17 : decode cX3_foreseeDays 17 = .ok (.iload_n 2, 1) := by decide +kernel
theorem dX3_foreseeDays_18 : decode cX3_foreseeDays 18 = .ok (.istore_n 3, 1) := by decide +kernel
theorem dX3_foreseeDays_19 : decode cX3_foreseeDays 19 = .ok (.iload_n 3, 1) := by decide +kernel
theorem dX3_foreseeDays_20 : decode cX3_foreseeDays 20 = .ok (.ifCond .lt 110, 3) := by decide +kernel
theorem dX3_foreseeDays_23 : decode cX3_foreseeDays 23 = .ok (.iconst 0, 1) := by decide +kernel
theorem dX3_foreseeDays_24 : decode cX3_foreseeDays 24 = .ok (.istore 4, 2) := by decide +kernel
theorem dX3_foreseeDays_26 : decode cX3_foreseeDays 26 = .ok (.iload 4, 2) := by decide +kernel
theorem dX3_foreseeDays_28 : decode cX3_foreseeDays 28 = .ok (.aload_n 0, 1) := by decide +kernel
theorem dX3_foreseeDays_29 : decode cX3_foreseeDays 29 = .ok (.getfield 9, 3) := by decide +kernel
theorem dX3_foreseeDays_32 : decode cX3_foreseeDays 32 = .ok (.invokevirtual 51, 3) := by decide +kernel
theorem dX3_foreseeDays_35 : decode cX3_foreseeDays 35 = .ok (.if_icmp .ge 89, 3) := by decide +kernel
theorem dX3_foreseeDays_38 : decode cX3_foreseeDays 38 = .ok (.aload_n 0, 1) := by decide +kernel
theorem dX3_foreseeDays_39 : decode cX3_foreseeDays 39 = .ok (.getfield 30, 3) := by decide +kernel
theorem dX3_foreseeDays_42 : decode cX3_foreseeDays 42 = .ok (.iload_n 3, 1) := by decide +kernel
theorem dX3_foreseeDays_43 : decode cX3_foreseeDays 43 = .ok (.iaload, 1) := by decide +kernel
theorem dX3_foreseeDays_44 : decode cX3_foreseeDays 44 = .ok (.bipush 6, 2) := by decide +kernel
theorem dX3_foreseeDays_46 : decode cX3_foreseeDays 46 = .ok (.if_icmp .ge 78, 3) := by decide +kernel
theorem dX3_foreseeDays_49 : decode cX3_foreseeDays 49 = .ok (.aload_n 0, 1) := by decide +kernel
theorem dX3_foreseeDays_50 : decode cX3_foreseeDays 50 = .ok (.getfield 23, 3) := by decide +kernel
theorem dX3_foreseeDays_53 : decode cX3_foreseeDays 53 = .ok (.iload 4, 2) := by decide +kernel
theorem dX3_foreseeDays_55 : decode cX3_foreseeDays 55 = .ok (.iaload, 1) := by decide +kernel
theorem dX3_foreseeDays_56 : decode cX3_foreseeDays 56 = .ok (.ifCond .le 62, 3) := by decide +kernel
theorem dX3_foreseeDays_59 : decode cX3_foreseeDays 59 = .ok (.iconst 0, 1) := by decide +kernel
theorem dX3_foreseeDays_60 : decode cX3_foreseeDays 60 = .ok (.iload_n 3, 1) := by decide +kernel
theorem dX3_foreseeDays_61 : decode cX3_foreseeDays 61 = .ok (.aload_n 0, 1) := by decide +kernel
theorem dX3_foreseeDays_62 : decode cX3_foreseeDays 62 = .ok (.getfield 19, 3) := by decide +kernel
theorem dX3_foreseeDays_65 : decode cX3_foreseeDays 65 = .ok (.iload 4, 2) := by decide +kernel
theorem dX3_foreseeDays_67 : decode cX3_foreseeDays 67 = .ok (.iload_n 1, 1) := by decide +kernel
theorem dX3_foreseeDays_68 : decode cX3_foreseeDays 68 = .ok (.iconst 0, 1) := by decide +kernel
theorem dX3_foreseeDays_69 : decode cX3_foreseeDays 69 = .ok (.iload_n 3, 1) := by decide +kernel
theorem dX3_foreseeDays_70 : decode cX3_foreseeDays 70 = .ok (.invokevirtual 85, 3) := by decide +kernel
theorem dX3_foreseeDays_73 : decode cX3_foreseeDays 73 = .ok (.isub, 1) := by decide +kernel
theorem dX3_foreseeDays_74 : decode cX3_foreseeDays 74 = .ok (.invokestatic 88, 3) := by decide +kernel
theorem dX3_foreseeDays_77 : decode cX3_foreseeDays 77 = .ok (.istore 5, 2) := by decide +kernel
theorem dX3_foreseeDays_79 : decode cX3_foreseeDays 79 = .ok (.aload_n 0, 1) := by decide +kernel
theorem dX3_foreseeDays_80 : decode cX3_foreseeDays 80 = .ok (.getfield 27, 3) := by decide +kernel
theorem dX3_foreseeDays_83 : decode cX3_foreseeDays 83 = .ok (.iload 4, 2) := by decide +kernel
theorem dX3_foreseeDays_85 : decode cX3_foreseeDays 85 = .ok (.bipush 100, 2) := by decide +kernel
theorem dX3_foreseeDays_87 : decode cX3_foreseeDays 87 = .ok (.imul, 1) := by decide +kernel
theorem dX3_foreseeDays_88 : decode cX3_foreseeDays 88 = .ok (.iload_n 3, 1) := by decide +kernel
theorem dX3_foreseeDays_89 : decode cX3_foreseeDays 89 = .ok (.iadd, 1) := by decide +kernel
theorem dX3_foreseeDays_90 : decode cX3_foreseeDays 90 = .ok (.iload 5, 2) := by decide +kernel
theorem dX3_foreseeDays_92 : decode cX3_foreseeDays 92 = .ok (.iastore, 1) := by decide +kernel
theorem dX3_foreseeDays_93 : decode cX3_foreseeDays 93 = .ok (.aload_n 0, 1) := by decide +kernel
theorem dX3_foreseeDays_94 : decode cX3_foreseeDays 94 = .ok (.getfield 30, 3) := by decide +kernel
theorem dX3_foreseeDays_97 : decode cX3_foreseeDays 97 = .ok (.iload 5, 2) := by decide +kernel
theorem dX3_foreseeDays_99 : decode cX3_foreseeDays 99 = .ok (.aload_n 0, 1) := by decide +kernel
theorem dX3_foreseeDays_100 : decode cX3_foreseeDays 100 = .ok (.getfield 30, 3) := by decide +kernel
theorem dX3_foreseeDays_103 : decode cX3_foreseeDays 103 = .ok (.iload 5, 2) := by decide +kernel
theorem dX3_foreseeDays_105 : decode cX3_foreseeDays 105 = .ok (.iaload, 1) := by decide +kernel
theorem dX3_foreseeDays_106 : decode cX3_foreseeDays 106 = .ok (.aload_n 0, 1) := by decide +kernel
theorem dX3_foreseeDays_107 : decode cX3_foreseeDays 107 = .ok (.getfield 30, 3) := by decide +kernel
theorem dX3_foreseeDays_110 : decode cX3_foreseeDays 110 = .ok (.iload_n 3, 1) := by decide +kernel
theorem dX3_foreseeDays_111 : decode cX3_foreseeDays 111 = .ok (.iaload, 1) := by decide +kernel
theorem dX3_foreseeDays_112 : decode cX3_foreseeDays 112 = .ok (.iconst 1, 1) := by decide +kernel
theorem dX3_foreseeDays_113 : decode cX3_foreseeDays 113 = .ok (.iadd, 1) := by decide +kernel
theorem dX3_foreseeDays_114 : decode cX3_foreseeDays 114 = .ok (.invokestatic 94, 3) := by decide +kernel
theorem dX3_foreseeDays_117 : decode cX3_foreseeDays 117 = .ok (.iastore, 1) := by decide +kernel
theorem dX3_foreseeDays_118 : decode cX3_foreseeDays 118 = .ok (.iinc 4 1, 3) := by decide +kernel
theorem dX3_foreseeDays_121 : decode cX3_foreseeDays 121 = .ok (.goto (-95), 3) := by decide +kernel
theorem dX3_foreseeDays_124 : decode cX3_foreseeDays 124 = .ok (.iinc 3 (-1), 3) := by decide +kernel
theorem dX3_foreseeDays_127 : decode cX3_foreseeDays 127 = .ok (.goto (-108), 3) := by decide +kernel
theorem dX3_foreseeDays_130 : decode cX3_foreseeDays 130 = .ok (.return_, 1) := by decide +kernel
theorem dX3_foreseeLowest_0 : decode cX3_foreseeLowest 0 = .ok (.iconst 0, 1) := by decide +kernel
theorem dX3_foreseeLowest_1 : decode cX3_foreseeLowest 1 = .ok (.istore_n 2, 1) := by decide +kernel
theorem dX3_foreseeLowest_2 : decode cX3_foreseeLowest 2 = .ok (.iload_n 2, 1) := by decide +kernel
theorem dX3_foreseeLowest_3 : decode cX3_foreseeLowest 3 = .ok (.iload_n 1, 1) := by decide +kernel
theorem dX3_foreseeLowest_4 : decode cX3_foreseeLowest 4 = .ok (.if_icmp .gt 16, 3) := by decide +kernel
theorem dX3_foreseeLowest_7 : decode cX3_foreseeLowest 7 = .ok (.aload_n 0, 1) := by decide +kernel
theorem dX3_foreseeLowest_8 : decode cX3_foreseeLowest 8 = .ok (.getfield 33, 3) := by decide +kernel
theorem dX3_foreseeLowest_11 : decode cX3_foreseeLowest 11 = .ok (.iload_n 2, 1) := by decide +kernel
theorem dX3_foreseeLowest_12 : decode cX3_foreseeLowest 12 = .ok (.iload_n 2, 1) := by decide +kernel
theorem dX3_foreseeLowest_13 : decode cX3_foreseeLowest 13 = .ok (.iastore, 1) := by decide +kernel
theorem dX3_foreseeLowest_14 : decode cX3_foreseeLowest 14 = .ok (.iinc 2 1, 3) := by decide +kernel
theorem dX3_foreseeLowest_17 : decode cX3_foreseeLowest 17 = .ok (.goto (-15), 3) := by decide +kernel
theorem dX3_foreseeLowest_20 : decode cX3_foreseeLowest 20 = .ok (.iconst 1, 1) := by decide +kernel
theorem dX3_foreseeLowest_21 : decode cX3_foreseeLowest 21 = .ok (.istore_n 2, 1) := by decide +kernel
theorem dX3_foreseeLowest_22 : decode cX3_foreseeLowest 22 = .ok (.iload_n 2, 1) := by decide +kernel
theorem dX3_foreseeLowest_23 : decode cX3_foreseeLowest 23 = .ok (.bipush 6, 2) := by decide +kernel
theorem dX3_foreseeLowest_25 : decode cX3_foreseeLowest 25 = .ok (.if_icmp .gt 113, 3) := by decide +kernel
theorem dX3_foreseeLowest_28 : decode cX3_foreseeLowest 28 = .ok (.iconst 0, 1) := by decide +kernel
theorem dX3_foreseeLowest_29 : decode cX3_foreseeLowest 29 = .ok (.istore_n 3, 1) := by decide +kernel
theorem dX3_foreseeLowest_30 : decode cX3_foreseeLowest 30 = .ok (.iload_n 3, 1) := by decide +kernel
theorem dX3_foreseeLowest_31 : decode cX3_foreseeLowest 31 = .ok (.iload_n 1, 1) := by decide +kernel
theorem dX3_foreseeLowest_32 : decode cX3_foreseeLowest 32 = .ok (.if_icmp .gt 100, 3) := by decide +kernel
theorem dX3_foreseeLowest_35 : decode cX3_foreseeLowest 35 = .ok (.iload_n 3, 1) := by decide +kernel
theorem dX3_foreseeLowest_36 : decode cX3_foreseeLowest 36 = .ok (.istore 4, 2) := by decide +kernel
theorem dX3_foreseeLowest_38 : decode cX3_foreseeLowest 38 = .ok (.iconst 0, 1) := by decide +kernel
theorem dX3_foreseeLowest_39 : decode cX3_foreseeLowest 39 = .ok (.istore 5, 2) := by decide +kernel
theorem dX3_foreseeLowest_41 : decode cX3_foreseeLowest 41 = .ok (.iload 5, 2) := by decide +kernel
theorem dX3_foreseeLowest_43 : decode cX3_foreseeLowest 43 = .ok (.aload_n 0, 1) := by decide +kernel
theorem dX3_foreseeLowest_44 : decode cX3_foreseeLowest 44 = .ok (.getfield 9, 3) := by decide +kernel
theorem dX3_foreseeLowest_47 : decode cX3_foreseeLowest 47 = .ok (.invokevirtual 51, 3) := by decide +kernel
theorem dX3_foreseeLowest_50 : decode cX3_foreseeLowest 50 = .ok (.if_icmp .ge 63, 3) := by decide +kernel
theorem dX3_foreseeLowest_53 : decode cX3_foreseeLowest 53 = .ok (.aload_n 0, 1) := by decide +kernel
theorem dX3_foreseeLowest_54 : decode cX3_foreseeLowest 54 = .ok (.getfield 30, 3) := by decide +kernel
theorem dX3_foreseeLowest_57 : decode cX3_foreseeLowest 57 = .ok (.iload_n 3, 1) := by decide +kernel
theorem dX3_foreseeLowest_58 : decode cX3_foreseeLowest 58 = .ok (.iaload, 1) := by decide +kernel
theorem dX3_foreseeLowest_59 : decode cX3_foreseeLowest 59 = .ok (.iload_n 2, 1) := by decide +kernel
theorem dX3_foreseeLowest_60 : decode cX3_foreseeLowest 60 = .ok (.iadd, 1) := by decide +kernel
theorem dX3_foreseeLowest_61 : decode cX3_foreseeLowest 61 = .ok (.bipush 6, 2) := by decide +kernel
theorem dX3_foreseeLowest_63 : decode cX3_foreseeLowest 63 = .ok (.if_icmp .gt 50, 3) := by decide +kernel
theorem dX3_foreseeLowest_66 : decode cX3_foreseeLowest 66 = .ok (.aload_n 0, 1) := by decide +kernel
theorem dX3_foreseeLowest_67 : decode cX3_foreseeLowest 67 = .ok (.getfield 23, 3) := by decide +kernel
theorem dX3_foreseeLowest_70 : decode cX3_foreseeLowest 70 = .ok (.iload 5, 2) := by decide +kernel
theorem dX3_foreseeLowest_72 : decode cX3_foreseeLowest 72 = .ok (.iaload, 1) := by decide +kernel
theorem dX3_foreseeLowest_73 : decode cX3_foreseeLowest 73 = .ok (.ifCond .le 34, 3) := by decide +kernel
theorem dX3_foreseeLowest_76 : decode cX3_foreseeLowest 76 = .ok (.iload 4, 2) := by decide +kernel
theorem dX3_foreseeLowest_78 : decode cX3_foreseeLowest 78 = .ok (.aload_n 0, 1) := by decide +kernel
theorem dX3_foreseeLowest_79 : decode cX3_foreseeLowest 79 = .ok (.getfield 33, 3) := by decide +kernel
theorem dX3_foreseeLowest_82 : decode cX3_foreseeLowest 82 = .ok (.iload_n 2, 1) := by decide +kernel
theorem dX3_foreseeLowest_83 : decode cX3_foreseeLowest 83 = .ok (.iconst 1, 1) := by decide +kernel
theorem dX3_foreseeLowest_84 : decode cX3_foreseeLowest 84 = .ok (.isub, 1) := by decide +kernel
theorem dX3_foreseeLowest_85 : decode cX3_foreseeLowest 85 = .ok (.bipush 100, 2) := by decide +kernel
theorem dX3_foreseeLowest_87 : decode cX3_foreseeLowest 87 = .ok (.imul, 1) := by decide +kernel
theorem dX3_foreseeLowest_88 : decode cX3_foreseeLowest 88 = .ok (.aload_n 0, 1) := by decide +kernel
theorem dX3_foreseeLowest_89 : decode cX3_foreseeLowest 89 = .ok (.getfield 27, 3) := by decide +kernel
theorem dX3_foreseeLowest_92 : decode cX3_foreseeLowest 92 = .ok (.iload 5, 2) := by decide +kernel
theorem dX3_foreseeLowest_94 : decode cX3_foreseeLowest 94 = .ok (.bipush 100, 2) := by decide +kernel
theorem dX3_foreseeLowest_96 : decode cX3_foreseeLowest 96 = .ok (.imul, 1) := by decide +kernel
theorem dX3_foreseeLowest_97 : decode cX3_foreseeLowest 97 = .ok (.iload_n 3, 1) := by decide +kernel
theorem dX3_foreseeLowest_98 : decode cX3_foreseeLowest 98 = .ok (.iadd, 1) := by decide +kernel
theorem dX3_foreseeLowest_99 : decode cX3_foreseeLowest 99 = .ok (.iaload, 1) := by decide +kernel
theorem dX3_foreseeLowest_100 : decode cX3_foreseeLowest 100 = .ok (.iadd, 1) := by decide +kernel
theorem dX3_foreseeLowest_101 : decode cX3_foreseeLowest 101 = .ok (.iaload, 1) := by decide +kernel
theorem dX3_foreseeLowest_102 : decode cX3_foreseeLowest 102 = .ok (.invokestatic 94, 3) := by decide +kernel
theorem dX3_foreseeLowest_105 : decode cX3_foreseeLowest 105 = .ok (.istore 4, 2) := by decide +kernel
theorem dX3_foreseeLowest_107 : decode cX3_foreseeLowest 107 = .ok (.iinc 5 1, 3) := by decide +kernel
theorem dX3_foreseeLowest_110 : decode cX3_foreseeLowest 110 = .ok (.goto (-69), 3) := by decide +kernel
theorem dX3_foreseeLowest_113 : decode cX3_foreseeLowest 113 = .ok (.aload_n 0, 1) := by decide +kernel
theorem dX3_foreseeLowest_114 : decode cX3_foreseeLowest 114 = .ok (.getfield 33, 3) := by decide +kernel
theorem dX3_foreseeLowest_117 : decode cX3_foreseeLowest 117 = .ok (.iload_n 2, 1) := by decide +kernel
theorem dX3_foreseeLowest_118 : decode cX3_foreseeLowest 118 = .ok (.bipush 100, 2) := by decide +kernel
theorem dX3_foreseeLowest_120 : decode cX3_foreseeLowest 120 = .ok (.imul, 1) := by decide +kernel
theorem dX3_foreseeLowest_121 : decode cX3_foreseeLowest 121 = .ok (.iload_n 3, 1) := by decide +kernel
theorem dX3_foreseeLowest_122 : decode cX3_foreseeLowest 122 = .ok (.iadd, 1) := by decide +kernel
theorem dX3_foreseeLowest_123 : decode cX3_foreseeLowest 123 = .ok (.iload 4, 2) := by decide +kernel
theorem dX3_foreseeLowest_125 : decode cX3_foreseeLowest 125 = .ok (.iastore, 1) := by decide +kernel
theorem dX3_foreseeLowest_126 : decode cX3_foreseeLowest 126 = .ok (.iinc 3 1, 3) := by decide +kernel
theorem dX3_foreseeLowest_129 : decode cX3_foreseeLowest 129 = .ok (.goto (-99), 3) := by decide +kernel
theorem dX3_foreseeLowest_132 : decode cX3_foreseeLowest 132 = .ok (.iinc 2 1, 3) := by decide +kernel
theorem dX3_foreseeLowest_135 : decode cX3_foreseeLowest 135 = .ok (.goto (-113), 3) := by decide +kernel
theorem dX3_foreseeLowest_138 : decode cX3_foreseeLowest 138 = .ok (.return_, 1) := by decide +kernel
theorem dX3_leastRow_0 : decode cX3_leastRow 0 = .ok (.aload_n 0, 1) := by decide +kernel
theorem dX3_leastRow_1 : decode cX3_leastRow 1 = .ok (.getfield 33, 3) := by decide +kernel
theorem dX3_leastRow_4 : decode cX3_leastRow 4 = .ok (.iload_n 1, 1) := by decide +kernel
theorem dX3_leastRow_5 : decode cX3_leastRow 5 = .ok (.bipush 100, 2) := by decide +kernel
theorem dX3_leastRow_7 : decode cX3_leastRow 7 = .ok (.imul, 1) := by decide +kernel
theorem dX3_leastRow_8 : decode cX3_leastRow 8 = .ok (.iload_n 2, 1) := by decide +kernel
theorem dX3_leastRow_9 : decode cX3_leastRow 9 = .ok (.iadd, 1) := by decide +kernel
theorem dX3_leastRow_10 : decode cX3_leastRow 10 = .ok (.iaload, 1) := by decide +kernel
theorem dX3_leastRow_11 : decode cX3_leastRow 11 = .ok (.iload_n 3, 1) := by decide +kernel
theorem dX3_leastRow_12 : decode cX3_leastRow 12 = .ok (.if_icmp .le 5, 3) := by decide +kernel
theorem dX3_leastRow_15 : decode cX3_leastRow 15 = .ok (.iconst (-1), 1) := by decide +kernel
theorem dX3_leastRow_16 : decode cX3_leastRow 16 = .ok (.ireturn, 1) := by decide +kernel
theorem dX3_leastRow_17 : decode cX3_leastRow 17 = .ok (.iload_n 1, 1) := by decide +kernel
theorem dX3_leastRow_18 : decode cX3_leastRow 18 = .ok (.ifCond .ne 6, 3) := by decide +kernel
theorem dX3_leastRow_21 : decode cX3_leastRow 21 = .ok (.iload 4, 2) := by decide +kernel
theorem dX3_leastRow_23 : decode cX3_leastRow 23 = .ok (.ireturn, 1) := by decide +kernel
theorem dX3_leastRow_24 : decode cX3_leastRow 24 = .ok (.iconst 0, 1) := by decide +kernel
theorem dX3_leastRow_25 : decode cX3_leastRow 25 = .ok (.istore 5, 2) := by decide +kernel
theorem dX3_leastRow_27 : decode cX3_leastRow 27 = .ok (.iload 5, 2) := by decide +kernel
theorem dX3_leastRow_29 : decode cX3_leastRow 29 = .ok (.aload_n 0, 1) := by decide +kernel
theorem dX3_leastRow_30 : decode cX3_leastRow 30 = .ok (.getfield 9, 3) := by decide +kernel
theorem dX3_leastRow_33 : decode cX3_leastRow 33 = .ok (.invokevirtual 51, 3) := by decide +kernel
theorem dX3_leastRow_36 : decode cX3_leastRow 36 = .ok (.if_icmp .ge 80, 3) := by decide +kernel
theorem dX3_leastRow_39 : decode cX3_leastRow 39 = .ok (.aload_n 0, 1) := by decide +kernel
theorem dX3_leastRow_40 : decode cX3_leastRow 40 = .ok (.getfield 23, 3) := by decide +kernel
theorem dX3_leastRow_43 : decode cX3_leastRow 43 = .ok (.iload 5, 2) := by decide +kernel
theorem dX3_leastRow_45 : decode cX3_leastRow 45 = .ok (.iaload, 1) := by decide +kernel
theorem dX3_leastRow_46 : decode cX3_leastRow 46 = .ok (.ifCond .le 64, 3) := by decide +kernel
theorem dX3_leastRow_49 : decode cX3_leastRow 49 = .ok (.aload_n 0, 1) := by decide +kernel
theorem dX3_leastRow_50 : decode cX3_leastRow 50 = .ok (.getfield 23, 3) := by decide +kernel
theorem dX3_leastRow_53 : decode cX3_leastRow 53 = .ok (.iload 5, 2) := by decide +kernel
theorem dX3_leastRow_55 : decode cX3_leastRow 55 = .ok (.dup2, 1) := by decide +kernel
theorem dX3_leastRow_56 : decode cX3_leastRow 56 = .ok (.iaload, 1) := by decide +kernel
theorem dX3_leastRow_57 : decode cX3_leastRow 57 = .ok (.iconst 1, 1) := by decide +kernel
theorem dX3_leastRow_58 : decode cX3_leastRow 58 = .ok (.isub, 1) := by decide +kernel
theorem dX3_leastRow_59 : decode cX3_leastRow 59 = .ok (.iastore, 1) := by decide +kernel
theorem dX3_leastRow_60 : decode cX3_leastRow 60 = .ok (.aload_n 0, 1) := by decide +kernel
theorem dX3_leastRow_61 : decode cX3_leastRow 61 = .ok (.iload_n 1, 1) := by decide +kernel
theorem dX3_leastRow_62 : decode cX3_leastRow 62 = .ok (.iconst 1, 1) := by decide +kernel
theorem dX3_leastRow_63 : decode cX3_leastRow 63 = .ok (.isub, 1) := by decide +kernel
theorem dX3_leastRow_64 : decode cX3_leastRow 64 = .ok (.aload_n 0, 1) := by decide +kernel
theorem dX3_leastRow_65 : decode cX3_leastRow 65 = .ok (.getfield 27, 3) := by decide +kernel
theorem dX3_leastRow_68 : decode cX3_leastRow 68 = .ok (.iload 5, 2) := by decide +kernel
theorem dX3_leastRow_70 : decode cX3_leastRow 70 = .ok (.bipush 100, 2) := by decide +kernel
theorem dX3_leastRow_72 : decode cX3_leastRow 72 = .ok (.imul, 1) := by decide +kernel
theorem dX3_leastRow_73 : decode cX3_leastRow 73 = .ok (.iload_n 2, 1) := by decide +kernel
theorem dX3_leastRow_74 : decode cX3_leastRow 74 = .ok (.iadd, 1) := by decide +kernel
theorem dX3_leastRow_75 : decode cX3_leastRow 75 = .ok (.iaload, 1) := by decide +kernel
theorem dX3_leastRow_76 : decode cX3_leastRow 76 = .ok (.iload_n 3, 1) := by decide +kernel
theorem dX3_leastRow_77 : decode cX3_leastRow 77 = .ok (.iload 4, 2) := by decide +kernel
theorem dX3_leastRow_79 : decode cX3_leastRow 79 = .ok (.bipush 10, 2) := by decide +kernel
theorem dX3_leastRow_81 : decode cX3_leastRow 81 = .ok (.imul, 1) := by decide +kernel
theorem dX3_leastRow_82 : decode cX3_leastRow 82 = .ok (.iload 5, 2) := by decide +kernel
theorem dX3_leastRow_84 : decode cX3_leastRow 84 = .ok (.iadd, 1) := by decide +kernel
theorem dX3_leastRow_85 : decode cX3_leastRow 85 = .ok (.invokevirtual 74, 3) := by decide +kernel
theorem dX3_leastRow_88 : decode cX3_leastRow 88 = .ok (.istore 6, 2) := by decide +kernel
theorem dX3_leastRow_90 : decode cX3_leastRow 90 = .ok (.aload_n 0, 1) := by decide +kernel
theorem dX3_leastRow_91 : decode cX3_leastRow 91 = .ok (.getfield 23, 3) := by decide +kernel
theorem dX3_leastRow_94 : decode cX3_leastRow 94 = .ok (.iload 5, 2) := by decide +kernel
theorem dX3_leastRow_96 : decode cX3_leastRow 96 = .ok (.dup2, 1) := by decide +kernel
theorem dX3_leastRow_97 : decode cX3_leastRow 97 = .ok (.iaload, 1) := by decide +kernel
theorem dX3_leastRow_98 : decode cX3_leastRow 98 = .ok (.iconst 1, 1) := by decide +kernel
theorem dX3_leastRow_99 : decode cX3_leastRow 99 = .ok (.iadd, 1) := by decide +kernel
theorem dX3_leastRow_100 : decode cX3_leastRow 100 = .ok (.iastore, 1) := by decide +kernel
theorem dX3_leastRow_101 : decode cX3_leastRow 101 = .ok (.iload 6, 2) := by decide +kernel
theorem dX3_leastRow_103 : decode cX3_leastRow 103 = .ok (.iconst (-1), 1) := by decide +kernel
theorem dX3_leastRow_104 : decode cX3_leastRow 104 = .ok (.if_icmp .eq 6, 3) := by decide +kernel
theorem dX3_leastRow_107 : decode cX3_leastRow 107 = .ok (.iload 6, 2) := by decide +kernel
theorem dX3_leastRow_109 : decode cX3_leastRow 109 = .ok (.ireturn, 1) := by decide +kernel
theorem dX3_leastRow_110 : decode cX3_leastRow 110 = .ok (.iinc 5 1, 3) := by decide +kernel
theorem dX3_leastRow_113 : decode cX3_leastRow 113 = .ok (.goto (-86), 3) := by decide +kernel
theorem dX3_leastRow_116 : decode cX3_leastRow 116 = .ok (.iconst (-1), 1) := by decide +kernel
theorem dX3_leastRow_117 : decode cX3_leastRow 117 = .ok (.ireturn, 1) := by decide +kernel
theorem dX3_setUpGame_0 : decode cX3_setUpGame 0 = .ok (.iconst 0, 1) := by decide +kernel
theorem dX3_setUpGame_1 : decode cX3_setUpGame 1 = .ok (.istore 4, 2) := by decide +kernel
theorem dX3_setUpGame_3 : decode cX3_setUpGame 3 = .ok (.iload 4, 2) := by decide +kernel
theorem dX3_setUpGame_5 : decode cX3_setUpGame 5 = .ok (.iconst 4, 1) := by decide +kernel
theorem dX3_setUpGame_6 : decode cX3_setUpGame 6 = .ok (.if_icmp .ge 45, 3) := by decide +kernel
theorem dX3_setUpGame_9 : decode cX3_setUpGame 9 = .ok (.aload_n 0, 1) := by decide +kernel
theorem dX3_setUpGame_10 : decode cX3_setUpGame 10 = .ok (.getfield 39, 3) := by decide +kernel
theorem dX3_setUpGame_13 : decode cX3_setUpGame 13 = .ok (.iload 4, 2) := by decide +kernel
theorem dX3_setUpGame_15 : decode cX3_setUpGame 15 = .ok (.aload_n 0, 1) := by decide +kernel
theorem dX3_setUpGame_16 : decode cX3_setUpGame 16 = .ok (.getfield 19, 3) := by decide +kernel
theorem dX3_setUpGame_19 : decode cX3_setUpGame 19 = .ok (.iload_n 1, 1) := by decide +kernel
theorem dX3_setUpGame_20 : decode cX3_setUpGame 20 = .ok (.iload_n 3, 1) := by decide +kernel
theorem dX3_setUpGame_21 : decode cX3_setUpGame 21 = .ok (.iload 4, 2) := by decide +kernel
theorem dX3_setUpGame_23 : decode cX3_setUpGame 23 = .ok (.invokevirtual 97, 3) := by decide +kernel
theorem dX3_setUpGame_26 : decode cX3_setUpGame 26 = .ok (.iastore, 1) := by decide +kernel
theorem dX3_setUpGame_27 : decode cX3_setUpGame 27 = .ok (.aload_n 0, 1) := by decide +kernel
theorem dX3_setUpGame_28 : decode cX3_setUpGame 28 = .ok (.getfield 42, 3) := by decide +kernel
theorem dX3_setUpGame_31 : decode cX3_setUpGame 31 = .ok (.iload 4, 2) := by decide +kernel
theorem dX3_setUpGame_33 : decode cX3_setUpGame 33 = .ok (.aload_n 0, 1) := by decide +kernel
theorem dX3_setUpGame_34 : decode cX3_setUpGame 34 = .ok (.getfield 19, 3) := by decide +kernel
theorem dX3_setUpGame_37 : decode cX3_setUpGame 37 = .ok (.iload_n 2, 1) := by decide +kernel
theorem dX3_setUpGame_38 : decode cX3_setUpGame 38 = .ok (.iload_n 3, 1) := by decide +kernel
theorem dX3_setUpGame_39 : decode cX3_setUpGame 39 = .ok (.iload 4, 2) := by decide +kernel
theorem dX3_setUpGame_41 : decode cX3_setUpGame 41 = .ok (.invokevirtual 97, 3) := by decide +kernel
theorem dX3_setUpGame_44 : decode cX3_setUpGame 44 = .ok (.iastore, 1) := by decide +kernel
theorem dX3_setUpGame_45 : decode cX3_setUpGame 45 = .ok (.iinc 4 1, 3) := by decide +kernel
theorem dX3_setUpGame_48 : decode cX3_setUpGame 48 = .ok (.goto (-45), 3) := by decide +kernel
theorem dX3_setUpGame_51 : decode cX3_setUpGame 51 = .ok (.return_, 1) := by decide +kernel
theorem dX3_ones_0 : decode cX3_ones 0 = .ok (.aload_n 0, 1) := by decide +kernel
theorem dX3_ones_1 : decode cX3_ones 1 = .ok (.getfield 39, 3) := by decide +kernel
theorem dX3_ones_4 : decode cX3_ones 4 = .ok (.iload_n 1, 1) := by decide +kernel
theorem dX3_ones_5 : decode cX3_ones 5 = .ok (.iaload, 1) := by decide +kernel
theorem dX3_ones_6 : decode cX3_ones 6 = .ok (.aload_n 0, 1) := by decide +kernel
theorem dX3_ones_7 : decode cX3_ones 7 = .ok (.getfield 42, 3) := by decide +kernel
theorem dX3_ones_10 : decode cX3_ones 10 = .ok (.iload_n 2, 1) := by decide +kernel
theorem dX3_ones_11 : decode cX3_ones 11 = .ok (.iaload, 1) := by decide +kernel
theorem dX3_ones_12 : decode cX3_ones 12 = .ok (.iadd, 1) := by decide +kernel
theorem dX3_ones_13 : decode cX3_ones 13 = .ok (.iconst 2, 1) := by decide +kernel
theorem dX3_ones_14 : decode cX3_ones 14 = .ok (.idiv, 1) := by decide +kernel
theorem dX3_ones_15 : decode cX3_ones 15 = .ok (.getstatic 101, 3) := by decide +kernel
theorem dX3_ones_18 : decode cX3_ones 18 = .ok (.iload_n 1, 1) := by decide +kernel
theorem dX3_ones_19 : decode cX3_ones 19 = .ok (.iaload, 1) := by decide +kernel
theorem dX3_ones_20 : decode cX3_ones 20 = .ok (.isub, 1) := by decide +kernel
theorem dX3_ones_21 : decode cX3_ones 21 = .ok (.ireturn, 1) := by decide +kernel
theorem dX3_others_0 : decode cX3_others 0 = .ok (.aload_n 0, 1) := by decide +kernel
theorem dX3_others_1 : decode cX3_others 1 = .ok (.getfield 39, 3) := by decide +kernel
theorem dX3_others_4 : decode cX3_others 4 = .ok (.iload_n 1, 1) := by decide +kernel
theorem dX3_others_5 : decode cX3_others 5 = .ok (.iaload, 1) := by decide +kernel
theorem dX3_others_6 : decode cX3_others 6 = .ok (.aload_n 0, 1) := by decide +kernel
theorem dX3_others_7 : decode cX3_others 7 = .ok (.getfield 42, 3) := by decide +kernel
theorem dX3_others_10 : decode cX3_others 10 = .ok (.iload_n 2, 1) := by decide +kernel
theorem dX3_others_11 : decode cX3_others 11 = .ok (.iaload, 1) := by decide +kernel
theorem dX3_others_12 : decode cX3_others 12 = .ok (.iadd, 1) := by decide +kernel
theorem dX3_others_13 : decode cX3_others 13 = .ok (.iconst 2, 1) := by decide +kernel
theorem dX3_others_14 : decode cX3_others 14 = .ok (.idiv, 1) := by decide +kernel
theorem dX3_others_15 : decode cX3_others 15 = .ok (.getstatic 101, 3) := by decide +kernel
theorem dX3_others_18 : decode cX3_others 18 = .ok (.iload_n 2, 1) := by decide +kernel
theorem dX3_others_19 : decode cX3_others 19 = .ok (.iaload, 1) := by decide +kernel
theorem dX3_others_20 : decode cX3_others 20 = .ok (.isub, 1) := by decide +kernel
theorem dX3_others_21 : decode cX3_others 21 = .ok (.ireturn, 1) := by decide +kernel
theorem dX3_restAt_0 : decode cX3_restAt 0 = .ok (.iconst 0, 1) := by decide +kernel
theorem dX3_restAt_1 : decode cX3_restAt 1 = .ok (.istore_n 2, 1) := by decide +kernel
theorem dX3_restAt_2 : decode cX3_restAt 2 = .ok (.getstatic 104, 3) := by decide +kernel
theorem dX3_restAt_5 : decode cX3_restAt 5 = .ok (.astore_n 3, 1) := by decide +kernel
theorem dX3_restAt_6 : decode cX3_restAt 6 = .ok (.aload_n 3, 1) := by decide +kernel
theorem dX3_restAt_7 : decode cX3_restAt 7 = .ok (.arraylength, 1) := by decide +kernel
theorem dX3_restAt_8 : decode cX3_restAt 8 = .ok (.istore 4, 2) := by decide +kernel
theorem dX3_restAt_10 : decode cX3_restAt 10 = .ok (.iconst 0, 1) := by decide +kernel
theorem dX3_restAt_11 : decode cX3_restAt 11 = .ok (.istore 5, 2) := by decide +kernel
theorem dX3_restAt_13 : decode cX3_restAt 13 = .ok (.iload 5, 2) := by decide +kernel
theorem dX3_restAt_15 : decode cX3_restAt 15 = .ok (.iload 4, 2) := by decide +kernel
theorem dX3_restAt_17 : decode cX3_restAt 17 = .ok (.if_icmp .ge 76, 3) := by decide +kernel
theorem dX3_restAt_20 : decode cX3_restAt 20 = .ok (.aload_n 3, 1) := by decide +kernel
theorem dX3_restAt_21 : decode cX3_restAt 21 = .ok (.iload 5, 2) := by decide +kernel
theorem dX3_restAt_23 : decode cX3_restAt 23 = .ok (.iaload, 1) := by decide +kernel
theorem dX3_restAt_24 : decode cX3_restAt 24 = .ok (.istore 6, 2) := by decide +kernel
theorem dX3_restAt_26 : decode cX3_restAt 26 = .ok (.getstatic 104, 3) := by decide +kernel
theorem dX3_restAt_29 : decode cX3_restAt 29 = .ok (.astore 7, 2) := by decide +kernel
theorem dX3_restAt_31 : decode cX3_restAt 31 = .ok (.aload 7, 2) := by decide +kernel
theorem dX3_restAt_33 : decode cX3_restAt 33 = .ok (.arraylength, 1) := by decide +kernel
theorem dX3_restAt_34 : decode cX3_restAt 34 = .ok (.istore 8, 2) := by decide +kernel
theorem dX3_restAt_36 : decode cX3_restAt 36 = .ok (.iconst 0, 1) := by decide +kernel
theorem dX3_restAt_37 : decode cX3_restAt 37 = .ok (.istore 9, 2) := by decide +kernel
theorem dX3_restAt_39 : decode cX3_restAt 39 = .ok (.iload 9, 2) := by decide +kernel
theorem dX3_restAt_41 : decode cX3_restAt 41 = .ok (.iload 8, 2) := by decide +kernel
theorem dX3_restAt_43 : decode cX3_restAt 43 = .ok (.if_icmp .ge 44, 3) := by decide +kernel
theorem dX3_restAt_46 : decode cX3_restAt 46 = .ok (.aload 7, 2) := by decide +kernel
theorem dX3_restAt_48 : decode cX3_restAt 48 = .ok (.iload 9, 2) := by decide +kernel
theorem dX3_restAt_50 : decode cX3_restAt 50 = .ok (.iaload, 1) := by decide +kernel
theorem dX3_restAt_51 : decode cX3_restAt 51 = .ok (.istore 10, 2) := by decide +kernel
theorem dX3_restAt_53 : decode cX3_restAt 53 = .ok (.aload_n 0, 1) := by decide +kernel
theorem dX3_restAt_54 : decode cX3_restAt 54 = .ok (.iload 6, 2) := by decide +kernel
theorem dX3_restAt_56 : decode cX3_restAt 56 = .ok (.iload 10, 2) := by decide +kernel
theorem dX3_restAt_58 : decode cX3_restAt 58 = .ok (.invokevirtual 107, 3) := by decide +kernel
theorem dX3_restAt_61 : decode cX3_restAt 61 = .ok (.ifCond .eq 20, 3) := by decide +kernel
theorem dX3_restAt_64 : decode cX3_restAt 64 = .ok (.iload_n 2, 1) := by decide +kernel
theorem dX3_restAt_65 : decode cX3_restAt 65 = .ok (.iload_n 1, 1) := by decide +kernel
theorem dX3_restAt_66 : decode cX3_restAt 66 = .ok (.if_icmp .ne 12, 3) := by decide +kernel
theorem dX3_restAt_69 : decode cX3_restAt 69 = .ok (.bipush 10, 2) := by decide +kernel
theorem dX3_restAt_71 : decode cX3_restAt 71 = .ok (.iload 6, 2) := by decide +kernel
theorem dX3_restAt_73 : decode cX3_restAt 73 = .ok (.imul, 1) := by decide +kernel
theorem dX3_restAt_74 : decode cX3_restAt 74 = .ok (.iload 10, 2) := by decide +kernel
theorem dX3_restAt_76 : decode cX3_restAt 76 = .ok (.iadd, 1) := by decide +kernel
theorem dX3_restAt_77 : decode cX3_restAt 77 = .ok (.ireturn, 1) := by decide +kernel
theorem dX3_restAt_78 : decode cX3_restAt 78 = .ok (.iinc 2 1, 3) := by decide +kernel
theorem dX3_restAt_81 : decode cX3_restAt 81 = .ok (.iinc 9 1, 3) := by decide +kernel
theorem dX3_restAt_84 : decode cX3_restAt 84 = .ok (.goto (-45), 3) := by decide +kernel
theorem dX3_restAt_87 : decode cX3_restAt 87 = .ok (.iinc 5 1, 3) := by decide +kernel
theorem dX3_restAt_90 : decode cX3_restAt 90 = .ok (.goto (-77), 3) := by decide +kernel
theorem dX3_restAt_93 : decode cX3_restAt 93 = .ok (.iload_n 1, 1) := by decide +kernel
theorem dX3_restAt_94 : decode cX3_restAt 94 = .ok (.iconst (-1), 1) := by decide +kernel
theorem dX3_restAt_95 : decode cX3_restAt 95 = .ok (.if_icmp .ne 7, 3) := by decide +kernel
theorem dX3_restAt_98 : decode cX3_restAt 98 = .ok (.iload_n 2, 1) := by decide +kernel
theorem dX3_restAt_99 : decode cX3_restAt 99 = .ok (.goto 4, 3) := by decide +kernel
theorem dX3_restAt_102 : decode cX3_restAt 102 = .ok (.iconst (-1), 1) := by decide +kernel
theorem dX3_restAt_103 : decode cX3_restAt 103 = .ok (.ireturn, 1) := by decide +kernel
theorem dX3_isRest_0 : decode cX3_isRest 0 = .ok (.getstatic 104, 3) := by decide +kernel
theorem dX3_isRest_3 : decode cX3_isRest 3 = .ok (.astore_n 3, 1) := by decide +kernel
theorem dX3_isRest_4 : decode cX3_isRest 4 = .ok (.aload_n 3, 1) := by decide +kernel
theorem dX3_isRest_5 : decode cX3_isRest 5 = .ok (.arraylength, 1) := by decide +kernel
theorem dX3_isRest_6 : decode cX3_isRest 6 = .ok (.istore 4, 2) := by decide +kernel
theorem dX3_isRest_8 : decode cX3_isRest 8 = .ok (.iconst 0, 1) := by decide +kernel
theorem dX3_isRest_9 : decode cX3_isRest 9 = .ok (.istore 5, 2) := by decide +kernel
theorem dX3_isRest_11 : decode cX3_isRest 11 = .ok (.iload 5, 2) := by decide +kernel
theorem dX3_isRest_13 : decode cX3_isRest 13 = .ok (.iload 4, 2) := by decide +kernel
theorem dX3_isRest_15 : decode cX3_isRest 15 = .ok (.if_icmp .ge 49, 3) := by decide +kernel
theorem dX3_isRest_18 : decode cX3_isRest 18 = .ok (.aload_n 3, 1) := by decide +kernel
theorem dX3_isRest_19 : decode cX3_isRest 19 = .ok (.iload 5, 2) := by decide +kernel
theorem dX3_isRest_21 : decode cX3_isRest 21 = .ok (.iaload, 1) := by decide +kernel
theorem dX3_isRest_22 : decode cX3_isRest 22 = .ok (.istore 6, 2) := by decide +kernel
theorem dX3_isRest_24 : decode cX3_isRest 24 = .ok (.aload_n 0, 1) := by decide +kernel
theorem dX3_isRest_25 : decode cX3_isRest 25 = .ok (.iload 6, 2) := by decide +kernel
theorem dX3_isRest_27 : decode cX3_isRest 27 = .ok (.iload_n 2, 1) := by decide +kernel
theorem dX3_isRest_28 : decode cX3_isRest 28 = .ok (.invokevirtual 110, 3) := by decide +kernel
theorem dX3_isRest_31 : decode cX3_isRest 31 = .ok (.aload_n 0, 1) := by decide +kernel
theorem dX3_isRest_32 : decode cX3_isRest 32 = .ok (.iload_n 1, 1) := by decide +kernel
theorem dX3_isRest_33 : decode cX3_isRest 33 = .ok (.iload_n 2, 1) := by decide +kernel
theorem dX3_isRest_34 : decode cX3_isRest 34 = .ok (.invokevirtual 110, 3) := by decide +kernel
theorem dX3_isRest_37 : decode cX3_isRest 37 = .ok (.if_icmp .gt 19, 3) := by decide +kernel
theorem dX3_isRest_40 : decode cX3_isRest 40 = .ok (.aload_n 0, 1) := by decide +kernel
theorem dX3_isRest_41 : decode cX3_isRest 41 = .ok (.iload_n 1, 1) := by decide +kernel
theorem dX3_isRest_42 : decode cX3_isRest 42 = .ok (.iload 6, 2) := by decide +kernel
theorem dX3_isRest_44 : decode cX3_isRest 44 = .ok (.invokevirtual 113, 3) := by decide +kernel
theorem dX3_isRest_47 : decode cX3_isRest 47 = .ok (.aload_n 0, 1) := by decide +kernel
theorem dX3_isRest_48 : decode cX3_isRest 48 = .ok (.iload_n 1, 1) := by decide +kernel
theorem dX3_isRest_49 : decode cX3_isRest 49 = .ok (.iload_n 2, 1) := by decide +kernel
theorem dX3_isRest_50 : decode cX3_isRest 50 = .ok (.invokevirtual 113, 3) := by decide +kernel
theorem dX3_isRest_53 : decode cX3_isRest 53 = .ok (.if_icmp .le 5, 3) := by decide +kernel
theorem dX3_isRest_56 : decode cX3_isRest 56 = .ok (.iconst 0, 1) := by decide +kernel
theorem dX3_isRest_57 : decode cX3_isRest 57 = .ok (.ireturn, 1) := by decide +kernel
theorem dX3_isRest_58 : decode cX3_isRest 58 = .ok (.iinc 5 1, 3) := by decide +kernel
theorem dX3_isRest_61 : decode cX3_isRest 61 = .ok (.goto (-50), 3) := by decide +kernel
theorem dX3_isRest_64 : decode cX3_isRest 64 = .ok (.iconst 1, 1) := by decide +kernel
theorem dX3_isRest_65 : decode cX3_isRest 65 = .ok (.ireturn, 1) := by decide +kernel
theorem dX3_firstToFail_0 : decode cX3_firstToFail 0 = .ok (.iconst (-1), 1) := by decide +kernel
theorem dX3_firstToFail_1 : decode cX3_firstToFail 1 = .ok (.istore_n 1, 1) := by decide +kernel
theorem dX3_firstToFail_2 : decode cX3_firstToFail 2 = .ok (.sipush 201, 3) := by decide +kernel
theorem dX3_firstToFail_5 : decode cX3_firstToFail 5 = .ok (.istore_n 2, 1) := by decide +kernel
theorem dX3_firstToFail_6 : decode cX3_firstToFail 6 = .ok (.iconst 0, 1) := by decide +kernel
theorem dX3_firstToFail_7 : decode cX3_firstToFail 7 = .ok (.istore_n 3, 1) := by decide +kernel
theorem dX3_firstToFail_8 : decode cX3_firstToFail 8 = .ok (.iload_n 3, 1) := by decide +kernel
theorem dX3_firstToFail_9 : decode cX3_firstToFail 9 = .ok (.aload_n 0, 1) := by decide +kernel
theorem dX3_firstToFail_10 : decode cX3_firstToFail 10 = .ok (.getfield 9, 3) := by decide +kernel
theorem dX3_firstToFail_13 : decode cX3_firstToFail 13 = .ok (.invokevirtual 116, 3) := by decide +kernel
theorem dX3_firstToFail_16 : decode cX3_firstToFail 16 = .ok (.if_icmp .ge 33, 3) := by decide +kernel
theorem dX3_firstToFail_19 : decode cX3_firstToFail 19 = .ok (.aload_n 0, 1) := by decide +kernel
theorem dX3_firstToFail_20 : decode cX3_firstToFail 20 = .ok (.iload_n 3, 1) := by decide +kernel
theorem dX3_firstToFail_21 : decode cX3_firstToFail 21 = .ok (.invokevirtual 119, 3) := by decide +kernel
theorem dX3_firstToFail_24 : decode cX3_firstToFail 24 = .ok (.istore 4, 2) := by decide +kernel
theorem dX3_firstToFail_26 : decode cX3_firstToFail 26 = .ok (.iload 4, 2) := by decide +kernel
theorem dX3_firstToFail_28 : decode cX3_firstToFail 28 = .ok (.iconst (-1), 1) := by decide +kernel
theorem dX3_firstToFail_29 : decode cX3_firstToFail 29 = .ok (.if_icmp .eq 14, 3) := by decide +kernel
theorem dX3_firstToFail_32 : decode cX3_firstToFail 32 = .ok (.iload 4, 2) := by decide +kernel
theorem dX3_firstToFail_34 : decode cX3_firstToFail 34 = .ok (.iload_n 2, 1) := by decide +kernel
theorem dX3_firstToFail_35 : decode cX3_firstToFail 35 = .ok (.if_icmp .ge 8, 3) := by decide +kernel
theorem dX3_firstToFail_38 : decode cX3_firstToFail 38 = .ok (.iload 4, 2) := by decide +kernel
theorem dX3_firstToFail_40 : decode cX3_firstToFail 40 = .ok (.istore_n 2, 1) := by decide +kernel
theorem dX3_firstToFail_41 : decode cX3_firstToFail 41 = .ok (.iload_n 3, 1) := by decide +kernel
theorem dX3_firstToFail_42 : decode cX3_firstToFail 42 = .ok (.istore_n 1, 1) := by decide +kernel
theorem dX3_firstToFail_43 : decode cX3_firstToFail 43 = .ok (.iinc 3 1, 3) := by decide +kernel
theorem dX3_firstToFail_46 : decode cX3_firstToFail 46 = .ok (.goto (-38), 3) := by decide +kernel
theorem dX3_firstToFail_49 : decode cX3_firstToFail 49 = .ok (.iload_n 1, 1) := by decide +kernel
theorem dX3_firstToFail_50 : decode cX3_firstToFail 50 = .ok (.ireturn, 1) := by decide +kernel
theorem dX3_seasonsTillFull_0 : decode cX3_seasonsTillFull 0 = .ok (.aload_n 0, 1) := by decide +kernel
theorem dX3_seasonsTillFull_1 : decode cX3_seasonsTillFull 1 = .ok (.getfield 15, 3) := by decide +kernel
theorem dX3_seasonsTillFull_4 : decode cX3_seasonsTillFull 4 = .ok (.iload_n 1, 1) := by decide +kernel
theorem dX3_seasonsTillFull_5 : decode cX3_seasonsTillFull 5 = .ok (.invokevirtual 45, 3) := by decide +kernel
theorem dX3_seasonsTillFull_8 : decode cX3_seasonsTillFull 8 = .ok (.istore_n 2, 1) := by decide +kernel
theorem dX3_seasonsTillFull_9 : decode cX3_seasonsTillFull 9 = .ok (.iconst 0, 1) := by decide +kernel
theorem dX3_seasonsTillFull_10 : decode cX3_seasonsTillFull 10 = .ok (.istore_n 3, 1) := by decide +kernel
theorem dX3_seasonsTillFull_11 : decode cX3_seasonsTillFull 11 = .ok (.iload_n 3, 1) := by decide +kernel
theorem dX3_seasonsTillFull_12 : decode cX3_seasonsTillFull 12 = .ok (.sipush 200, 3) := by decide +kernel
theorem dX3_seasonsTillFull_15 : decode cX3_seasonsTillFull 15 = .ok (.if_icmp .gt 51, 3) := by decide +kernel
theorem dX3_seasonsTillFull_18 : decode cX3_seasonsTillFull 18 = .ok (.iload_n 2, 1) := by decide +kernel
theorem dX3_seasonsTillFull_19 : decode cX3_seasonsTillFull 19 = .ok (.bipush 99, 2) := by decide +kernel
theorem dX3_seasonsTillFull_21 : decode cX3_seasonsTillFull 21 = .ok (.if_icmp .lt 5, 3) := by decide +kernel
theorem dX3_seasonsTillFull_24 : decode cX3_seasonsTillFull 24 = .ok (.iload_n 3, 1) := by decide +kernel
theorem dX3_seasonsTillFull_25 : decode cX3_seasonsTillFull 25 = .ok (.ireturn, 1) := by decide +kernel
theorem dX3_seasonsTillFull_26 : decode cX3_seasonsTillFull 26 = .ok (.aload_n 0, 1) := by decide +kernel
theorem dX3_seasonsTillFull_27 : decode cX3_seasonsTillFull 27 = .ok (.getfield 15, 3) := by decide +kernel
theorem dX3_seasonsTillFull_30 : decode cX3_seasonsTillFull 30 = .ok (.invokevirtual 122, 3) := by decide +kernel
theorem dX3_seasonsTillFull_33 : decode cX3_seasonsTillFull 33 = .ok (.iload_n 3, 1) := by decide +kernel
theorem dX3_seasonsTillFull_34 : decode cX3_seasonsTillFull 34 = .ok (.iadd, 1) := by decide +kernel
theorem dX3_seasonsTillFull_35 : decode cX3_seasonsTillFull 35 = .ok (.iconst 4, 1) := by decide +kernel
theorem dX3_seasonsTillFull_36 : decode cX3_seasonsTillFull 36 = .ok (.irem, 1) := by decide +kernel
theorem dX3_seasonsTillFull_37 : decode cX3_seasonsTillFull 37 = .ok (.iconst 3, 1) := by decide +kernel
theorem dX3_seasonsTillFull_38 : decode cX3_seasonsTillFull 38 = .ok (.if_icmp .ne 7, 3) := by decide +kernel
theorem dX3_seasonsTillFull_41 : decode cX3_seasonsTillFull 41 = .ok (.iconst 1, 1) := by decide +kernel
theorem dX3_seasonsTillFull_42 : decode cX3_seasonsTillFull 42 = .ok (.goto 4, 3) := by decide +kernel
theorem dX3_seasonsTillFull_45 : decode cX3_seasonsTillFull 45 = .ok (.iconst 0, 1) := by decide +kernel
theorem dX3_seasonsTillFull_46 : decode cX3_seasonsTillFull 46 = .ok (.istore 4, 2) := by decide +kernel
theorem dX3_seasonsTillFull_48 : decode cX3_seasonsTillFull 48 = .ok (.aload_n 0, 1) := by decide +kernel
theorem dX3_seasonsTillFull_49 : decode cX3_seasonsTillFull 49 = .ok (.getfield 19, 3) := by decide +kernel
theorem dX3_seasonsTillFull_52 : decode cX3_seasonsTillFull 52 = .ok (.iload_n 1, 1) := by decide +kernel
theorem dX3_seasonsTillFull_53 : decode cX3_seasonsTillFull 53 = .ok (.iload_n 2, 1) := by decide +kernel
theorem dX3_seasonsTillFull_54 : decode cX3_seasonsTillFull 54 = .ok (.iload 4, 2) := by decide +kernel
theorem dX3_seasonsTillFull_56 : decode cX3_seasonsTillFull 56 = .ok (.invokevirtual 125, 3) := by decide +kernel
theorem dX3_seasonsTillFull_59 : decode cX3_seasonsTillFull 59 = .ok (.istore_n 2, 1) := by decide +kernel
theorem dX3_seasonsTillFull_60 : decode cX3_seasonsTillFull 60 = .ok (.iinc 3 1, 3) := by decide +kernel
theorem dX3_seasonsTillFull_63 : decode cX3_seasonsTillFull 63 = .ok (.goto (-52), 3) := by decide +kernel
theorem dX3_seasonsTillFull_66 : decode cX3_seasonsTillFull 66 = .ok (.iconst (-1), 1) := by decide +kernel
theorem dX3_seasonsTillFull_67 : decode cX3_seasonsTillFull 67 = .ok (.ireturn, 1) := by decide +kernel
theorem dX3_badParts_0 : decode cX3_badParts 0 = .ok (.aload_n 0, 1) := by decide +kernel
theorem dX3_badParts_1 : decode cX3_badParts 1 = .ok (.getfield 36, 3) := by decide +kernel
theorem dX3_badParts_4 : decode cX3_badParts 4 = .ok (.iconst 0, 1) := by decide +kernel
theorem dX3_badParts_5 : decode cX3_badParts 5 = .ok (.invokestatic 79, 3) := by decide +kernel
theorem dX3_badParts_8 : decode cX3_badParts 8 = .ok (.aload_n 0, 1) := by decide +kernel
theorem dX3_badParts_9 : decode cX3_badParts 9 = .ok (.getfield 36, 3) := by decide +kernel
theorem dX3_badParts_12 : decode cX3_badParts 12 = .ok (.aload_n 0, 1) := by decide +kernel
theorem dX3_badParts_13 : decode cX3_badParts 13 = .ok (.getfield 15, 3) := by decide +kernel
theorem dX3_badParts_16 : decode cX3_badParts 16 = .ok (.iload_n 1, 1) := by decide +kernel
theorem dX3_badParts_17 : decode cX3_badParts 17 = .ok (.invokevirtual 45, 3) := by decide +kernel
theorem dX3_badParts_20 : decode cX3_badParts 20 = .ok (.ldc 129, 2) := by decide +kernel
theorem dX3_badParts_22 : decode cX3_badParts 22 = .ok (.iastore, 1) := by decide +kernel
theorem dX3_badParts_23 : decode cX3_badParts 23 = .ok (.iconst 0, 1) := by decide +kernel
theorem dX3_badParts_24 : decode cX3_badParts 24 = .ok (.istore 4, 2) := by decide +kernel
theorem dX3_badParts_26 : decode cX3_badParts 26 = .ok (.iload 4, 2) := by decide +kernel
theorem dX3_badParts_28 : decode cX3_badParts 28 = .ok (.iload_n 2, 1) := by decide +kernel
theorem dX3_badParts_29 : decode cX3_badParts 29 = .ok (.if_icmp .ge 15, 3) := by decide +kernel
theorem dX3_badParts_32 : decode cX3_badParts 32 = .ok (.aload_n 0, 1) := by decide +kernel
theorem dX3_badParts_33 : decode cX3_badParts 33 = .ok (.iload_n 1, 1) := by decide +kernel
theorem dX3_badParts_34 : decode cX3_badParts 34 = .ok (.iload_n 3, 1) := by decide +kernel
theorem dX3_badParts_35 : decode cX3_badParts 35 = .ok (.invokevirtual 130, 3) := by decide +kernel
theorem dX3_badParts_38 : decode cX3_badParts 38 = .ok (.iinc 4 1, 3) := by decide +kernel
theorem dX3_badParts_41 : decode cX3_badParts 41 = .ok (.goto (-15), 3) := by decide +kernel
theorem dX3_badParts_44 : decode cX3_badParts 44 = .ok (.iconst 0, 1) := by decide +kernel
theorem dX3_badParts_45 : decode cX3_badParts 45 = .ok (.istore 4, 2) := by decide +kernel
theorem dX3_badParts_47 : decode cX3_badParts 47 = .ok (.bipush 60, 2) := by decide +kernel
theorem dX3_badParts_49 : decode cX3_badParts 49 = .ok (.istore 5, 2) := by decide +kernel
theorem dX3_badParts_51 : decode cX3_badParts 51 = .ok (.iload 5, 2) := by decide +kernel
theorem dX3_badParts_53 : decode cX3_badParts 53 = .ok (.bipush 100, 2) := by decide +kernel
theorem dX3_badParts_55 : decode cX3_badParts 55 = .ok (.if_icmp .ge 21, 3) := by decide +kernel
theorem dX3_badParts_58 : decode cX3_badParts 58 = .ok (.iload 4, 2) := by decide +kernel
theorem dX3_badParts_60 : decode cX3_badParts 60 = .ok (.aload_n 0, 1) := by decide +kernel
theorem dX3_badParts_61 : decode cX3_badParts 61 = .ok (.getfield 36, 3) := by decide +kernel
theorem dX3_badParts_64 : decode cX3_badParts 64 = .ok (.iload 5, 2) := by decide +kernel
theorem dX3_badParts_66 : decode cX3_badParts 66 = .ok (.iaload, 1) := by decide +kernel
theorem dX3_badParts_67 : decode cX3_badParts 67 = .ok (.iadd, 1) := by decide +kernel
theorem dX3_badParts_68 : decode cX3_badParts 68 = .ok (.istore 4, 2) := by decide +kernel
theorem dX3_badParts_70 : decode cX3_badParts 70 = .ok (.iinc 5 1, 3) := by decide +kernel
theorem dX3_badParts_73 : decode cX3_badParts 73 = .ok (.goto (-22), 3) := by decide +kernel
theorem dX3_badParts_76 : decode cX3_badParts 76 = .ok (.iload 4, 2) := by decide +kernel
theorem dX3_badParts_78 : decode cX3_badParts 78 = .ok (.ireturn, 1) := by decide +kernel
theorem dX3_spreadParts_0 : decode cX3_spreadParts 0 = .ok (.bipush 99, 2) := by decide +kernel
theorem dX3_spreadParts_2 : decode cX3_spreadParts 2 = .ok (.istore_n 3, 1) := by decide +kernel
theorem dX3_spreadParts_3 : decode cX3_spreadParts 3 = .ok (.iload_n 3, 1) := by decide +kernel
theorem dX3_spreadParts_4 : decode cX3_spreadParts 4 = .ok (.ifCond .lt 80, 3) := by decide +kernel
theorem dX3_spreadParts_7 : decode cX3_spreadParts 7 = .ok (.aload_n 0, 1) := by decide +kernel
theorem dX3_spreadParts_8 : decode cX3_spreadParts 8 = .ok (.getfield 36, 3) := by decide +kernel
theorem dX3_spreadParts_11 : decode cX3_spreadParts 11 = .ok (.iload_n 3, 1) := by decide +kernel
theorem dX3_spreadParts_12 : decode cX3_spreadParts 12 = .ok (.iaload, 1) := by decide +kernel
theorem dX3_spreadParts_13 : decode cX3_spreadParts 13 = .ok (.istore 4, 2) := by decide +kernel
theorem dX3_spreadParts_15 : decode cX3_spreadParts 15 = .ok (.iload 4, 2) := by decide +kernel
theorem dX3_spreadParts_17 : decode cX3_spreadParts 17 = .ok (.i2l, 1) := by decide +kernel
theorem dX3_spreadParts_18 : decode cX3_spreadParts 18 = .ok (.iload_n 2, 1) := by decide +kernel
theorem dX3_spreadParts_19 : decode cX3_spreadParts 19 = .ok (.i2l, 1) := by decide +kernel
theorem dX3_spreadParts_20 : decode cX3_spreadParts 20 = .ok (.lmul, 1) := by decide +kernel
theorem dX3_spreadParts_21 : decode cX3_spreadParts 21 = .ok (.ldc2_w 133, 3) := by decide +kernel
theorem dX3_spreadParts_24 : decode cX3_spreadParts 24 = .ok (.ldiv, 1) := by decide +kernel
theorem dX3_spreadParts_25 : decode cX3_spreadParts 25 = .ok (.l2i, 1) := by decide +kernel
theorem dX3_spreadParts_26 : decode cX3_spreadParts 26 = .ok (.istore 5, 2) := by decide +kernel
theorem dX3_spreadParts_28 : decode cX3_spreadParts 28 = .ok (.aload_n 0, 1) := by decide +kernel
theorem dX3_spreadParts_29 : decode cX3_spreadParts 29 = .ok (.getfield 36, 3) := by decide +kernel
theorem dX3_spreadParts_32 : decode cX3_spreadParts 32 = .ok (.iload_n 3, 1) := by decide +kernel
theorem dX3_spreadParts_33 : decode cX3_spreadParts 33 = .ok (.iconst 0, 1) := by decide +kernel
theorem dX3_spreadParts_34 : decode cX3_spreadParts 34 = .ok (.iastore, 1) := by decide +kernel
theorem dX3_spreadParts_35 : decode cX3_spreadParts 35 = .ok (.aload_n 0, 1) := by decide +kernel
theorem dX3_spreadParts_36 : decode cX3_spreadParts 36 = .ok (.getfield 36, 3) := by decide +kernel
theorem dX3_spreadParts_39 : decode cX3_spreadParts 39 = .ok (.aload_n 0, 1) := by decide +kernel
theorem dX3_spreadParts_40 : decode cX3_spreadParts 40 = .ok (.getfield 19, 3) := by decide +kernel
theorem dX3_spreadParts_43 : decode cX3_spreadParts 43 = .ok (.iload_n 1, 1) := by decide +kernel
theorem dX3_spreadParts_44 : decode cX3_spreadParts 44 = .ok (.iload_n 3, 1) := by decide +kernel
theorem dX3_spreadParts_45 : decode cX3_spreadParts 45 = .ok (.iconst 1, 1) := by decide +kernel
theorem dX3_spreadParts_46 : decode cX3_spreadParts 46 = .ok (.invokevirtual 125, 3) := by decide +kernel
theorem dX3_spreadParts_49 : decode cX3_spreadParts 49 = .ok (.dup2, 1) := by decide +kernel
theorem dX3_spreadParts_50 : decode cX3_spreadParts 50 = .ok (.iaload, 1) := by decide +kernel
theorem dX3_spreadParts_51 : decode cX3_spreadParts 51 = .ok (.iload 5, 2) := by decide +kernel
theorem dX3_spreadParts_53 : decode cX3_spreadParts 53 = .ok (.iadd, 1) := by decide +kernel
theorem dX3_spreadParts_54 : decode cX3_spreadParts 54 = .ok (.iastore, 1) := by decide +kernel
theorem dX3_spreadParts_55 : decode cX3_spreadParts 55 = .ok (.aload_n 0, 1) := by decide +kernel
theorem dX3_spreadParts_56 : decode cX3_spreadParts 56 = .ok (.getfield 36, 3) := by decide +kernel
theorem dX3_spreadParts_59 : decode cX3_spreadParts 59 = .ok (.aload_n 0, 1) := by decide +kernel
theorem dX3_spreadParts_60 : decode cX3_spreadParts 60 = .ok (.getfield 19, 3) := by decide +kernel
theorem dX3_spreadParts_63 : decode cX3_spreadParts 63 = .ok (.iload_n 1, 1) := by decide +kernel
theorem dX3_spreadParts_64 : decode cX3_spreadParts 64 = .ok (.iload_n 3, 1) := by decide +kernel
theorem dX3_spreadParts_65 : decode cX3_spreadParts 65 = .ok (.iconst 0, 1) := by decide +kernel
theorem dX3_spreadParts_66 : decode cX3_spreadParts 66 = .ok (.invokevirtual 125, 3) := by decide +kernel
theorem dX3_spreadParts_69 : decode cX3_spreadParts 69 = .ok (.dup2, 1) := by decide +kernel
theorem dX3_spreadParts_70 : decode cX3_spreadParts 70 = .ok (.iaload, 1) := by decide +kernel
theorem dX3_spreadParts_71 : decode cX3_spreadParts 71 = .ok (.iload 4, 2) := by decide +kernel
theorem dX3_spreadParts_73 : decode cX3_spreadParts 73 = .ok (.iload 5, 2) := by decide +kernel
theorem dX3_spreadParts_75 : decode cX3_spreadParts 75 = .ok (.isub, 1) := by decide +kernel
theorem dX3_spreadParts_76 : decode cX3_spreadParts 76 = .ok (.iadd, 1) := by decide +kernel
theorem dX3_spreadParts_77 : decode cX3_spreadParts 77 = .ok (.iastore, 1) := by decide +kernel
theorem dX3_spreadParts_78 : decode cX3_spreadParts 78 = .ok (.iinc 3 (-1), 3) := by decide +kernel
theorem dX3_spreadParts_81 : decode cX3_spreadParts 81 = .ok (.goto (-78), 3) := by decide +kernel
theorem dX3_spreadParts_84 : decode cX3_spreadParts 84 = .ok (.return_, 1) := by decide +kernel
theorem dX7_spreadFrom_0 : decode cX7_spreadFrom 0 = .ok (.aload_n 0, 1) := by decide +kernel
theorem dX7_spreadFrom_1 : decode cX7_spreadFrom 1 = .ok (.getfield 19, 3) := by decide +kernel
theorem dX7_spreadFrom_4 : decode cX7_spreadFrom 4 = .ok (.ldc 23, 2) := by decide +kernel
theorem dX7_spreadFrom_6 : decode cX7_spreadFrom 6 = .ok (.invokestatic 24, 3) := by decide +kernel
theorem dX7_spreadFrom_9 : decode cX7_spreadFrom 9 = .ok (.iload_n 1, 1) := by decide +kernel
theorem dX7_spreadFrom_10 : decode cX7_spreadFrom 10 = .ok (.ifCond .lt 16, 3) := by decide +kernel
theorem dX7_spreadFrom_13 : decode cX7_spreadFrom 13 = .ok (.iload_n 1, 1) := by decide +kernel
theorem dX7_spreadFrom_14 : decode cX7_spreadFrom 14 = .ok (.bipush 8, 2) := by decide +kernel
theorem dX7_spreadFrom_16 : decode cX7_spreadFrom 16 = .ok (.if_icmp .ge 10, 3) := by decide +kernel
theorem dX7_spreadFrom_19 : decode cX7_spreadFrom 19 = .ok (.aload_n 0, 1) := by decide +kernel
theorem dX7_spreadFrom_20 : decode cX7_spreadFrom 20 = .ok (.getfield 19, 3) := by decide +kernel
theorem dX7_spreadFrom_23 : decode cX7_spreadFrom 23 = .ok (.iload_n 1, 1) := by decide +kernel
theorem dX7_spreadFrom_24 : decode cX7_spreadFrom 24 = .ok (.iconst 0, 1) := by decide +kernel
theorem dX7_spreadFrom_25 : decode cX7_spreadFrom 25 = .ok (.iastore, 1) := by decide +kernel
theorem dX7_spreadFrom_26 : decode cX7_spreadFrom 26 = .ok (.iconst 1, 1) := by decide +kernel
theorem dX7_spreadFrom_27 : decode cX7_spreadFrom 27 = .ok (.istore_n 2, 1) := by decide +kernel
theorem dX7_spreadFrom_28 : decode cX7_spreadFrom 28 = .ok (.iload_n 2, 1) := by decide +kernel
theorem dX7_spreadFrom_29 : decode cX7_spreadFrom 29 = .ok (.bipush 8, 2) := by decide +kernel
theorem dX7_spreadFrom_31 : decode cX7_spreadFrom 31 = .ok (.if_icmp .ge 122, 3) := by decide +kernel
theorem dX7_spreadFrom_34 : decode cX7_spreadFrom 34 = .ok (.iconst 0, 1) := by decide +kernel
theorem dX7_spreadFrom_35 : decode cX7_spreadFrom 35 = .ok (.istore_n 3, 1) := by decide +kernel
theorem dX7_spreadFrom_36 : decode cX7_spreadFrom 36 = .ok (.iload_n 3, 1) := by decide +kernel
theorem dX7_spreadFrom_37 : decode cX7_spreadFrom 37 = .ok (.aload_n 0, 1) := by decide +kernel
theorem dX7_spreadFrom_38 : decode cX7_spreadFrom 38 = .ok (.getfield 9, 3) := by decide +kernel
theorem dX7_spreadFrom_41 : decode cX7_spreadFrom 41 = .ok (.invokevirtual 30, 3) := by decide +kernel
theorem dX7_spreadFrom_44 : decode cX7_spreadFrom 44 = .ok (.if_icmp .ge 103, 3) := by decide +kernel
theorem dX7_spreadFrom_47 : decode cX7_spreadFrom 47 = .ok (.aload_n 0, 1) := by decide +kernel
theorem dX7_spreadFrom_48 : decode cX7_spreadFrom 48 = .ok (.getfield 15, 3) := by decide +kernel
theorem dX7_spreadFrom_51 : decode cX7_spreadFrom 51 = .ok (.iload_n 3, 1) := by decide +kernel
theorem dX7_spreadFrom_52 : decode cX7_spreadFrom 52 = .ok (.invokevirtual 36, 3) := by decide +kernel
theorem dX7_spreadFrom_55 : decode cX7_spreadFrom 55 = .ok (.sipush 512, 3) := by decide +kernel
theorem dX7_spreadFrom_58 : decode cX7_spreadFrom 58 = .ok (.imul, 1) := by decide +kernel
theorem dX7_spreadFrom_59 : decode cX7_spreadFrom 59 = .ok (.iconst 1, 1) := by decide +kernel
theorem dX7_spreadFrom_60 : decode cX7_spreadFrom 60 = .ok (.iload_n 3, 1) := by decide +kernel
theorem dX7_spreadFrom_61 : decode cX7_spreadFrom 61 = .ok (.ishl, 1) := by decide +kernel
theorem dX7_spreadFrom_62 : decode cX7_spreadFrom 62 = .ok (.iadd, 1) := by decide +kernel
theorem dX7_spreadFrom_63 : decode cX7_spreadFrom 63 = .ok (.istore 4, 2) := by decide +kernel
theorem dX7_spreadFrom_65 : decode cX7_spreadFrom 65 = .ok (.aload_n 0, 1) := by decide +kernel
theorem dX7_spreadFrom_66 : decode cX7_spreadFrom 66 = .ok (.getfield 9, 3) := by decide +kernel
theorem dX7_spreadFrom_69 : decode cX7_spreadFrom 69 = .ok (.iload_n 3, 1) := by decide +kernel
theorem dX7_spreadFrom_70 : decode cX7_spreadFrom 70 = .ok (.iconst 0, 1) := by decide +kernel
theorem dX7_spreadFrom_71 : decode cX7_spreadFrom 71 = .ok (.invokevirtual 42, 3) := by decide +kernel
theorem dX7_spreadFrom_74 : decode cX7_spreadFrom 74 = .ok (.istore 5, 2) := by decide +kernel
theorem dX7_spreadFrom_76 : decode cX7_spreadFrom 76 = .ok (.aload_n 0, 1) := by decide +kernel
theorem dX7_spreadFrom_77 : decode cX7_spreadFrom 77 = .ok (.getfield 9, 3) := by decide +kernel
theorem dX7_spreadFrom_80 : decode cX7_spreadFrom 80 = .ok (.iload_n 3, 1) := by decide +kernel
theorem dX7_spreadFrom_81 : decode cX7_spreadFrom 81 = .ok (.iconst 1, 1) := by decide +kernel
theorem dX7_spreadFrom_82 : decode cX7_spreadFrom 82 = .ok (.invokevirtual 42, 3) := by decide +kernel
theorem dX7_spreadFrom_85 : decode cX7_spreadFrom 85 = .ok (.istore 6, 2) := by decide +kernel
theorem dX7_spreadFrom_87 : decode cX7_spreadFrom 87 = .ok (.aload_n 0, 1) := by decide +kernel
theorem dX7_spreadFrom_88 : decode cX7_spreadFrom 88 = .ok (.getfield 19, 3) := by decide +kernel
theorem dX7_spreadFrom_91 : decode cX7_spreadFrom 91 = .ok (.iload 5, 2) := by decide +kernel
theorem dX7_spreadFrom_93 : decode cX7_spreadFrom 93 = .ok (.aload_n 0, 1) := by decide +kernel
theorem dX7_spreadFrom_94 : decode cX7_spreadFrom 94 = .ok (.getfield 19, 3) := by decide +kernel
theorem dX7_spreadFrom_97 : decode cX7_spreadFrom 97 = .ok (.iload 5, 2) := by decide +kernel
theorem dX7_spreadFrom_99 : decode cX7_spreadFrom 99 = .ok (.iaload, 1) := by decide +kernel
theorem dX7_spreadFrom_100 : decode cX7_spreadFrom 100 = .ok (.aload_n 0, 1) := by decide +kernel
theorem dX7_spreadFrom_101 : decode cX7_spreadFrom 101 = .ok (.getfield 19, 3) := by decide +kernel
theorem dX7_spreadFrom_104 : decode cX7_spreadFrom 104 = .ok (.iload 6, 2) := by decide +kernel
theorem dX7_spreadFrom_106 : decode cX7_spreadFrom 106 = .ok (.iaload, 1) := by decide +kernel
theorem dX7_spreadFrom_107 : decode cX7_spreadFrom 107 = .ok (.iload 4, 2) := by decide +kernel
theorem dX7_spreadFrom_109 : decode cX7_spreadFrom 109 = .ok (.iadd, 1) := by decide +kernel
theorem dX7_spreadFrom_110 : decode cX7_spreadFrom 110 = .ok (.invokestatic 46, 3) := by decide +kernel
theorem dX7_spreadFrom_113 : decode cX7_spreadFrom 113 = .ok (.iastore, 1) := by decide +kernel
theorem dX7_spreadFrom_114 : decode cX7_spreadFrom 114 = .ok (.aload_n 0, 1) := by decide +kernel
theorem dX7_spreadFrom_115 : decode cX7_spreadFrom 115 = .ok (.getfield 19, 3) := by decide +kernel
theorem dX7_spreadFrom_118 : decode cX7_spreadFrom 118 = .ok (.iload 6, 2) := by decide +kernel
theorem dX7_spreadFrom_120 : decode cX7_spreadFrom 120 = .ok (.aload_n 0, 1) := by decide +kernel
theorem dX7_spreadFrom_121 : decode cX7_spreadFrom 121 = .ok (.getfield 19, 3) := by decide +kernel
theorem dX7_spreadFrom_124 : decode cX7_spreadFrom 124 = .ok (.iload 6, 2) := by decide +kernel
theorem dX7_spreadFrom_126 : decode cX7_spreadFrom 126 = .ok (.iaload, 1) := by decide +kernel
theorem dX7_spreadFrom_127 : decode cX7_spreadFrom 127 = .ok (.aload_n 0, 1) := by decide +kernel
theorem dX7_spreadFrom_128 : decode cX7_spreadFrom 128 = .ok (.getfield 19, 3) := by decide +kernel
theorem dX7_spreadFrom_131 : decode cX7_spreadFrom 131 = .ok (.iload 5, 2) := by decide +kernel
theorem dX7_spreadFrom_133 : decode cX7_spreadFrom 133 = .ok (.iaload, 1) := by decide +kernel
theorem dX7_spreadFrom_134 : decode cX7_spreadFrom 134 = .ok (.iload 4, 2) := by decide +kernel
theorem dX7_spreadFrom_136 : decode cX7_spreadFrom 136 = .ok (.iadd, 1) := by decide +kernel
theorem dX7_spreadFrom_137 : decode cX7_spreadFrom 137 = .ok (.invokestatic 46, 3) := by decide +kernel
theorem dX7_spreadFrom_140 : decode cX7_spreadFrom 140 = .ok (.iastore, 1) := by decide +kernel
theorem dX7_spreadFrom_141 : decode cX7_spreadFrom 141 = .ok (.iinc 3 1, 3) := by decide +kernel
theorem dX7_spreadFrom_144 : decode cX7_spreadFrom 144 = .ok (.goto (-108), 3) := by decide +kernel
theorem dX7_spreadFrom_147 : decode cX7_spreadFrom 147 = .ok (.iinc 2 1, 3) := by decide +kernel
theorem dX7_spreadFrom_150 : decode cX7_spreadFrom 150 = .ok (.goto (-122), 3) := by decide +kernel
theorem dX7_spreadFrom_153 : decode cX7_spreadFrom 153 = .ok (.return_, 1) := by decide +kernel
theorem dX7_reaches_0 : decode cX7_reaches 0 = .ok (.aload_n 0, 1) := by decide +kernel
theorem dX7_reaches_1 : decode cX7_reaches 1 = .ok (.getfield 19, 3) := by decide +kernel
theorem dX7_reaches_4 : decode cX7_reaches 4 = .ok (.iload_n 1, 1) := by decide +kernel
theorem dX7_reaches_5 : decode cX7_reaches 5 = .ok (.iaload, 1) := by decide +kernel
theorem dX7_reaches_6 : decode cX7_reaches 6 = .ok (.ldc 23, 2) := by decide +kernel
theorem dX7_reaches_8 : decode cX7_reaches 8 = .ok (.if_icmp .ge 7, 3) := by decide +kernel
theorem dX7_reaches_11 : decode cX7_reaches 11 = .ok (.iconst 1, 1) := by decide +kernel
theorem dX7_reaches_12 : decode cX7_reaches 12 = .ok (.goto 4, 3) := by decide +kernel
theorem dX7_reaches_15 : decode cX7_reaches 15 = .ok (.iconst 0, 1) := by decide +kernel
theorem dX7_reaches_16 : decode cX7_reaches 16 = .ok (.ireturn, 1) := by decide +kernel
theorem dX7_wearTo_0 : decode cX7_wearTo 0 = .ok (.aload_n 0, 1) := by decide +kernel
theorem dX7_wearTo_1 : decode cX7_wearTo 1 = .ok (.getfield 19, 3) := by decide +kernel
theorem dX7_wearTo_4 : decode cX7_wearTo 4 = .ok (.iload_n 1, 1) := by decide +kernel
theorem dX7_wearTo_5 : decode cX7_wearTo 5 = .ok (.iaload, 1) := by decide +kernel
theorem dX7_wearTo_6 : decode cX7_wearTo 6 = .ok (.sipush 512, 3) := by decide +kernel
theorem dX7_wearTo_9 : decode cX7_wearTo 9 = .ok (.idiv, 1) := by decide +kernel
theorem dX7_wearTo_10 : decode cX7_wearTo 10 = .ok (.ireturn, 1) := by decide +kernel
theorem dX7_stretchesTo_0 : decode cX7_stretchesTo 0 = .ok (.aload_n 0, 1) := by decide +kernel
theorem dX7_stretchesTo_1 : decode cX7_stretchesTo 1 = .ok (.getfield 19, 3) := by decide +kernel
theorem dX7_stretchesTo_4 : decode cX7_stretchesTo 4 = .ok (.iload_n 1, 1) := by decide +kernel
theorem dX7_stretchesTo_5 : decode cX7_stretchesTo 5 = .ok (.iaload, 1) := by decide +kernel
theorem dX7_stretchesTo_6 : decode cX7_stretchesTo 6 = .ok (.sipush 512, 3) := by decide +kernel
theorem dX7_stretchesTo_9 : decode cX7_stretchesTo 9 = .ok (.irem, 1) := by decide +kernel
theorem dX7_stretchesTo_10 : decode cX7_stretchesTo 10 = .ok (.ireturn, 1) := by decide +kernel
theorem dX7_roadOf_0 : decode cX7_roadOf 0 = .ok (.aload_n 0, 1) := by decide +kernel
theorem dX7_roadOf_1 : decode cX7_roadOf 1 = .ok (.getfield 9, 3) := by decide +kernel
theorem dX7_roadOf_4 : decode cX7_roadOf 4 = .ok (.iload_n 1, 1) := by decide +kernel
theorem dX7_roadOf_5 : decode cX7_roadOf 5 = .ok (.iconst 0, 1) := by decide +kernel
theorem dX7_roadOf_6 : decode cX7_roadOf 6 = .ok (.invokevirtual 51, 3) := by decide +kernel
theorem dX7_roadOf_9 : decode cX7_roadOf 9 = .ok (.istore_n 2, 1) := by decide +kernel
theorem dX7_roadOf_10 : decode cX7_roadOf 10 = .ok (.aload_n 0, 1) := by decide +kernel
theorem dX7_roadOf_11 : decode cX7_roadOf 11 = .ok (.iload_n 2, 1) := by decide +kernel
theorem dX7_roadOf_12 : decode cX7_roadOf 12 = .ok (.invokevirtual 54, 3) := by decide +kernel
theorem dX7_roadOf_15 : decode cX7_roadOf 15 = .ok (.ifCond .eq 11, 3) := by decide +kernel
theorem dX7_roadOf_18 : decode cX7_roadOf 18 = .ok (.aload_n 0, 1) := by decide +kernel
theorem dX7_roadOf_19 : decode cX7_roadOf 19 = .ok (.iload_n 2, 1) := by decide +kernel
theorem dX7_roadOf_20 : decode cX7_roadOf 20 = .ok (.invokevirtual 58, 3) := by decide +kernel
theorem dX7_roadOf_23 : decode cX7_roadOf 23 = .ok (.goto 4, 3) := by decide +kernel
theorem dX7_roadOf_26 : decode cX7_roadOf 26 = .ok (.iconst 0, 1) := by decide +kernel
theorem dX7_roadOf_27 : decode cX7_roadOf 27 = .ok (.ireturn, 1) := by decide +kernel
theorem dX7_useOf_0 : decode cX7_useOf 0 = .ok (.aload_n 0, 1) := by decide +kernel
theorem dX7_useOf_1 : decode cX7_useOf 1 = .ok (.iload_n 1, 1) := by decide +kernel
theorem dX7_useOf_2 : decode cX7_useOf 2 = .ok (.invokevirtual 61, 3) := by decide +kernel
theorem dX7_useOf_5 : decode cX7_useOf 5 = .ok (.istore_n 2, 1) := by decide +kernel
theorem dX7_useOf_6 : decode cX7_useOf 6 = .ok (.iconst 0, 1) := by decide +kernel
theorem dX7_useOf_7 : decode cX7_useOf 7 = .ok (.istore_n 3, 1) := by decide +kernel
theorem dX7_useOf_8 : decode cX7_useOf 8 = .ok (.iconst 0, 1) := by decide +kernel
theorem dX7_useOf_9 : decode cX7_useOf 9 = .ok (.istore 4, 2) := by decide +kernel
theorem dX7_useOf_11 : decode cX7_useOf 11 = .ok (.iload 4, 2) := by decide +kernel
theorem dX7_useOf_13 : decode cX7_useOf 13 = .ok (.aload_n 0, 1) := by decide +kernel
theorem dX7_useOf_14 : decode cX7_useOf 14 = .ok (.getfield 9, 3) := by decide +kernel
theorem dX7_useOf_17 : decode cX7_useOf 17 = .ok (.invokevirtual 30, 3) := by decide +kernel
theorem dX7_useOf_20 : decode cX7_useOf 20 = .ok (.if_icmp .ge 31, 3) := by decide +kernel
theorem dX7_useOf_23 : decode cX7_useOf 23 = .ok (.iload_n 2, 1) := by decide +kernel
theorem dX7_useOf_24 : decode cX7_useOf 24 = .ok (.iload 4, 2) := by decide +kernel
theorem dX7_useOf_26 : decode cX7_useOf 26 = .ok (.ishr, 1) := by decide +kernel
theorem dX7_useOf_27 : decode cX7_useOf 27 = .ok (.iconst 1, 1) := by decide +kernel
theorem dX7_useOf_28 : decode cX7_useOf 28 = .ok (.iand, 1) := by decide +kernel
theorem dX7_useOf_29 : decode cX7_useOf 29 = .ok (.ifCond .eq 16, 3) := by decide +kernel
theorem dX7_useOf_32 : decode cX7_useOf 32 = .ok (.iload_n 3, 1) := by decide +kernel
theorem dX7_useOf_33 : decode cX7_useOf 33 = .ok (.aload_n 0, 1) := by decide +kernel
theorem dX7_useOf_34 : decode cX7_useOf 34 = .ok (.getfield 9, 3) := by decide +kernel
theorem dX7_useOf_37 : decode cX7_useOf 37 = .ok (.iload 4, 2) := by decide +kernel
theorem dX7_useOf_39 : decode cX7_useOf 39 = .ok (.iconst 4, 1) := by decide +kernel
theorem dX7_useOf_40 : decode cX7_useOf 40 = .ok (.invokevirtual 42, 3) := by decide +kernel
theorem dX7_useOf_43 : decode cX7_useOf 43 = .ok (.iadd, 1) := by decide +kernel
theorem dX7_useOf_44 : decode cX7_useOf 44 = .ok (.istore_n 3, 1) := by decide +kernel
theorem dX7_useOf_45 : decode cX7_useOf 45 = .ok (.iinc 4 1, 3) := by decide +kernel
theorem dX7_useOf_48 : decode cX7_useOf 48 = .ok (.goto (-37), 3) := by decide +kernel
theorem dX7_useOf_51 : decode cX7_useOf 51 = .ok (.iload_n 3, 1) := by decide +kernel
theorem dX7_useOf_52 : decode cX7_useOf 52 = .ok (.ireturn, 1) := by decide +kernel
theorem dX7_useOfAll_0 : decode cX7_useOfAll 0 = .ok (.iconst 0, 1) := by decide +kernel
theorem dX7_useOfAll_1 : decode cX7_useOfAll 1 = .ok (.istore_n 1, 1) := by decide +kernel
theorem dX7_useOfAll_2 : decode cX7_useOfAll 2 = .ok (.iconst 0, 1) := by decide +kernel
theorem dX7_useOfAll_3 : decode cX7_useOfAll 3 = .ok (.istore_n 2, 1) := by decide +kernel
theorem dX7_useOfAll_4 : decode cX7_useOfAll 4 = .ok (.iload_n 2, 1) := by decide +kernel
theorem dX7_useOfAll_5 : decode cX7_useOfAll 5 = .ok (.aload_n 0, 1) := by decide +kernel
theorem dX7_useOfAll_6 : decode cX7_useOfAll 6 = .ok (.getfield 9, 3) := by decide +kernel
theorem dX7_useOfAll_9 : decode cX7_useOfAll 9 = .ok (.invokevirtual 64, 3) := by decide +kernel
theorem dX7_useOfAll_12 : decode cX7_useOfAll 12 = .ok (.if_icmp .ge 17, 3) := by decide +kernel
theorem dX7_useOfAll_15 : decode cX7_useOfAll 15 = .ok (.iload_n 1, 1) := by decide +kernel
theorem dX7_useOfAll_16 : decode cX7_useOfAll 16 = .ok (.aload_n 0, 1) := by decide +kernel
theorem dX7_useOfAll_17 : decode cX7_useOfAll 17 = .ok (.iload_n 2, 1) := by decide +kernel
theorem dX7_useOfAll_18 : decode cX7_useOfAll 18 = .ok (.invokevirtual 67, 3) := by decide +kernel
theorem dX7_useOfAll_21 : decode cX7_useOfAll 21 = .ok (.iadd, 1) := by decide +kernel
theorem dX7_useOfAll_22 : decode cX7_useOfAll 22 = .ok (.istore_n 1, 1) := by decide +kernel
theorem dX7_useOfAll_23 : decode cX7_useOfAll 23 = .ok (.iinc 2 1, 3) := by decide +kernel
theorem dX7_useOfAll_26 : decode cX7_useOfAll 26 = .ok (.goto (-22), 3) := by decide +kernel
theorem dX7_useOfAll_29 : decode cX7_useOfAll 29 = .ok (.iload_n 1, 1) := by decide +kernel
theorem dX7_useOfAll_30 : decode cX7_useOfAll 30 = .ok (.ireturn, 1) := by decide +kernel
theorem dX7_mostUsing_0 : decode cX7_mostUsing 0 = .ok (.iconst 0, 1) := by decide +kernel
theorem dX7_mostUsing_1 : decode cX7_mostUsing 1 = .ok (.istore_n 1, 1) := by decide +kernel
theorem dX7_mostUsing_2 : decode cX7_mostUsing 2 = .ok (.iconst 1, 1) := by decide +kernel
theorem dX7_mostUsing_3 : decode cX7_mostUsing 3 = .ok (.istore_n 2, 1) := by decide +kernel
theorem dX7_mostUsing_4 : decode cX7_mostUsing 4 = .ok (.iload_n 2, 1) := by decide +kernel
theorem dX7_mostUsing_5 : decode cX7_mostUsing 5 = .ok (.aload_n 0, 1) := by decide +kernel
theorem dX7_mostUsing_6 : decode cX7_mostUsing 6 = .ok (.getfield 9, 3) := by decide +kernel
theorem dX7_mostUsing_9 : decode cX7_mostUsing 9 = .ok (.invokevirtual 64, 3) := by decide +kernel
theorem dX7_mostUsing_12 : decode cX7_mostUsing 12 = .ok (.if_icmp .ge 24, 3) := by decide +kernel
theorem dX7_mostUsing_15 : decode cX7_mostUsing 15 = .ok (.aload_n 0, 1) := by decide +kernel
theorem dX7_mostUsing_16 : decode cX7_mostUsing 16 = .ok (.iload_n 2, 1) := by decide +kernel
theorem dX7_mostUsing_17 : decode cX7_mostUsing 17 = .ok (.invokevirtual 67, 3) := by decide +kernel
theorem dX7_mostUsing_20 : decode cX7_mostUsing 20 = .ok (.aload_n 0, 1) := by decide +kernel
theorem dX7_mostUsing_21 : decode cX7_mostUsing 21 = .ok (.iload_n 1, 1) := by decide +kernel
theorem dX7_mostUsing_22 : decode cX7_mostUsing 22 = .ok (.invokevirtual 67, 3) := by decide +kernel
theorem dX7_mostUsing_25 : decode cX7_mostUsing 25 = .ok (.if_icmp .le 5, 3) := by decide +kernel
theorem dX7_mostUsing_28 : decode cX7_mostUsing 28 = .ok (.iload_n 2, 1) := by decide +kernel
theorem dX7_mostUsing_29 : decode cX7_mostUsing 29 = .ok (.istore_n 1, 1) := by decide +kernel
theorem dX7_mostUsing_30 : decode cX7_mostUsing 30 = .ok (.iinc 2 1, 3) := by decide +kernel
theorem dX7_mostUsing_33 : decode cX7_mostUsing 33 = .ok (.goto (-29), 3) := by decide +kernel
theorem dX7_mostUsing_36 : decode cX7_mostUsing 36 = .ok (.iload_n 1, 1) := by decide +kernel
theorem dX7_mostUsing_37 : decode cX7_mostUsing 37 = .ok (.ireturn, 1) := by decide +kernel
theorem dX7_mostWorn_0 : decode cX7_mostWorn 0 = .ok (.iconst 0, 1) := by decide +kernel
theorem dX7_mostWorn_1 : decode cX7_mostWorn 1 = .ok (.istore_n 1, 1) := by decide +kernel
theorem dX7_mostWorn_2 : decode cX7_mostWorn 2 = .ok (.iconst 1, 1) := by decide +kernel
theorem dX7_mostWorn_3 : decode cX7_mostWorn 3 = .ok (.istore_n 2, 1) := by decide +kernel
theorem dX7_mostWorn_4 : decode cX7_mostWorn 4 = .ok (.iload_n 2, 1) := by decide +kernel
theorem dX7_mostWorn_5 : decode cX7_mostWorn 5 = .ok (.aload_n 0, 1) := by decide +kernel
theorem dX7_mostWorn_6 : decode cX7_mostWorn 6 = .ok (.getfield 9, 3) := by decide +kernel
theorem dX7_mostWorn_9 : decode cX7_mostWorn 9 = .ok (.invokevirtual 30, 3) := by decide +kernel
theorem dX7_mostWorn_12 : decode cX7_mostWorn 12 = .ok (.if_icmp .ge 30, 3) := by decide +kernel
theorem dX7_mostWorn_15 : decode cX7_mostWorn 15 = .ok (.aload_n 0, 1) := by decide +kernel
theorem dX7_mostWorn_16 : decode cX7_mostWorn 16 = .ok (.getfield 15, 3) := by decide +kernel
theorem dX7_mostWorn_19 : decode cX7_mostWorn 19 = .ok (.iload_n 2, 1) := by decide +kernel
theorem dX7_mostWorn_20 : decode cX7_mostWorn 20 = .ok (.invokevirtual 36, 3) := by decide +kernel
theorem dX7_mostWorn_23 : decode cX7_mostWorn 23 = .ok (.aload_n 0, 1) := by decide +kernel
theorem dX7_mostWorn_24 : decode cX7_mostWorn 24 = .ok (.getfield 15, 3) := by decide +kernel
theorem dX7_mostWorn_27 : decode cX7_mostWorn 27 = .ok (.iload_n 1, 1) := by decide +kernel
theorem dX7_mostWorn_28 : decode cX7_mostWorn 28 = .ok (.invokevirtual 36, 3) := by decide +kernel
theorem dX7_mostWorn_31 : decode cX7_mostWorn 31 = .ok (.if_icmp .le 5, 3) := by decide +kernel
theorem dX7_mostWorn_34 : decode cX7_mostWorn 34 = .ok (.iload_n 2, 1) := by decide +kernel
theorem dX7_mostWorn_35 : decode cX7_mostWorn 35 = .ok (.istore_n 1, 1) := by decide +kernel
theorem dX7_mostWorn_36 : decode cX7_mostWorn 36 = .ok (.iinc 2 1, 3) := by decide +kernel
theorem dX7_mostWorn_39 : decode cX7_mostWorn 39 = .ok (.goto (-35), 3) := by decide +kernel
theorem dX7_mostWorn_42 : decode cX7_mostWorn 42 = .ok (.iload_n 1, 1) := by decide +kernel
theorem dX7_mostWorn_43 : decode cX7_mostWorn 43 = .ok (.ireturn, 1) := by decide +kernel
theorem dX7_deadEnds_0 : decode cX7_deadEnds 0 = .ok (.iconst 0, 1) := by decide +kernel
theorem dX7_deadEnds_1 : decode cX7_deadEnds 1 = .ok (.istore_n 1, 1) := by decide +kernel
theorem dX7_deadEnds_2 : decode cX7_deadEnds 2 = .ok (.iconst 0, 1) := by decide +kernel
theorem dX7_deadEnds_3 : decode cX7_deadEnds 3 = .ok (.istore_n 2, 1) := by decide +kernel
theorem dX7_deadEnds_4 : decode cX7_deadEnds 4 = .ok (.iload_n 2, 1) := by decide +kernel
theorem dX7_deadEnds_5 : decode cX7_deadEnds 5 = .ok (.bipush 8, 2) := by decide +kernel
theorem dX7_deadEnds_7 : decode cX7_deadEnds 7 = .ok (.if_icmp .ge 59, 3) := by decide +kernel
theorem dX7_deadEnds_10 : decode cX7_deadEnds 10 = .ok (.iconst 0, 1) := by decide +kernel
theorem dX7_deadEnds_11 : decode cX7_deadEnds 11 = .ok (.istore_n 3, 1) := by decide +kernel
theorem dX7_deadEnds_12 : decode cX7_deadEnds 12 = .ok (.iconst 0, 1) := by decide +kernel
theorem dX7_deadEnds_13 : decode cX7_deadEnds 13 = .ok (.istore 4, 2) := by decide +kernel
theorem dX7_deadEnds_15 : decode cX7_deadEnds 15 = .ok (.iload 4, 2) := by decide +kernel
theorem dX7_deadEnds_17 : decode cX7_deadEnds 17 = .ok (.aload_n 0, 1) := by decide +kernel
theorem dX7_deadEnds_18 : decode cX7_deadEnds 18 = .ok (.getfield 9, 3) := by decide +kernel
theorem dX7_deadEnds_21 : decode cX7_deadEnds 21 = .ok (.invokevirtual 30, 3) := by decide +kernel
theorem dX7_deadEnds_24 : decode cX7_deadEnds 24 = .ok (.if_icmp .ge 25, 3) := by decide +kernel
theorem dX7_deadEnds_27 : decode cX7_deadEnds 27 = .ok (.aload_n 0, 1) := by decide +kernel
theorem dX7_deadEnds_28 : decode cX7_deadEnds 28 = .ok (.getfield 9, 3) := by decide +kernel
theorem dX7_deadEnds_31 : decode cX7_deadEnds 31 = .ok (.iload 4, 2) := by decide +kernel
theorem dX7_deadEnds_33 : decode cX7_deadEnds 33 = .ok (.iload_n 2, 1) := by decide +kernel
theorem dX7_deadEnds_34 : decode cX7_deadEnds 34 = .ok (.invokevirtual 70, 3) := by decide +kernel
theorem dX7_deadEnds_37 : decode cX7_deadEnds 37 = .ok (.ifCond .eq 6, 3) := by decide +kernel
theorem dX7_deadEnds_40 : decode cX7_deadEnds 40 = .ok (.iinc 3 1, 3) := by decide +kernel
theorem dX7_deadEnds_43 : decode cX7_deadEnds 43 = .ok (.iinc 4 1, 3) := by decide +kernel
theorem dX7_deadEnds_46 : decode cX7_deadEnds 46 = .ok (.goto (-31), 3) := by decide +kernel
theorem dX7_deadEnds_49 : decode cX7_deadEnds 49 = .ok (.iload_n 3, 1) := by decide +kernel
theorem dX7_deadEnds_50 : decode cX7_deadEnds 50 = .ok (.iconst 1, 1) := by decide +kernel
theorem dX7_deadEnds_51 : decode cX7_deadEnds 51 = .ok (.if_icmp .ne 9, 3) := by decide +kernel
theorem dX7_deadEnds_54 : decode cX7_deadEnds 54 = .ok (.iload_n 1, 1) := by decide +kernel
theorem dX7_deadEnds_55 : decode cX7_deadEnds 55 = .ok (.iconst 1, 1) := by decide +kernel
theorem dX7_deadEnds_56 : decode cX7_deadEnds 56 = .ok (.iload_n 2, 1) := by decide +kernel
theorem dX7_deadEnds_57 : decode cX7_deadEnds 57 = .ok (.ishl, 1) := by decide +kernel
theorem dX7_deadEnds_58 : decode cX7_deadEnds 58 = .ok (.ior, 1) := by decide +kernel
theorem dX7_deadEnds_59 : decode cX7_deadEnds 59 = .ok (.istore_n 1, 1) := by decide +kernel
theorem dX7_deadEnds_60 : decode cX7_deadEnds 60 = .ok (.iinc 2 1, 3) := by decide +kernel
theorem dX7_deadEnds_63 : decode cX7_deadEnds 63 = .ok (.goto (-59), 3) := by decide +kernel
theorem dX7_deadEnds_66 : decode cX7_deadEnds 66 = .ok (.iload_n 1, 1) := by decide +kernel
theorem dX7_deadEnds_67 : decode cX7_deadEnds 67 = .ok (.ireturn, 1) := by decide +kernel
theorem dX7_bridges_0 : decode cX7_bridges 0 = .ok (.aload_n 0, 1) := by decide +kernel
theorem dX7_bridges_1 : decode cX7_bridges 1 = .ok (.iconst (-1), 1) := by decide +kernel
theorem dX7_bridges_2 : decode cX7_bridges 2 = .ok (.invokevirtual 74, 3) := by decide +kernel
theorem dX7_bridges_5 : decode cX7_bridges 5 = .ok (.istore_n 1, 1) := by decide +kernel
theorem dX7_bridges_6 : decode cX7_bridges 6 = .ok (.iconst 0, 1) := by decide +kernel
theorem dX7_bridges_7 : decode cX7_bridges 7 = .ok (.istore_n 2, 1) := by decide +kernel
theorem dX7_bridges_8 : decode cX7_bridges 8 = .ok (.iconst 0, 1) := by decide +kernel
theorem dX7_bridges_9 : decode cX7_bridges 9 = .ok (.istore_n 3, 1) := by decide +kernel
theorem dX7_bridges_10 : decode cX7_bridges 10 = .ok (.iload_n 3, 1) := by decide +kernel
theorem dX7_bridges_11 : decode cX7_bridges 11 = .ok (.aload_n 0, 1) := by decide +kernel
theorem dX7_bridges_12 : decode cX7_bridges 12 = .ok (.getfield 9, 3) := by decide +kernel
theorem dX7_bridges_15 : decode cX7_bridges 15 = .ok (.invokevirtual 30, 3) := by decide +kernel
theorem dX7_bridges_18 : decode cX7_bridges 18 = .ok (.if_icmp .ge 24, 3) := by decide +kernel
theorem dX7_bridges_21 : decode cX7_bridges 21 = .ok (.aload_n 0, 1) := by decide +kernel
theorem dX7_bridges_22 : decode cX7_bridges 22 = .ok (.iload_n 3, 1) := by decide +kernel
theorem dX7_bridges_23 : decode cX7_bridges 23 = .ok (.invokevirtual 74, 3) := by decide +kernel
theorem dX7_bridges_26 : decode cX7_bridges 26 = .ok (.iload_n 1, 1) := by decide +kernel
theorem dX7_bridges_27 : decode cX7_bridges 27 = .ok (.if_icmp .eq 9, 3) := by decide +kernel
theorem dX7_bridges_30 : decode cX7_bridges 30 = .ok (.iload_n 2, 1) := by decide +kernel
theorem dX7_bridges_31 : decode cX7_bridges 31 = .ok (.iconst 1, 1) := by decide +kernel
theorem dX7_bridges_32 : decode cX7_bridges 32 = .ok (.iload_n 3, 1) := by decide +kernel
theorem dX7_bridges_33 : decode cX7_bridges 33 = .ok (.ishl, 1) := by decide +kernel
theorem dX7_bridges_34 : decode cX7_bridges 34 = .ok (.ior, 1) := by decide +kernel
theorem dX7_bridges_35 : decode cX7_bridges 35 = .ok (.istore_n 2, 1) := by decide +kernel
theorem dX7_bridges_36 : decode cX7_bridges 36 = .ok (.iinc 3 1, 3) := by decide +kernel
theorem dX7_bridges_39 : decode cX7_bridges 39 = .ok (.goto (-29), 3) := by decide +kernel
theorem dX7_bridges_42 : decode cX7_bridges 42 = .ok (.iload_n 2, 1) := by decide +kernel
theorem dX7_bridges_43 : decode cX7_bridges 43 = .ok (.ireturn, 1) := by decide +kernel
theorem dX7_reachedWithout_0 : decode cX7_reachedWithout 0 = .ok (.iconst 1, 1) := by decide +kernel
theorem dX7_reachedWithout_1 : decode cX7_reachedWithout 1 = .ok (.istore_n 2, 1) := by decide +kernel
theorem dX7_reachedWithout_2 : decode cX7_reachedWithout 2 = .ok (.iconst 1, 1) := by decide +kernel
theorem dX7_reachedWithout_3 : decode cX7_reachedWithout 3 = .ok (.istore_n 3, 1) := by decide +kernel
theorem dX7_reachedWithout_4 : decode cX7_reachedWithout 4 = .ok (.iload_n 3, 1) := by decide +kernel
theorem dX7_reachedWithout_5 : decode cX7_reachedWithout 5 = .ok (.bipush 8, 2) := by decide +kernel
theorem dX7_reachedWithout_7 : decode cX7_reachedWithout 7 = .ok (.if_icmp .ge 75, 3) := by decide +kernel
theorem dX7_reachedWithout_10 : decode cX7_reachedWithout 10 = .ok (.iconst 0, 1) := by decide +kernel
theorem dX7_reachedWithout_11 : decode cX7_reachedWithout 11 = .ok (.istore 4, 2) := by decide +kernel
theorem dX7_reachedWithout_13 : decode cX7_reachedWithout 13 = .ok (.iload 4, 2) := by decide +kernel
theorem dX7_reachedWithout_15 : decode cX7_reachedWithout 15 = .ok (.aload_n 0, 1) := by decide +kernel
theorem dX7_reachedWithout_16 : decode cX7_reachedWithout 16 = .ok (.getfield 9, 3) := by decide +kernel
theorem dX7_reachedWithout_19 : decode cX7_reachedWithout 19 = .ok (.invokevirtual 30, 3) := by decide +kernel
theorem dX7_reachedWithout_22 : decode cX7_reachedWithout 22 = .ok (.if_icmp .ge 54, 3) := by decide +kernel
theorem dX7_reachedWithout_25 : decode cX7_reachedWithout 25 = .ok (.iconst 1, 1) := by decide +kernel
theorem dX7_reachedWithout_26 : decode cX7_reachedWithout 26 = .ok (.aload_n 0, 1) := by decide +kernel
theorem dX7_reachedWithout_27 : decode cX7_reachedWithout 27 = .ok (.getfield 9, 3) := by decide +kernel
theorem dX7_reachedWithout_30 : decode cX7_reachedWithout 30 = .ok (.iload 4, 2) := by decide +kernel
theorem dX7_reachedWithout_32 : decode cX7_reachedWithout 32 = .ok (.iconst 0, 1) := by decide +kernel
theorem dX7_reachedWithout_33 : decode cX7_reachedWithout 33 = .ok (.invokevirtual 42, 3) := by decide +kernel
theorem dX7_reachedWithout_36 : decode cX7_reachedWithout 36 = .ok (.ishl, 1) := by decide +kernel
theorem dX7_reachedWithout_37 : decode cX7_reachedWithout 37 = .ok (.iconst 1, 1) := by decide +kernel
theorem dX7_reachedWithout_38 : decode cX7_reachedWithout 38 = .ok (.aload_n 0, 1) := by decide +kernel
theorem dX7_reachedWithout_39 : decode cX7_reachedWithout 39 = .ok (.getfield 9, 3) := by decide +kernel
theorem dX7_reachedWithout_42 : decode cX7_reachedWithout 42 = .ok (.iload 4, 2) := by decide +kernel
theorem dX7_reachedWithout_44 : decode cX7_reachedWithout 44 = .ok (.iconst 1, 1) := by decide +kernel
theorem dX7_reachedWithout_45 : decode cX7_reachedWithout 45 = .ok (.invokevirtual 42, 3) := by decide +kernel
theorem dX7_reachedWithout_48 : decode cX7_reachedWithout 48 = .ok (.ishl, 1) := by decide +kernel
theorem dX7_reachedWithout_49 : decode cX7_reachedWithout 49 = .ok (.ior, 1) := by decide +kernel
theorem dX7_reachedWithout_50 : decode cX7_reachedWithout 50 = .ok (.istore 5, 2) := by decide +kernel
theorem dX7_reachedWithout_52 : decode cX7_reachedWithout 52 = .ok (.iload 4, 2) := by decide +kernel
theorem dX7_reachedWithout_54 : decode cX7_reachedWithout 54 = .ok (.iload_n 1, 1) := by decide +kernel
theorem dX7_reachedWithout_55 : decode cX7_reachedWithout 55 = .ok (.if_icmp .eq 15, 3) := by decide +kernel
theorem dX7_reachedWithout_58 : decode cX7_reachedWithout 58 = .ok (.iload_n 2, 1) := by decide +kernel
theorem dX7_reachedWithout_59 : decode cX7_reachedWithout 59 = .ok (.iload 5, 2) := by decide +kernel
theorem dX7_reachedWithout_61 : decode cX7_reachedWithout 61 = .ok (.iand, 1) := by decide +kernel
theorem dX7_reachedWithout_62 : decode cX7_reachedWithout 62 = .ok (.ifCond .eq 8, 3) := by decide +kernel
theorem dX7_reachedWithout_65 : decode cX7_reachedWithout 65 = .ok (.iload_n 2, 1) := by decide +kernel
theorem dX7_reachedWithout_66 : decode cX7_reachedWithout 66 = .ok (.iload 5, 2) := by decide +kernel
theorem dX7_reachedWithout_68 : decode cX7_reachedWithout 68 = .ok (.ior, 1) := by decide +kernel
theorem dX7_reachedWithout_69 : decode cX7_reachedWithout 69 = .ok (.istore_n 2, 1) := by decide +kernel
theorem dX7_reachedWithout_70 : decode cX7_reachedWithout 70 = .ok (.iinc 4 1, 3) := by decide +kernel
theorem dX7_reachedWithout_73 : decode cX7_reachedWithout 73 = .ok (.goto (-60), 3) := by decide +kernel
theorem dX7_reachedWithout_76 : decode cX7_reachedWithout 76 = .ok (.iinc 3 1, 3) := by decide +kernel
theorem dX7_reachedWithout_79 : decode cX7_reachedWithout 79 = .ok (.goto (-75), 3) := by decide +kernel
theorem dX7_reachedWithout_82 : decode cX7_reachedWithout 82 = .ok (.iload_n 2, 1) := by decide +kernel
theorem dX7_reachedWithout_83 : decode cX7_reachedWithout 83 = .ok (.ireturn, 1) := by decide +kernel
theorem dX7_touching_0 : decode cX7_touching 0 = .ok (.aload_n 0, 1) := by decide +kernel
theorem dX7_touching_1 : decode cX7_touching 1 = .ok (.getfield 9, 3) := by decide +kernel
theorem dX7_touching_4 : decode cX7_touching 4 = .ok (.iload_n 1, 1) := by decide +kernel
theorem dX7_touching_5 : decode cX7_touching 5 = .ok (.iconst 0, 1) := by decide +kernel
theorem dX7_touching_6 : decode cX7_touching 6 = .ok (.invokevirtual 42, 3) := by decide +kernel
theorem dX7_touching_9 : decode cX7_touching 9 = .ok (.istore_n 2, 1) := by decide +kernel
theorem dX7_touching_10 : decode cX7_touching 10 = .ok (.aload_n 0, 1) := by decide +kernel
theorem dX7_touching_11 : decode cX7_touching 11 = .ok (.getfield 9, 3) := by decide +kernel
theorem dX7_touching_14 : decode cX7_touching 14 = .ok (.iload_n 1, 1) := by decide +kernel
theorem dX7_touching_15 : decode cX7_touching 15 = .ok (.iconst 1, 1) := by decide +kernel
theorem dX7_touching_16 : decode cX7_touching 16 = .ok (.invokevirtual 42, 3) := by decide +kernel
theorem dX7_touching_19 : decode cX7_touching 19 = .ok (.istore_n 3, 1) := by decide +kernel
theorem dX7_touching_20 : decode cX7_touching 20 = .ok (.iconst 0, 1) := by decide +kernel
theorem dX7_touching_21 : decode cX7_touching 21 = .ok (.istore 4, 2) := by decide +kernel
theorem dX7_touching_23 : decode cX7_touching 23 = .ok (.iconst 0, 1) := by decide +kernel
theorem dX7_touching_24 : decode cX7_touching 24 = .ok (.istore 5, 2) := by decide +kernel
theorem dX7_touching_26 : decode cX7_touching 26 = .ok (.iload 5, 2) := by decide +kernel
theorem dX7_touching_28 : decode cX7_touching 28 = .ok (.aload_n 0, 1) := by decide +kernel
theorem dX7_touching_29 : decode cX7_touching 29 = .ok (.getfield 9, 3) := by decide +kernel
theorem dX7_touching_32 : decode cX7_touching 32 = .ok (.invokevirtual 30, 3) := by decide +kernel
theorem dX7_touching_35 : decode cX7_touching 35 = .ok (.if_icmp .ge 50, 3) := by decide +kernel
theorem dX7_touching_38 : decode cX7_touching 38 = .ok (.iload 5, 2) := by decide +kernel
theorem dX7_touching_40 : decode cX7_touching 40 = .ok (.iload_n 1, 1) := by decide +kernel
theorem dX7_touching_41 : decode cX7_touching 41 = .ok (.if_icmp .eq 38, 3) := by decide +kernel
theorem dX7_touching_44 : decode cX7_touching 44 = .ok (.aload_n 0, 1) := by decide +kernel
theorem dX7_touching_45 : decode cX7_touching 45 = .ok (.getfield 9, 3) := by decide +kernel
theorem dX7_touching_48 : decode cX7_touching 48 = .ok (.iload 5, 2) := by decide +kernel
theorem dX7_touching_50 : decode cX7_touching 50 = .ok (.iload_n 2, 1) := by decide +kernel
theorem dX7_touching_51 : decode cX7_touching 51 = .ok (.invokevirtual 70, 3) := by decide +kernel
theorem dX7_touching_54 : decode cX7_touching 54 = .ok (.ifCond .ne 16, 3) := by decide +kernel
theorem dX7_touching_57 : decode cX7_touching 57 = .ok (.aload_n 0, 1) := by decide +kernel
theorem dX7_touching_58 : decode cX7_touching 58 = .ok (.getfield 9, 3) := by decide +kernel
theorem dX7_touching_61 : decode cX7_touching 61 = .ok (.iload 5, 2) := by decide +kernel
theorem dX7_touching_63 : decode cX7_touching 63 = .ok (.iload_n 3, 1) := by decide +kernel
theorem dX7_touching_64 : decode cX7_touching 64 = .ok (.invokevirtual 70, 3) := by decide +kernel
theorem dX7_touching_67 : decode cX7_touching 67 = .ok (.ifCond .eq 12, 3) := by decide +kernel
theorem dX7_touching_70 : decode cX7_touching 70 = .ok (.iload 4, 2) := by decide +kernel
theorem dX7_touching_72 : decode cX7_touching 72 = .ok (.iconst 1, 1) := by decide +kernel
theorem dX7_touching_73 : decode cX7_touching 73 = .ok (.iload 5, 2) := by decide +kernel
theorem dX7_touching_75 : decode cX7_touching 75 = .ok (.ishl, 1) := by decide +kernel
theorem dX7_touching_76 : decode cX7_touching 76 = .ok (.ior, 1) := by decide +kernel
theorem dX7_touching_77 : decode cX7_touching 77 = .ok (.istore 4, 2) := by decide +kernel
theorem dX7_touching_79 : decode cX7_touching 79 = .ok (.iinc 5 1, 3) := by decide +kernel
theorem dX7_touching_82 : decode cX7_touching 82 = .ok (.goto (-56), 3) := by decide +kernel
theorem dX7_touching_85 : decode cX7_touching 85 = .ok (.iload 4, 2) := by decide +kernel
theorem dX7_touching_87 : decode cX7_touching 87 = .ok (.ireturn, 1) := by decide +kernel
theorem dX8_add_0 : decode cX8_add 0 = .ok (.iload_n 1, 1) := by decide +kernel
theorem dX8_add_1 : decode cX8_add 1 = .ok (.iconst 1, 1) := by decide +kernel
theorem dX8_add_2 : decode cX8_add 2 = .ok (.if_icmp .lt 20, 3) := by decide +kernel
theorem dX8_add_5 : decode cX8_add 5 = .ok (.iload_n 1, 1) := by decide +kernel
theorem dX8_add_6 : decode cX8_add 6 = .ok (.aload_n 0, 1) := by decide +kernel
theorem dX8_add_7 : decode cX8_add 7 = .ok (.invokevirtual 27, 3) := by decide +kernel
theorem dX8_add_10 : decode cX8_add 10 = .ok (.if_icmp .ge 12, 3) := by decide +kernel
theorem dX8_add_13 : decode cX8_add 13 = .ok (.aload_n 0, 1) := by decide +kernel
theorem dX8_add_14 : decode cX8_add 14 = .ok (.getfield 23, 3) := by decide +kernel
theorem dX8_add_17 : decode cX8_add 17 = .ok (.bipush 10, 2) := by decide +kernel
theorem dX8_add_19 : decode cX8_add 19 = .ok (.if_icmp .lt 5, 3) := by decide +kernel
theorem dX8_add_22 : decode cX8_add 22 = .ok (.iconst (-1), 1) := by decide +kernel
theorem dX8_add_23 : decode cX8_add 23 = .ok (.ireturn, 1) := by decide +kernel
theorem dX8_add_24 : decode cX8_add 24 = .ok (.aload_n 0, 1) := by decide +kernel
theorem dX8_add_25 : decode cX8_add 25 = .ok (.getfield 15, 3) := by decide +kernel
theorem dX8_add_28 : decode cX8_add 28 = .ok (.aload_n 0, 1) := by decide +kernel
theorem dX8_add_29 : decode cX8_add 29 = .ok (.getfield 23, 3) := by decide +kernel
theorem dX8_add_32 : decode cX8_add 32 = .ok (.iload_n 1, 1) := by decide +kernel
theorem dX8_add_33 : decode cX8_add 33 = .ok (.iastore, 1) := by decide +kernel
theorem dX8_add_34 : decode cX8_add 34 = .ok (.aload_n 0, 1) := by decide +kernel
theorem dX8_add_35 : decode cX8_add 35 = .ok (.getfield 19, 3) := by decide +kernel
theorem dX8_add_38 : decode cX8_add 38 = .ok (.aload_n 0, 1) := by decide +kernel
theorem dX8_add_39 : decode cX8_add 39 = .ok (.getfield 23, 3) := by decide +kernel
theorem dX8_add_42 : decode cX8_add 42 = .ok (.iload_n 2, 1) := by decide +kernel
theorem dX8_add_43 : decode cX8_add 43 = .ok (.bastore, 1) := by decide +kernel
theorem dX8_add_44 : decode cX8_add 44 = .ok (.aload_n 0, 1) := by decide +kernel
theorem dX8_add_45 : decode cX8_add 45 = .ok (.dup, 1) := by decide +kernel
theorem dX8_add_46 : decode cX8_add 46 = .ok (.getfield 23, 3) := by decide +kernel
theorem dX8_add_49 : decode cX8_add 49 = .ok (.iconst 1, 1) := by decide +kernel
theorem dX8_add_50 : decode cX8_add 50 = .ok (.iadd, 1) := by decide +kernel
theorem dX8_add_51 : decode cX8_add 51 = .ok (.putfield 23, 3) := by decide +kernel
theorem dX8_add_54 : decode cX8_add 54 = .ok (.aload_n 0, 1) := by decide +kernel
theorem dX8_add_55 : decode cX8_add 55 = .ok (.getfield 23, 3) := by decide +kernel
theorem dX8_add_58 : decode cX8_add 58 = .ok (.ireturn, 1) := by decide +kernel
theorem dX8_forget_0 : decode cX8_forget 0 = .ok (.aload_n 0, 1) := by decide +kernel
theorem dX8_forget_1 : decode cX8_forget 1 = .ok (.iconst 0, 1) := by decide +kernel
theorem dX8_forget_2 : decode cX8_forget 2 = .ok (.putfield 23, 3) := by decide +kernel
theorem dX8_forget_5 : decode cX8_forget 5 = .ok (.return_, 1) := by decide +kernel
theorem dX8_size_0 : decode cX8_size 0 = .ok (.aload_n 0, 1) := by decide +kernel
theorem dX8_size_1 : decode cX8_size 1 = .ok (.getfield 23, 3) := by decide +kernel
theorem dX8_size_4 : decode cX8_size 4 = .ok (.ireturn, 1) := by decide +kernel
theorem dX8_canAsk_0 : decode cX8_canAsk 0 = .ok (.aload_n 0, 1) := by decide +kernel
theorem dX8_canAsk_1 : decode cX8_canAsk 1 = .ok (.getfield 9, 3) := by decide +kernel
theorem dX8_canAsk_4 : decode cX8_canAsk 4 = .ok (.invokevirtual 31, 3) := by decide +kernel
theorem dX8_canAsk_7 : decode cX8_canAsk 7 = .ok (.ifCond .ne 16, 3) := by decide +kernel
theorem dX8_canAsk_10 : decode cX8_canAsk 10 = .ok (.iload_n 1, 1) := by decide +kernel
theorem dX8_canAsk_11 : decode cX8_canAsk 11 = .ok (.ifCond .lt 12, 3) := by decide +kernel
theorem dX8_canAsk_14 : decode cX8_canAsk 14 = .ok (.iload_n 1, 1) := by decide +kernel
theorem dX8_canAsk_15 : decode cX8_canAsk 15 = .ok (.iconst 3, 1) := by decide +kernel
theorem dX8_canAsk_16 : decode cX8_canAsk 16 = .ok (.if_icmp .gt 7, 3) := by decide +kernel
theorem dX8_canAsk_19 : decode cX8_canAsk 19 = .ok (.iconst 1, 1) := by decide +kernel
theorem dX8_canAsk_20 : decode cX8_canAsk 20 = .ok (.goto 4, 3) := by decide +kernel
theorem dX8_canAsk_23 : decode cX8_canAsk 23 = .ok (.iconst 0, 1) := by decide +kernel
theorem dX8_canAsk_24 : decode cX8_canAsk 24 = .ok (.ireturn, 1) := by decide +kernel
theorem dX8_fitting_0 : decode cX8_fitting 0 = .ok (.iconst 0, 1) := by decide +kernel
theorem dX8_fitting_1 : decode cX8_fitting 1 = .ok (.istore_n 2, 1) := by decide +kernel
theorem dX8_fitting_2 : decode cX8_fitting 2 = .ok (.iconst 0, 1) := by decide +kernel
theorem dX8_fitting_3 : decode cX8_fitting 3 = .ok (.istore_n 3, 1) := by decide +kernel
theorem dX8_fitting_4 : decode cX8_fitting 4 = .ok (.iload_n 3, 1) := by decide +kernel
theorem dX8_fitting_5 : decode cX8_fitting 5 = .ok (.aload_n 0, 1) := by decide +kernel
theorem dX8_fitting_6 : decode cX8_fitting 6 = .ok (.invokevirtual 27, 3) := by decide +kernel
theorem dX8_fitting_9 : decode cX8_fitting 9 = .ok (.if_icmp .ge 21, 3) := by decide +kernel
theorem dX8_fitting_12 : decode cX8_fitting 12 = .ok (.aload_n 0, 1) := by decide +kernel
theorem dX8_fitting_13 : decode cX8_fitting 13 = .ok (.iload_n 3, 1) := by decide +kernel
theorem dX8_fitting_14 : decode cX8_fitting 14 = .ok (.iload_n 1, 1) := by decide +kernel
theorem dX8_fitting_15 : decode cX8_fitting 15 = .ok (.invokevirtual 37, 3) := by decide +kernel
theorem dX8_fitting_18 : decode cX8_fitting 18 = .ok (.ifCond .eq 6, 3) := by decide +kernel
theorem dX8_fitting_21 : decode cX8_fitting 21 = .ok (.iinc 2 1, 3) := by decide +kernel
theorem dX8_fitting_24 : decode cX8_fitting 24 = .ok (.iinc 3 1, 3) := by decide +kernel
theorem dX8_fitting_27 : decode cX8_fitting 27 = .ok (.goto (-23), 3) := by decide +kernel
theorem dX8_fitting_30 : decode cX8_fitting 30 = .ok (.iload_n 2, 1) := by decide +kernel
theorem dX8_fitting_31 : decode cX8_fitting 31 = .ok (.ireturn, 1) := by decide +kernel
theorem dX8_fittingAt_0 : decode cX8_fittingAt 0 = .ok (.iload_n 2, 1) := by decide +kernel
theorem dX8_fittingAt_1 : decode cX8_fittingAt 1 = .ok (.istore_n 3, 1) := by decide +kernel
theorem dX8_fittingAt_2 : decode cX8_fittingAt 2 = .ok (.iconst 0, 1) := by decide +kernel
theorem dX8_fittingAt_3 : decode cX8_fittingAt 3 = .ok (.istore 4, 2) := by decide +kernel
theorem dX8_fittingAt_5 : decode cX8_fittingAt 5 = .ok (.iload 4, 2) := by decide +kernel
theorem dX8_fittingAt_7 : decode cX8_fittingAt 7 = .ok (.aload_n 0, 1) := by decide +kernel
theorem dX8_fittingAt_8 : decode cX8_fittingAt 8 = .ok (.invokevirtual 27, 3) := by decide +kernel
theorem dX8_fittingAt_11 : decode cX8_fittingAt 11 = .ok (.if_icmp .ge 29, 3) := by decide +kernel
theorem dX8_fittingAt_14 : decode cX8_fittingAt 14 = .ok (.aload_n 0, 1) := by decide +kernel
theorem dX8_fittingAt_15 : decode cX8_fittingAt 15 = .ok (.iload 4, 2) := by decide +kernel
theorem dX8_fittingAt_17 : decode cX8_fittingAt 17 = .ok (.iload_n 1, 1) := by decide +kernel
theorem dX8_fittingAt_18 : decode cX8_fittingAt 18 = .ok (.invokevirtual 37, 3) := by decide +kernel
theorem dX8_fittingAt_21 : decode cX8_fittingAt 21 = .ok (.ifCond .eq 13, 3) := by decide +kernel
theorem dX8_fittingAt_24 : decode cX8_fittingAt 24 = .ok (.iload_n 3, 1) := by decide +kernel
theorem dX8_fittingAt_25 : decode cX8_fittingAt 25 = .ok (.ifCond .ne 6, 3) := by decide +kernel
theorem dX8_fittingAt_28 : decode cX8_fittingAt 28 = .ok (.iload 4, 2) := by decide +kernel
theorem dX8_fittingAt_30 : decode cX8_fittingAt 30 = .ok (.ireturn, 1) := by decide +kernel
theorem dX8_fittingAt_31 : decode cX8_fittingAt 31 = .ok (.iinc 3 (-1), 3) := by decide +kernel
theorem dX8_fittingAt_34 : decode cX8_fittingAt 34 = .ok (.iinc 4 1, 3) := by decide +kernel
theorem dX8_fittingAt_37 : decode cX8_fittingAt 37 = .ok (.goto (-32), 3) := by decide +kernel
theorem dX8_fittingAt_40 : decode cX8_fittingAt 40 = .ok (.iconst (-1), 1) := by decide +kernel
theorem dX8_fittingAt_41 : decode cX8_fittingAt 41 = .ok (.ireturn, 1) := by decide +kernel
theorem dX8_inNone_0 : decode cX8_inNone 0 = .ok (.iconst 0, 1) := by decide +kernel
theorem dX8_inNone_1 : decode cX8_inNone 1 = .ok (.istore_n 2, 1) := by decide +kernel
theorem dX8_inNone_2 : decode cX8_inNone 2 = .ok (.iconst 0, 1) := by decide +kernel
theorem dX8_inNone_3 : decode cX8_inNone 3 = .ok (.istore_n 3, 1) := by decide +kernel
theorem dX8_inNone_4 : decode cX8_inNone 4 = .ok (.iload_n 3, 1) := by decide +kernel
theorem dX8_inNone_5 : decode cX8_inNone 5 = .ok (.aload_n 0, 1) := by decide +kernel
theorem dX8_inNone_6 : decode cX8_inNone 6 = .ok (.invokevirtual 27, 3) := by decide +kernel
theorem dX8_inNone_9 : decode cX8_inNone 9 = .ok (.if_icmp .ge 22, 3) := by decide +kernel
theorem dX8_inNone_12 : decode cX8_inNone 12 = .ok (.aload_n 0, 1) := by decide +kernel
theorem dX8_inNone_13 : decode cX8_inNone 13 = .ok (.iload_n 3, 1) := by decide +kernel
theorem dX8_inNone_14 : decode cX8_inNone 14 = .ok (.iload_n 1, 1) := by decide +kernel
theorem dX8_inNone_15 : decode cX8_inNone 15 = .ok (.invokevirtual 37, 3) := by decide +kernel
theorem dX8_inNone_18 : decode cX8_inNone 18 = .ok (.ifCond .eq 7, 3) := by decide +kernel
theorem dX8_inNone_21 : decode cX8_inNone 21 = .ok (.iload_n 2, 1) := by decide +kernel
theorem dX8_inNone_22 : decode cX8_inNone 22 = .ok (.iload_n 3, 1) := by decide +kernel
theorem dX8_inNone_23 : decode cX8_inNone 23 = .ok (.ior, 1) := by decide +kernel
theorem dX8_inNone_24 : decode cX8_inNone 24 = .ok (.istore_n 2, 1) := by decide +kernel
theorem dX8_inNone_25 : decode cX8_inNone 25 = .ok (.iinc 3 1, 3) := by decide +kernel
theorem dX8_inNone_28 : decode cX8_inNone 28 = .ok (.goto (-24), 3) := by decide +kernel
theorem dX8_inNone_31 : decode cX8_inNone 31 = .ok (.aload_n 0, 1) := by decide +kernel
theorem dX8_inNone_32 : decode cX8_inNone 32 = .ok (.invokevirtual 27, 3) := by decide +kernel
theorem dX8_inNone_35 : decode cX8_inNone 35 = .ok (.iconst 1, 1) := by decide +kernel
theorem dX8_inNone_36 : decode cX8_inNone 36 = .ok (.isub, 1) := by decide +kernel
theorem dX8_inNone_37 : decode cX8_inNone 37 = .ok (.iload_n 2, 1) := by decide +kernel
theorem dX8_inNone_38 : decode cX8_inNone 38 = .ok (.iconst (-1), 1) := by decide +kernel
theorem dX8_inNone_39 : decode cX8_inNone 39 = .ok (.ixor, 1) := by decide +kernel
theorem dX8_inNone_40 : decode cX8_inNone 40 = .ok (.iand, 1) := by decide +kernel
theorem dX8_inNone_41 : decode cX8_inNone 41 = .ok (.ireturn, 1) := by decide +kernel
theorem dX8_toWatch_0 : decode cX8_toWatch 0 = .ok (.aload_n 0, 1) := by decide +kernel
theorem dX8_toWatch_1 : decode cX8_toWatch 1 = .ok (.iload_n 1, 1) := by decide +kernel
theorem dX8_toWatch_2 : decode cX8_toWatch 2 = .ok (.invokevirtual 41, 3) := by decide +kernel
theorem dX8_toWatch_5 : decode cX8_toWatch 5 = .ok (.istore_n 2, 1) := by decide +kernel
theorem dX8_toWatch_6 : decode cX8_toWatch 6 = .ok (.iconst 0, 1) := by decide +kernel
theorem dX8_toWatch_7 : decode cX8_toWatch 7 = .ok (.istore_n 3, 1) := by decide +kernel
theorem dX8_toWatch_8 : decode cX8_toWatch 8 = .ok (.iconst 1, 1) := by decide +kernel
theorem dX8_toWatch_9 : decode cX8_toWatch 9 = .ok (.istore 4, 2) := by decide +kernel
theorem dX8_toWatch_11 : decode cX8_toWatch 11 = .ok (.iload 4, 2) := by decide +kernel
theorem dX8_toWatch_13 : decode cX8_toWatch 13 = .ok (.aload_n 0, 1) := by decide +kernel
theorem dX8_toWatch_14 : decode cX8_toWatch 14 = .ok (.getfield 9, 3) := by decide +kernel
theorem dX8_toWatch_17 : decode cX8_toWatch 17 = .ok (.invokevirtual 45, 3) := by decide +kernel
theorem dX8_toWatch_20 : decode cX8_toWatch 20 = .ok (.if_icmp .ge 30, 3) := by decide +kernel
theorem dX8_toWatch_23 : decode cX8_toWatch 23 = .ok (.aload_n 0, 1) := by decide +kernel
theorem dX8_toWatch_24 : decode cX8_toWatch 24 = .ok (.iload 4, 2) := by decide +kernel
theorem dX8_toWatch_26 : decode cX8_toWatch 26 = .ok (.iload_n 1, 1) := by decide +kernel
theorem dX8_toWatch_27 : decode cX8_toWatch 27 = .ok (.iload_n 2, 1) := by decide +kernel
theorem dX8_toWatch_28 : decode cX8_toWatch 28 = .ok (.invokevirtual 48, 3) := by decide +kernel
theorem dX8_toWatch_31 : decode cX8_toWatch 31 = .ok (.aload_n 0, 1) := by decide +kernel
theorem dX8_toWatch_32 : decode cX8_toWatch 32 = .ok (.iload_n 3, 1) := by decide +kernel
theorem dX8_toWatch_33 : decode cX8_toWatch 33 = .ok (.iload_n 1, 1) := by decide +kernel
theorem dX8_toWatch_34 : decode cX8_toWatch 34 = .ok (.iload_n 2, 1) := by decide +kernel
theorem dX8_toWatch_35 : decode cX8_toWatch 35 = .ok (.invokevirtual 48, 3) := by decide +kernel
theorem dX8_toWatch_38 : decode cX8_toWatch 38 = .ok (.if_icmp .ge 6, 3) := by decide +kernel
theorem dX8_toWatch_41 : decode cX8_toWatch 41 = .ok (.iload 4, 2) := by decide +kernel
theorem dX8_toWatch_43 : decode cX8_toWatch 43 = .ok (.istore_n 3, 1) := by decide +kernel
theorem dX8_toWatch_44 : decode cX8_toWatch 44 = .ok (.iinc 4 1, 3) := by decide +kernel
theorem dX8_toWatch_47 : decode cX8_toWatch 47 = .ok (.goto (-36), 3) := by decide +kernel
theorem dX8_toWatch_50 : decode cX8_toWatch 50 = .ok (.iload_n 3, 1) := by decide +kernel
theorem dX8_toWatch_51 : decode cX8_toWatch 51 = .ok (.ireturn, 1) := by decide +kernel
theorem dX8_apart_0 : decode cX8_apart 0 = .ok (.iconst 0, 1) := by decide +kernel
theorem dX8_apart_1 : decode cX8_apart 1 = .ok (.istore 4, 2) := by decide +kernel
theorem dX8_apart_3 : decode cX8_apart 3 = .ok (.iconst 0, 1) := by decide +kernel
theorem dX8_apart_4 : decode cX8_apart 4 = .ok (.istore 5, 2) := by decide +kernel
theorem dX8_apart_6 : decode cX8_apart 6 = .ok (.iload 5, 2) := by decide +kernel
theorem dX8_apart_8 : decode cX8_apart 8 = .ok (.aload_n 0, 1) := by decide +kernel
theorem dX8_apart_9 : decode cX8_apart 9 = .ok (.invokevirtual 27, 3) := by decide +kernel
theorem dX8_apart_12 : decode cX8_apart 12 = .ok (.if_icmp .ge 31, 3) := by decide +kernel
theorem dX8_apart_15 : decode cX8_apart 15 = .ok (.iload 5, 2) := by decide +kernel
theorem dX8_apart_17 : decode cX8_apart 17 = .ok (.iload_n 1, 1) := by decide +kernel
theorem dX8_apart_18 : decode cX8_apart 18 = .ok (.ishr, 1) := by decide +kernel
theorem dX8_apart_19 : decode cX8_apart 19 = .ok (.iconst 1, 1) := by decide +kernel
theorem dX8_apart_20 : decode cX8_apart 20 = .ok (.iand, 1) := by decide +kernel
theorem dX8_apart_21 : decode cX8_apart 21 = .ok (.ifCond .eq 16, 3) := by decide +kernel
theorem dX8_apart_24 : decode cX8_apart 24 = .ok (.aload_n 0, 1) := by decide +kernel
theorem dX8_apart_25 : decode cX8_apart 25 = .ok (.iload 5, 2) := by decide +kernel
theorem dX8_apart_27 : decode cX8_apart 27 = .ok (.iload_n 2, 1) := by decide +kernel
theorem dX8_apart_28 : decode cX8_apart 28 = .ok (.invokevirtual 37, 3) := by decide +kernel
theorem dX8_apart_31 : decode cX8_apart 31 = .ok (.ifCond .eq 6, 3) := by decide +kernel
theorem dX8_apart_34 : decode cX8_apart 34 = .ok (.iinc 4 1, 3) := by decide +kernel
theorem dX8_apart_37 : decode cX8_apart 37 = .ok (.iinc 5 1, 3) := by decide +kernel
theorem dX8_apart_40 : decode cX8_apart 40 = .ok (.goto (-34), 3) := by decide +kernel
theorem dX8_apart_43 : decode cX8_apart 43 = .ok (.iload_n 3, 1) := by decide +kernel
theorem dX8_apart_44 : decode cX8_apart 44 = .ok (.iconst 2, 1) := by decide +kernel
theorem dX8_apart_45 : decode cX8_apart 45 = .ok (.iload 4, 2) := by decide +kernel
theorem dX8_apart_47 : decode cX8_apart 47 = .ok (.imul, 1) := by decide +kernel
theorem dX8_apart_48 : decode cX8_apart 48 = .ok (.isub, 1) := by decide +kernel
theorem dX8_apart_49 : decode cX8_apart 49 = .ok (.invokestatic 52, 3) := by decide +kernel
theorem dX8_apart_52 : decode cX8_apart 52 = .ok (.ireturn, 1) := by decide +kernel
theorem dX8_fits_0 : decode cX8_fits 0 = .ok (.iload_n 1, 1) := by decide +kernel
theorem dX8_fits_1 : decode cX8_fits 1 = .ok (.invokestatic 57, 3) := by decide +kernel
theorem dX8_fits_4 : decode cX8_fits 4 = .ok (.iload_n 2, 1) := by decide +kernel
theorem dX8_fits_5 : decode cX8_fits 5 = .ok (.if_icmp .eq 5, 3) := by decide +kernel
theorem dX8_fits_8 : decode cX8_fits 8 = .ok (.iconst 0, 1) := by decide +kernel
theorem dX8_fits_9 : decode cX8_fits 9 = .ok (.ireturn, 1) := by decide +kernel
theorem dX8_fits_10 : decode cX8_fits 10 = .ok (.iconst 0, 1) := by decide +kernel
theorem dX8_fits_11 : decode cX8_fits 11 = .ok (.istore_n 3, 1) := by decide +kernel
theorem dX8_fits_12 : decode cX8_fits 12 = .ok (.iload_n 3, 1) := by decide +kernel
theorem dX8_fits_13 : decode cX8_fits 13 = .ok (.aload_n 0, 1) := by decide +kernel
theorem dX8_fits_14 : decode cX8_fits 14 = .ok (.getfield 23, 3) := by decide +kernel
theorem dX8_fits_17 : decode cX8_fits 17 = .ok (.if_icmp .ge 42, 3) := by decide +kernel
theorem dX8_fits_20 : decode cX8_fits 20 = .ok (.aload_n 0, 1) := by decide +kernel
theorem dX8_fits_21 : decode cX8_fits 21 = .ok (.getfield 15, 3) := by decide +kernel
theorem dX8_fits_24 : decode cX8_fits 24 = .ok (.iload_n 3, 1) := by decide +kernel
theorem dX8_fits_25 : decode cX8_fits 25 = .ok (.iaload, 1) := by decide +kernel
theorem dX8_fits_26 : decode cX8_fits 26 = .ok (.iload_n 1, 1) := by decide +kernel
theorem dX8_fits_27 : decode cX8_fits 27 = .ok (.iconst (-1), 1) := by decide +kernel
theorem dX8_fits_28 : decode cX8_fits 28 = .ok (.ixor, 1) := by decide +kernel
theorem dX8_fits_29 : decode cX8_fits 29 = .ok (.iand, 1) := by decide +kernel
theorem dX8_fits_30 : decode cX8_fits 30 = .ok (.ifCond .eq 7, 3) := by decide +kernel
theorem dX8_fits_33 : decode cX8_fits 33 = .ok (.iconst 1, 1) := by decide +kernel
theorem dX8_fits_34 : decode cX8_fits 34 = .ok (.goto 4, 3) := by decide +kernel
theorem dX8_fits_37 : decode cX8_fits 37 = .ok (.iconst 0, 1) := by decide +kernel
theorem dX8_fits_38 : decode cX8_fits 38 = .ok (.istore 4, 2) := by decide +kernel
theorem dX8_fits_40 : decode cX8_fits 40 = .ok (.iload 4, 2) := by decide +kernel
theorem dX8_fits_42 : decode cX8_fits 42 = .ok (.aload_n 0, 1) := by decide +kernel
theorem dX8_fits_43 : decode cX8_fits 43 = .ok (.getfield 19, 3) := by decide +kernel
theorem dX8_fits_46 : decode cX8_fits 46 = .ok (.iload_n 3, 1) := by decide +kernel
theorem dX8_fits_47 : decode cX8_fits 47 = .ok (.baload, 1) := by decide +kernel
theorem dX8_fits_48 : decode cX8_fits 48 = .ok (.if_icmp .eq 5, 3) := by decide +kernel
theorem dX8_fits_51 : decode cX8_fits 51 = .ok (.iconst 0, 1) := by decide +kernel
theorem dX8_fits_52 : decode cX8_fits 52 = .ok (.ireturn, 1) := by decide +kernel
theorem dX8_fits_53 : decode cX8_fits 53 = .ok (.iinc 3 1, 3) := by decide +kernel
theorem dX8_fits_56 : decode cX8_fits 56 = .ok (.goto (-44), 3) := by decide +kernel
theorem dX8_fits_59 : decode cX8_fits 59 = .ok (.iconst 1, 1) := by decide +kernel
theorem dX8_fits_60 : decode cX8_fits 60 = .ok (.ireturn, 1) := by decide +kernel
theorem dX8_allSets_0 : decode cX8_allSets 0 = .ok (.iconst 1, 1) := by decide +kernel
theorem dX8_allSets_1 : decode cX8_allSets 1 = .ok (.aload_n 0, 1) := by decide +kernel
theorem dX8_allSets_2 : decode cX8_allSets 2 = .ok (.getfield 9, 3) := by decide +kernel
theorem dX8_allSets_5 : decode cX8_allSets 5 = .ok (.invokevirtual 45, 3) := by decide +kernel
theorem dX8_allSets_8 : decode cX8_allSets 8 = .ok (.ishl, 1) := by decide +kernel
theorem dX8_allSets_9 : decode cX8_allSets 9 = .ok (.ireturn, 1) := by decide +kernel
