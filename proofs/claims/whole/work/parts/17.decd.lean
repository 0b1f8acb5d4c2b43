theorem dX11_feed_0 : decode cX11_feed 0 = .ok (.iload_n 1, 1) := by decide +kernel
theorem dX11_feed_1 : decode cX11_feed 1 = .ok (.invokestatic 98, 3) := by decide +kernel
theorem dX11_feed_4 : decode cX11_feed 4 = .ok (.iload_n 2, 1) := by decide +kernel
theorem dX11_feed_5 : decode cX11_feed 5 = .ok (.invokestatic 98, 3) := by decide +kernel
theorem dX11_feed_8 : decode cX11_feed 8 = .ok (.iadd, 1) := by decide +kernel
theorem dX11_feed_9 : decode cX11_feed 9 = .ok (.iload_n 3, 1) := by decide +kernel
theorem dX11_feed_10 : decode cX11_feed 10 = .ok (.invokestatic 98, 3) := by decide +kernel
theorem dX11_feed_13 : decode cX11_feed 13 = .ok (.iadd, 1) := by decide +kernel
theorem dX11_feed_14 : decode cX11_feed 14 = .ok (.iload 4, 2) := by decide +kernel
theorem dX11_feed_16 : decode cX11_feed 16 = .ok (.invokestatic 98, 3) := by decide +kernel
theorem dX11_feed_19 : decode cX11_feed 19 = .ok (.iadd, 1) := by decide +kernel
theorem dX11_feed_20 : decode cX11_feed 20 = .ok (.iload 5, 2) := by decide +kernel
theorem dX11_feed_22 : decode cX11_feed 22 = .ok (.invokestatic 98, 3) := by decide +kernel
theorem dX11_feed_25 : decode cX11_feed 25 = .ok (.iadd, 1) := by decide +kernel
theorem dX11_feed_26 : decode cX11_feed 26 = .ok (.istore 6, 2) := by decide +kernel
theorem dX11_feed_28 : decode cX11_feed 28 = .ok (.aload_n 0, 1) := by decide +kernel
theorem dX11_feed_29 : decode cX11_feed 29 = .ok (.getfield 10, 3) := by decide +kernel
theorem dX11_feed_32 : decode cX11_feed 32 = .ok (.invokevirtual 102, 3) := by decide +kernel
theorem dX11_feed_35 : decode cX11_feed 35 = .ok (.iload 6, 2) := by decide +kernel
theorem dX11_feed_37 : decode cX11_feed 37 = .ok (.iadd, 1) := by decide +kernel
theorem dX11_feed_38 : decode cX11_feed 38 = .ok (.sipush 240, 3) := by decide +kernel
theorem dX11_feed_41 : decode cX11_feed 41 = .ok (.if_icmp .le 5, 3) := by decide +kernel
theorem dX11_feed_44 : decode cX11_feed 44 = .ok (.iconst (-1), 1) := by decide +kernel
theorem dX11_feed_45 : decode cX11_feed 45 = .ok (.ireturn, 1) := by decide +kernel
theorem dX11_feed_46 : decode cX11_feed 46 = .ok (.aload_n 0, 1) := by decide +kernel
theorem dX11_feed_47 : decode cX11_feed 47 = .ok (.getfield 10, 3) := by decide +kernel
theorem dX11_feed_50 : decode cX11_feed 50 = .ok (.iload_n 1, 1) := by decide +kernel
theorem dX11_feed_51 : decode cX11_feed 51 = .ok (.invokevirtual 106, 3) := by decide +kernel
theorem dX11_feed_54 : decode cX11_feed 54 = .ok (.aload_n 0, 1) := by decide +kernel
theorem dX11_feed_55 : decode cX11_feed 55 = .ok (.getfield 10, 3) := by decide +kernel
theorem dX11_feed_58 : decode cX11_feed 58 = .ok (.iload_n 2, 1) := by decide +kernel
theorem dX11_feed_59 : decode cX11_feed 59 = .ok (.invokevirtual 106, 3) := by decide +kernel
theorem dX11_feed_62 : decode cX11_feed 62 = .ok (.aload_n 0, 1) := by decide +kernel
theorem dX11_feed_63 : decode cX11_feed 63 = .ok (.getfield 10, 3) := by decide +kernel
theorem dX11_feed_66 : decode cX11_feed 66 = .ok (.iload_n 3, 1) := by decide +kernel
theorem dX11_feed_67 : decode cX11_feed 67 = .ok (.invokevirtual 106, 3) := by decide +kernel
theorem dX11_feed_70 : decode cX11_feed 70 = .ok (.aload_n 0, 1) := by decide +kernel
theorem dX11_feed_71 : decode cX11_feed 71 = .ok (.getfield 10, 3) := by decide +kernel
theorem dX11_feed_74 : decode cX11_feed 74 = .ok (.iload 4, 2) := by decide +kernel
theorem dX11_feed_76 : decode cX11_feed 76 = .ok (.invokevirtual 106, 3) := by decide +kernel
theorem dX11_feed_79 : decode cX11_feed 79 = .ok (.aload_n 0, 1) := by decide +kernel
theorem dX11_feed_80 : decode cX11_feed 80 = .ok (.getfield 10, 3) := by decide +kernel
theorem dX11_feed_83 : decode cX11_feed 83 = .ok (.iload 5, 2) := by decide +kernel
theorem dX11_feed_85 : decode cX11_feed 85 = .ok (.invokevirtual 106, 3) := by decide +kernel
theorem dX11_feed_88 : decode cX11_feed 88 = .ok (.aload_n 0, 1) := by decide +kernel
theorem dX11_feed_89 : decode cX11_feed 89 = .ok (.getfield 10, 3) := by decide +kernel
theorem dX11_feed_92 : decode cX11_feed 92 = .ok (.invokevirtual 102, 3) := by decide +kernel
theorem dX11_feed_95 : decode cX11_feed 95 = .ok (.ireturn, 1) := by decide +kernel
theorem dX11_end_0 : decode cX11_end 0 = .ok (.aload_n 0, 1) := by decide +kernel
theorem dX11_end_1 : decode cX11_end 1 = .ok (.getfield 10, 3) := by decide +kernel
theorem dX11_end_4 : decode cX11_end 4 = .ok (.iload_n 1, 1) := by decide +kernel
theorem dX11_end_5 : decode cX11_end 5 = .ok (.invokevirtual 110, 3) := by decide +kernel
theorem dX11_end_8 : decode cX11_end 8 = .ok (.ireturn, 1) := by decide +kernel
theorem dX11_fault_0 : decode cX11_fault 0 = .ok (.iload_n 1, 1) := by decide +kernel
theorem dX11_fault_1 : decode cX11_fault 1 = .ok (.ifCond .ne 11, 3) := by decide +kernel
theorem dX11_fault_4 : decode cX11_fault 4 = .ok (.aload_n 0, 1) := by decide +kernel
theorem dX11_fault_5 : decode cX11_fault 5 = .ok (.getfield 28, 3) := by decide +kernel
theorem dX11_fault_8 : decode cX11_fault 8 = .ok (.invokevirtual 114, 3) := by decide +kernel
theorem dX11_fault_11 : decode cX11_fault 11 = .ok (.ireturn, 1) := by decide +kernel
theorem dX11_fault_12 : decode cX11_fault 12 = .ok (.iload_n 1, 1) := by decide +kernel
theorem dX11_fault_13 : decode cX11_fault 13 = .ok (.iconst 1, 1) := by decide +kernel
theorem dX11_fault_14 : decode cX11_fault 14 = .ok (.if_icmp .ne 13, 3) := by decide +kernel
theorem dX11_fault_17 : decode cX11_fault 17 = .ok (.aload_n 0, 1) := by decide +kernel
theorem dX11_fault_18 : decode cX11_fault 18 = .ok (.getfield 35, 3) := by decide +kernel
theorem dX11_fault_21 : decode cX11_fault 21 = .ok (.invokevirtual 117, 3) := by decide +kernel
theorem dX11_fault_24 : decode cX11_fault 24 = .ok (.goto 5, 3) := by decide +kernel
theorem dX11_fault_27 : decode cX11_fault 27 = .ok (.bipush (-2), 2) := by decide +kernel
theorem dX11_fault_29 : decode cX11_fault 29 = .ok (.ireturn, 1) := by decide +kernel
theorem dX11_text_0 : decode cX11_text 0 = .ok (.iload_n 1, 1) := by decide +kernel
theorem dX11_text_1 : decode cX11_text 1 = .ok (.ifCond .ne 26, 3) := by decide +kernel
theorem dX11_text_4 : decode cX11_text 4 = .ok (.aload_n 0, 1) := by decide +kernel
theorem dX11_text_5 : decode cX11_text 5 = .ok (.getfield 28, 3) := by decide +kernel
theorem dX11_text_8 : decode cX11_text 8 = .ok (.invokevirtual 114, 3) := by decide +kernel
theorem dX11_text_11 : decode cX11_text 11 = .ok (.iconst (-1), 1) := by decide +kernel
theorem dX11_text_12 : decode cX11_text 12 = .ok (.if_icmp .ne 15, 3) := by decide +kernel
theorem dX11_text_15 : decode cX11_text 15 = .ok (.aload_n 0, 1) := by decide +kernel
theorem dX11_text_16 : decode cX11_text 16 = .ok (.invokevirtual 118, 3) := by decide +kernel
theorem dX11_text_19 : decode cX11_text 19 = .ok (.aload_n 0, 1) := by decide +kernel
theorem dX11_text_20 : decode cX11_text 20 = .ok (.getfield 19, 3) := by decide +kernel
theorem dX11_text_23 : decode cX11_text 23 = .ok (.invokevirtual 121, 3) := by decide +kernel
theorem dX11_text_26 : decode cX11_text 26 = .ok (.ireturn, 1) := by decide +kernel
theorem dX11_text_27 : decode cX11_text 27 = .ok (.iload_n 1, 1) := by decide +kernel
theorem dX11_text_28 : decode cX11_text 28 = .ok (.iconst 1, 1) := by decide +kernel
theorem dX11_text_29 : decode cX11_text 29 = .ok (.if_icmp .ne 49, 3) := by decide +kernel
theorem dX11_text_32 : decode cX11_text 32 = .ok (.aload_n 0, 1) := by decide +kernel
theorem dX11_text_33 : decode cX11_text 33 = .ok (.getfield 65, 3) := by decide +kernel
theorem dX11_text_36 : decode cX11_text 36 = .ok (.invokevirtual 124, 3) := by decide +kernel
theorem dX11_text_39 : decode cX11_text 39 = .ok (.iconst 4, 1) := by decide +kernel
theorem dX11_text_40 : decode cX11_text 40 = .ok (.if_icmp .ge 38, 3) := by decide +kernel
theorem dX11_text_43 : decode cX11_text 43 = .ok (.aload_n 0, 1) := by decide +kernel
theorem dX11_text_44 : decode cX11_text 44 = .ok (.getfield 35, 3) := by decide +kernel
theorem dX11_text_47 : decode cX11_text 47 = .ok (.invokevirtual 117, 3) := by decide +kernel
theorem dX11_text_50 : decode cX11_text 50 = .ok (.iconst (-1), 1) := by decide +kernel
theorem dX11_text_51 : decode cX11_text 51 = .ok (.if_icmp .ne 27, 3) := by decide +kernel
theorem dX11_text_54 : decode cX11_text 54 = .ok (.aload_n 0, 1) := by decide +kernel
theorem dX11_text_55 : decode cX11_text 55 = .ok (.getfield 10, 3) := by decide +kernel
theorem dX11_text_58 : decode cX11_text 58 = .ok (.iconst 0, 1) := by decide +kernel
theorem dX11_text_59 : decode cX11_text 59 = .ok (.invokevirtual 110, 3) := by decide +kernel
theorem dX11_text_62 : decode cX11_text 62 = .ok (.pop, 1) := by decide +kernel
theorem dX11_text_63 : decode cX11_text 63 = .ok (.aload_n 0, 1) := by decide +kernel
theorem dX11_text_64 : decode cX11_text 64 = .ok (.getfield 65, 3) := by decide +kernel
theorem dX11_text_67 : decode cX11_text 67 = .ok (.aload_n 0, 1) := by decide +kernel
theorem dX11_text_68 : decode cX11_text 68 = .ok (.getfield 35, 3) := by decide +kernel
theorem dX11_text_71 : decode cX11_text 71 = .ok (.invokevirtual 127, 3) := by decide +kernel
theorem dX11_text_74 : decode cX11_text 74 = .ok (.invokevirtual 131, 3) := by decide +kernel
theorem dX11_text_77 : decode cX11_text 77 = .ok (.ireturn, 1) := by decide +kernel
theorem dX11_text_78 : decode cX11_text 78 = .ok (.iconst (-1), 1) := by decide +kernel
theorem dX11_text_79 : decode cX11_text 79 = .ok (.ireturn, 1) := by decide +kernel
theorem dX11_rule_0 : decode cX11_rule 0 = .ok (.aload_n 0, 1) := by decide +kernel
theorem dX11_rule_1 : decode cX11_rule 1 = .ok (.getfield 19, 3) := by decide +kernel
theorem dX11_rule_4 : decode cX11_rule 4 = .ok (.invokevirtual 135, 3) := by decide +kernel
theorem dX11_rule_7 : decode cX11_rule 7 = .ok (.ifCond .ne 12, 3) := by decide +kernel
theorem dX11_rule_10 : decode cX11_rule 10 = .ok (.iload_n 1, 1) := by decide +kernel
theorem dX11_rule_11 : decode cX11_rule 11 = .ok (.ifCond .lt 8, 3) := by decide +kernel
theorem dX11_rule_14 : decode cX11_rule 14 = .ok (.iload_n 1, 1) := by decide +kernel
theorem dX11_rule_15 : decode cX11_rule 15 = .ok (.iconst 2, 1) := by decide +kernel
theorem dX11_rule_16 : decode cX11_rule 16 = .ok (.if_icmp .le 5, 3) := by decide +kernel
theorem dX11_rule_19 : decode cX11_rule 19 = .ok (.iconst (-1), 1) := by decide +kernel
theorem dX11_rule_20 : decode cX11_rule 20 = .ok (.ireturn, 1) := by decide +kernel
theorem dX11_rule_21 : decode cX11_rule 21 = .ok (.aload_n 0, 1) := by decide +kernel
theorem dX11_rule_22 : decode cX11_rule 22 = .ok (.getfield 19, 3) := by decide +kernel
theorem dX11_rule_25 : decode cX11_rule 25 = .ok (.iload_n 1, 1) := by decide +kernel
theorem dX11_rule_26 : decode cX11_rule 26 = .ok (.invokevirtual 139, 3) := by decide +kernel
theorem dX11_rule_29 : decode cX11_rule 29 = .ok (.ireturn, 1) := by decide +kernel
theorem dX11_stretch_0 : decode cX11_stretch 0 = .ok (.aload_n 0, 1) := by decide +kernel
theorem dX11_stretch_1 : decode cX11_stretch 1 = .ok (.getfield 19, 3) := by decide +kernel
theorem dX11_stretch_4 : decode cX11_stretch 4 = .ok (.iload_n 1, 1) := by decide +kernel
theorem dX11_stretch_5 : decode cX11_stretch 5 = .ok (.invokevirtual 142, 3) := by decide +kernel
theorem dX11_stretch_8 : decode cX11_stretch 8 = .ok (.ifCond .ne 5, 3) := by decide +kernel
theorem dX11_stretch_11 : decode cX11_stretch 11 = .ok (.iconst (-1), 1) := by decide +kernel
theorem dX11_stretch_12 : decode cX11_stretch 12 = .ok (.ireturn, 1) := by decide +kernel
theorem dX11_stretch_13 : decode cX11_stretch 13 = .ok (.iload_n 2, 1) := by decide +kernel
theorem dX11_stretch_14 : decode cX11_stretch 14 = .ok (.tableswitch 82 0 4 #[34, 44, 54, 63, 72], 34) := by decide +kernel
theorem dX11_stretch_48 : decode cX11_stretch 48 = .ok (.aload_n 0, 1) := by decide +kernel
theorem dX11_stretch_49 : decode cX11_stretch 49 = .ok (.getfield 19, 3) := by decide +kernel
theorem dX11_stretch_52 : decode cX11_stretch 52 = .ok (.iload_n 1, 1) := by decide +kernel
theorem dX11_stretch_53 : decode cX11_stretch 53 = .ok (.iconst 0, 1) := by decide +kernel
theorem dX11_stretch_54 : decode cX11_stretch 54 = .ok (.invokevirtual 145, 3) := by decide +kernel
theorem dX11_stretch_57 : decode cX11_stretch 57 = .ok (.ireturn, 1) := by decide +kernel
theorem dX11_stretch_58 : decode cX11_stretch 58 = .ok (.aload_n 0, 1) := by decide +kernel
theorem dX11_stretch_59 : decode cX11_stretch 59 = .ok (.getfield 19, 3) := by decide +kernel
theorem dX11_stretch_62 : decode cX11_stretch 62 = .ok (.iload_n 1, 1) := by decide +kernel
theorem dX11_stretch_63 : decode cX11_stretch 63 = .ok (.iconst 1, 1) := by decide +kernel
theorem dX11_stretch_64 : decode cX11_stretch 64 = .ok (.invokevirtual 145, 3) := by decide +kernel
theorem dX11_stretch_67 : decode cX11_stretch 67 = .ok (.ireturn, 1) := by decide +kernel
theorem dX11_stretch_68 : decode cX11_stretch 68 = .ok (.aload_n 0, 1) := by decide +kernel
theorem dX11_stretch_69 : decode cX11_stretch 69 = .ok (.getfield 42, 3) := by decide +kernel
theorem dX11_stretch_72 : decode cX11_stretch 72 = .ok (.iload_n 1, 1) := by decide +kernel
theorem dX11_stretch_73 : decode cX11_stretch 73 = .ok (.invokevirtual 149, 3) := by decide +kernel
theorem dX11_stretch_76 : decode cX11_stretch 76 = .ok (.ireturn, 1) := by decide +kernel
theorem dX11_stretch_77 : decode cX11_stretch 77 = .ok (.aload_n 0, 1) := by decide +kernel
theorem dX11_stretch_78 : decode cX11_stretch 78 = .ok (.getfield 42, 3) := by decide +kernel
theorem dX11_stretch_81 : decode cX11_stretch 81 = .ok (.iload_n 1, 1) := by decide +kernel
theorem dX11_stretch_82 : decode cX11_stretch 82 = .ok (.invokevirtual 152, 3) := by decide +kernel
theorem dX11_stretch_85 : decode cX11_stretch 85 = .ok (.ireturn, 1) := by decide +kernel
theorem dX11_stretch_86 : decode cX11_stretch 86 = .ok (.aload_n 0, 1) := by decide +kernel
theorem dX11_stretch_87 : decode cX11_stretch 87 = .ok (.getfield 19, 3) := by decide +kernel
theorem dX11_stretch_90 : decode cX11_stretch 90 = .ok (.iload_n 1, 1) := by decide +kernel
theorem dX11_stretch_91 : decode cX11_stretch 91 = .ok (.iconst 4, 1) := by decide +kernel
theorem dX11_stretch_92 : decode cX11_stretch 92 = .ok (.invokevirtual 145, 3) := by decide +kernel
theorem dX11_stretch_95 : decode cX11_stretch 95 = .ok (.ireturn, 1) := by decide +kernel
theorem dX11_stretch_96 : decode cX11_stretch 96 = .ok (.iconst (-1), 1) := by decide +kernel
theorem dX11_stretch_97 : decode cX11_stretch 97 = .ok (.ireturn, 1) := by decide +kernel
theorem dX11_law_0 : decode cX11_law 0 = .ok (.aload_n 0, 1) := by decide +kernel
theorem dX11_law_1 : decode cX11_law 1 = .ok (.getfield 65, 3) := by decide +kernel
theorem dX11_law_4 : decode cX11_law 4 = .ok (.iload_n 1, 1) := by decide +kernel
theorem dX11_law_5 : decode cX11_law 5 = .ok (.invokevirtual 176, 3) := by decide +kernel
theorem dX11_law_8 : decode cX11_law 8 = .ok (.ireturn, 1) := by decide +kernel
theorem dX11_haul_0 : decode cX11_haul 0 = .ok (.aload_n 0, 1) := by decide +kernel
theorem dX11_haul_1 : decode cX11_haul 1 = .ok (.getfield 19, 3) := by decide +kernel
theorem dX11_haul_4 : decode cX11_haul 4 = .ok (.iload_n 1, 1) := by decide +kernel
theorem dX11_haul_5 : decode cX11_haul 5 = .ok (.invokevirtual 155, 3) := by decide +kernel
theorem dX11_haul_8 : decode cX11_haul 8 = .ok (.ifCond .eq 14, 3) := by decide +kernel
theorem dX11_haul_11 : decode cX11_haul 11 = .ok (.aload_n 0, 1) := by decide +kernel
theorem dX11_haul_12 : decode cX11_haul 12 = .ok (.getfield 19, 3) := by decide +kernel
theorem dX11_haul_15 : decode cX11_haul 15 = .ok (.iload_n 2, 1) := by decide +kernel
theorem dX11_haul_16 : decode cX11_haul 16 = .ok (.invokevirtual 142, 3) := by decide +kernel
theorem dX11_haul_19 : decode cX11_haul 19 = .ok (.ifCond .ne 5, 3) := by decide +kernel
theorem dX11_haul_22 : decode cX11_haul 22 = .ok (.iconst (-1), 1) := by decide +kernel
theorem dX11_haul_23 : decode cX11_haul 23 = .ok (.ireturn, 1) := by decide +kernel
theorem dX11_haul_24 : decode cX11_haul 24 = .ok (.aload_n 0, 1) := by decide +kernel
theorem dX11_haul_25 : decode cX11_haul 25 = .ok (.getfield 19, 3) := by decide +kernel
theorem dX11_haul_28 : decode cX11_haul 28 = .ok (.iload_n 1, 1) := by decide +kernel
theorem dX11_haul_29 : decode cX11_haul 29 = .ok (.iload_n 2, 1) := by decide +kernel
theorem dX11_haul_30 : decode cX11_haul 30 = .ok (.invokevirtual 179, 3) := by decide +kernel
theorem dX11_haul_33 : decode cX11_haul 33 = .ok (.ireturn, 1) := by decide +kernel
theorem dX11_does_0 : decode cX11_does 0 = .ok (.aload_n 0, 1) := by decide +kernel
theorem dX11_does_1 : decode cX11_does 1 = .ok (.getfield 19, 3) := by decide +kernel
theorem dX11_does_4 : decode cX11_does 4 = .ok (.iload_n 1, 1) := by decide +kernel
theorem dX11_does_5 : decode cX11_does 5 = .ok (.invokevirtual 155, 3) := by decide +kernel
theorem dX11_does_8 : decode cX11_does 8 = .ok (.ifCond .eq 23, 3) := by decide +kernel
theorem dX11_does_11 : decode cX11_does 11 = .ok (.aload_n 0, 1) := by decide +kernel
theorem dX11_does_12 : decode cX11_does 12 = .ok (.getfield 19, 3) := by decide +kernel
theorem dX11_does_15 : decode cX11_does 15 = .ok (.iload_n 2, 1) := by decide +kernel
theorem dX11_does_16 : decode cX11_does 16 = .ok (.invokevirtual 142, 3) := by decide +kernel
theorem dX11_does_19 : decode cX11_does 19 = .ok (.ifCond .eq 12, 3) := by decide +kernel
theorem dX11_does_22 : decode cX11_does 22 = .ok (.iload_n 3, 1) := by decide +kernel
theorem dX11_does_23 : decode cX11_does 23 = .ok (.ifCond .lt 8, 3) := by decide +kernel
theorem dX11_does_26 : decode cX11_does 26 = .ok (.iload_n 3, 1) := by decide +kernel
theorem dX11_does_27 : decode cX11_does 27 = .ok (.iconst 4, 1) := by decide +kernel
theorem dX11_does_28 : decode cX11_does 28 = .ok (.if_icmp .lt 5, 3) := by decide +kernel
theorem dX11_does_31 : decode cX11_does 31 = .ok (.iconst (-1), 1) := by decide +kernel
theorem dX11_does_32 : decode cX11_does 32 = .ok (.ireturn, 1) := by decide +kernel
theorem dX11_does_33 : decode cX11_does 33 = .ok (.aload_n 0, 1) := by decide +kernel
theorem dX11_does_34 : decode cX11_does 34 = .ok (.getfield 65, 3) := by decide +kernel
theorem dX11_does_37 : decode cX11_does 37 = .ok (.iload_n 1, 1) := by decide +kernel
theorem dX11_does_38 : decode cX11_does 38 = .ok (.iload_n 2, 1) := by decide +kernel
theorem dX11_does_39 : decode cX11_does 39 = .ok (.iload_n 3, 1) := by decide +kernel
theorem dX11_does_40 : decode cX11_does 40 = .ok (.invokevirtual 182, 3) := by decide +kernel
theorem dX11_does_43 : decode cX11_does 43 = .ok (.ifCond .ne 5, 3) := by decide +kernel
theorem dX11_does_46 : decode cX11_does 46 = .ok (.iconst (-1), 1) := by decide +kernel
theorem dX11_does_47 : decode cX11_does 47 = .ok (.ireturn, 1) := by decide +kernel
theorem dX11_does_48 : decode cX11_does 48 = .ok (.aload_n 0, 1) := by decide +kernel
theorem dX11_does_49 : decode cX11_does 49 = .ok (.getfield 65, 3) := by decide +kernel
theorem dX11_does_52 : decode cX11_does 52 = .ok (.iload_n 1, 1) := by decide +kernel
theorem dX11_does_53 : decode cX11_does 53 = .ok (.iload_n 2, 1) := by decide +kernel
theorem dX11_does_54 : decode cX11_does 54 = .ok (.iload_n 3, 1) := by decide +kernel
theorem dX11_does_55 : decode cX11_does 55 = .ok (.aload_n 0, 1) := by decide +kernel
theorem dX11_does_56 : decode cX11_does 56 = .ok (.getfield 42, 3) := by decide +kernel
theorem dX11_does_59 : decode cX11_does 59 = .ok (.iload_n 2, 1) := by decide +kernel
theorem dX11_does_60 : decode cX11_does 60 = .ok (.invokevirtual 149, 3) := by decide +kernel
theorem dX11_does_63 : decode cX11_does 63 = .ok (.invokevirtual 186, 3) := by decide +kernel
theorem dX11_does_66 : decode cX11_does 66 = .ok (.ireturn, 1) := by decide +kernel
theorem dX11_work_0 : decode cX11_work 0 = .ok (.aload_n 0, 1) := by decide +kernel
theorem dX11_work_1 : decode cX11_work 1 = .ok (.getfield 19, 3) := by decide +kernel
theorem dX11_work_4 : decode cX11_work 4 = .ok (.iload_n 1, 1) := by decide +kernel
theorem dX11_work_5 : decode cX11_work 5 = .ok (.invokevirtual 155, 3) := by decide +kernel
theorem dX11_work_8 : decode cX11_work 8 = .ok (.ifCond .eq 14, 3) := by decide +kernel
theorem dX11_work_11 : decode cX11_work 11 = .ok (.aload_n 0, 1) := by decide +kernel
theorem dX11_work_12 : decode cX11_work 12 = .ok (.getfield 19, 3) := by decide +kernel
theorem dX11_work_15 : decode cX11_work 15 = .ok (.iload_n 2, 1) := by decide +kernel
theorem dX11_work_16 : decode cX11_work 16 = .ok (.invokevirtual 142, 3) := by decide +kernel
theorem dX11_work_19 : decode cX11_work 19 = .ok (.ifCond .ne 9, 3) := by decide +kernel
theorem dX11_work_22 : decode cX11_work 22 = .ok (.aload_n 0, 1) := by decide +kernel
theorem dX11_work_23 : decode cX11_work 23 = .ok (.iconst 0, 1) := by decide +kernel
theorem dX11_work_24 : decode cX11_work 24 = .ok (.invokevirtual 190, 3) := by decide +kernel
theorem dX11_work_27 : decode cX11_work 27 = .ok (.ireturn, 1) := by decide +kernel
theorem dX11_work_28 : decode cX11_work 28 = .ok (.iload_n 3, 1) := by decide +kernel
theorem dX11_work_29 : decode cX11_work 29 = .ok (.ifCond .lt 8, 3) := by decide +kernel
theorem dX11_work_32 : decode cX11_work 32 = .ok (.iload_n 3, 1) := by decide +kernel
theorem dX11_work_33 : decode cX11_work 33 = .ok (.iconst 4, 1) := by decide +kernel
theorem dX11_work_34 : decode cX11_work 34 = .ok (.if_icmp .lt 9, 3) := by decide +kernel
theorem dX11_work_37 : decode cX11_work 37 = .ok (.aload_n 0, 1) := by decide +kernel
theorem dX11_work_38 : decode cX11_work 38 = .ok (.iconst 1, 1) := by decide +kernel
theorem dX11_work_39 : decode cX11_work 39 = .ok (.invokevirtual 190, 3) := by decide +kernel
theorem dX11_work_42 : decode cX11_work 42 = .ok (.ireturn, 1) := by decide +kernel
theorem dX11_work_43 : decode cX11_work 43 = .ok (.aload_n 0, 1) := by decide +kernel
theorem dX11_work_44 : decode cX11_work 44 = .ok (.getfield 42, 3) := by decide +kernel
theorem dX11_work_47 : decode cX11_work 47 = .ok (.iload_n 1, 1) := by decide +kernel
theorem dX11_work_48 : decode cX11_work 48 = .ok (.invokevirtual 168, 3) := by decide +kernel
theorem dX11_work_51 : decode cX11_work 51 = .ok (.iconst 1, 1) := by decide +kernel
theorem dX11_work_52 : decode cX11_work 52 = .ok (.if_icmp .lt 16, 3) := by decide +kernel
theorem dX11_work_55 : decode cX11_work 55 = .ok (.aload_n 0, 1) := by decide +kernel
theorem dX11_work_56 : decode cX11_work 56 = .ok (.getfield 65, 3) := by decide +kernel
theorem dX11_work_59 : decode cX11_work 59 = .ok (.iload_n 1, 1) := by decide +kernel
theorem dX11_work_60 : decode cX11_work 60 = .ok (.iload_n 2, 1) := by decide +kernel
theorem dX11_work_61 : decode cX11_work 61 = .ok (.iload_n 3, 1) := by decide +kernel
theorem dX11_work_62 : decode cX11_work 62 = .ok (.invokevirtual 182, 3) := by decide +kernel
theorem dX11_work_65 : decode cX11_work 65 = .ok (.ifCond .ne 9, 3) := by decide +kernel
theorem dX11_work_68 : decode cX11_work 68 = .ok (.aload_n 0, 1) := by decide +kernel
theorem dX11_work_69 : decode cX11_work 69 = .ok (.iconst 2, 1) := by decide +kernel
theorem dX11_work_70 : decode cX11_work 70 = .ok (.invokevirtual 190, 3) := by decide +kernel
theorem dX11_work_73 : decode cX11_work 73 = .ok (.ireturn, 1) := by decide +kernel
theorem dX11_work_74 : decode cX11_work 74 = .ok (.aload_n 0, 1) := by decide +kernel
theorem dX11_work_75 : decode cX11_work 75 = .ok (.getfield 56, 3) := by decide +kernel
theorem dX11_work_78 : decode cX11_work 78 = .ok (.aload_n 0, 1) := by decide +kernel
theorem dX11_work_79 : decode cX11_work 79 = .ok (.getfield 42, 3) := by decide +kernel
theorem dX11_work_82 : decode cX11_work 82 = .ok (.invokevirtual 193, 3) := by decide +kernel
theorem dX11_work_85 : decode cX11_work 85 = .ok (.aload_n 0, 1) := by decide +kernel
theorem dX11_work_86 : decode cX11_work 86 = .ok (.getfield 65, 3) := by decide +kernel
theorem dX11_work_89 : decode cX11_work 89 = .ok (.iload_n 1, 1) := by decide +kernel
theorem dX11_work_90 : decode cX11_work 90 = .ok (.iload_n 2, 1) := by decide +kernel
theorem dX11_work_91 : decode cX11_work 91 = .ok (.iload_n 3, 1) := by decide +kernel
theorem dX11_work_92 : decode cX11_work 92 = .ok (.invokevirtual 197, 3) := by decide +kernel
theorem dX11_work_95 : decode cX11_work 95 = .ok (.aload_n 0, 1) := by decide +kernel
theorem dX11_work_96 : decode cX11_work 96 = .ok (.getfield 42, 3) := by decide +kernel
theorem dX11_work_99 : decode cX11_work 99 = .ok (.iload_n 2, 1) := by decide +kernel
theorem dX11_work_100 : decode cX11_work 100 = .ok (.invokevirtual 149, 3) := by decide +kernel
theorem dX11_work_103 : decode cX11_work 103 = .ok (.ireturn, 1) := by decide +kernel
theorem dX11_pay_0 : decode cX11_pay 0 = .ok (.aload_n 0, 1) := by decide +kernel
theorem dX11_pay_1 : decode cX11_pay 1 = .ok (.getfield 19, 3) := by decide +kernel
theorem dX11_pay_4 : decode cX11_pay 4 = .ok (.iload_n 1, 1) := by decide +kernel
theorem dX11_pay_5 : decode cX11_pay 5 = .ok (.invokevirtual 155, 3) := by decide +kernel
theorem dX11_pay_8 : decode cX11_pay 8 = .ok (.ifCond .ne 9, 3) := by decide +kernel
theorem dX11_pay_11 : decode cX11_pay 11 = .ok (.aload_n 0, 1) := by decide +kernel
theorem dX11_pay_12 : decode cX11_pay 12 = .ok (.iconst 0, 1) := by decide +kernel
theorem dX11_pay_13 : decode cX11_pay 13 = .ok (.invokevirtual 190, 3) := by decide +kernel
theorem dX11_pay_16 : decode cX11_pay 16 = .ok (.ireturn, 1) := by decide +kernel
theorem dX11_pay_17 : decode cX11_pay 17 = .ok (.iload_n 2, 1) := by decide +kernel
theorem dX11_pay_18 : decode cX11_pay 18 = .ok (.iconst 1, 1) := by decide +kernel
theorem dX11_pay_19 : decode cX11_pay 19 = .ok (.if_icmp .lt 9, 3) := by decide +kernel
theorem dX11_pay_22 : decode cX11_pay 22 = .ok (.iload_n 2, 1) := by decide +kernel
theorem dX11_pay_23 : decode cX11_pay 23 = .ok (.bipush 9, 2) := by decide +kernel
theorem dX11_pay_25 : decode cX11_pay 25 = .ok (.if_icmp .le 9, 3) := by decide +kernel
theorem dX11_pay_28 : decode cX11_pay 28 = .ok (.aload_n 0, 1) := by decide +kernel
theorem dX11_pay_29 : decode cX11_pay 29 = .ok (.iconst 1, 1) := by decide +kernel
theorem dX11_pay_30 : decode cX11_pay 30 = .ok (.invokevirtual 190, 3) := by decide +kernel
theorem dX11_pay_33 : decode cX11_pay 33 = .ok (.ireturn, 1) := by decide +kernel
theorem dX11_pay_34 : decode cX11_pay 34 = .ok (.aload_n 0, 1) := by decide +kernel
theorem dX11_pay_35 : decode cX11_pay 35 = .ok (.getfield 42, 3) := by decide +kernel
theorem dX11_pay_38 : decode cX11_pay 38 = .ok (.iload_n 1, 1) := by decide +kernel
theorem dX11_pay_39 : decode cX11_pay 39 = .ok (.invokevirtual 168, 3) := by decide +kernel
theorem dX11_pay_42 : decode cX11_pay 42 = .ok (.iload_n 2, 1) := by decide +kernel
theorem dX11_pay_43 : decode cX11_pay 43 = .ok (.if_icmp .ge 9, 3) := by decide +kernel
theorem dX11_pay_46 : decode cX11_pay 46 = .ok (.aload_n 0, 1) := by decide +kernel
theorem dX11_pay_47 : decode cX11_pay 47 = .ok (.iconst 2, 1) := by decide +kernel
theorem dX11_pay_48 : decode cX11_pay 48 = .ok (.invokevirtual 190, 3) := by decide +kernel
theorem dX11_pay_51 : decode cX11_pay 51 = .ok (.ireturn, 1) := by decide +kernel
theorem dX11_pay_52 : decode cX11_pay 52 = .ok (.aload_n 0, 1) := by decide +kernel
theorem dX11_pay_53 : decode cX11_pay 53 = .ok (.getfield 56, 3) := by decide +kernel
theorem dX11_pay_56 : decode cX11_pay 56 = .ok (.aload_n 0, 1) := by decide +kernel
theorem dX11_pay_57 : decode cX11_pay 57 = .ok (.getfield 42, 3) := by decide +kernel
theorem dX11_pay_60 : decode cX11_pay 60 = .ok (.invokevirtual 193, 3) := by decide +kernel
theorem dX11_pay_63 : decode cX11_pay 63 = .ok (.aload_n 0, 1) := by decide +kernel
theorem dX11_pay_64 : decode cX11_pay 64 = .ok (.getfield 42, 3) := by decide +kernel
theorem dX11_pay_67 : decode cX11_pay 67 = .ok (.iload_n 1, 1) := by decide +kernel
theorem dX11_pay_68 : decode cX11_pay 68 = .ok (.aload_n 0, 1) := by decide +kernel
theorem dX11_pay_69 : decode cX11_pay 69 = .ok (.getfield 42, 3) := by decide +kernel
theorem dX11_pay_72 : decode cX11_pay 72 = .ok (.iload_n 1, 1) := by decide +kernel
theorem dX11_pay_73 : decode cX11_pay 73 = .ok (.invokevirtual 168, 3) := by decide +kernel
theorem dX11_pay_76 : decode cX11_pay 76 = .ok (.iload_n 2, 1) := by decide +kernel
theorem dX11_pay_77 : decode cX11_pay 77 = .ok (.isub, 1) := by decide +kernel
theorem dX11_pay_78 : decode cX11_pay 78 = .ok (.invokevirtual 201, 3) := by decide +kernel
theorem dX11_pay_81 : decode cX11_pay 81 = .ok (.aload_n 0, 1) := by decide +kernel
theorem dX11_pay_82 : decode cX11_pay 82 = .ok (.getfield 42, 3) := by decide +kernel
theorem dX11_pay_85 : decode cX11_pay 85 = .ok (.iload_n 2, 1) := by decide +kernel
theorem dX11_pay_86 : decode cX11_pay 86 = .ok (.aload_n 0, 1) := by decide +kernel
theorem dX11_pay_87 : decode cX11_pay 87 = .ok (.getfield 19, 3) := by decide +kernel
theorem dX11_pay_90 : decode cX11_pay 90 = .ok (.iconst 2, 1) := by decide +kernel
theorem dX11_pay_91 : decode cX11_pay 91 = .ok (.invokevirtual 139, 3) := by decide +kernel
theorem dX11_pay_94 : decode cX11_pay 94 = .ok (.imul, 1) := by decide +kernel
theorem dX11_pay_95 : decode cX11_pay 95 = .ok (.invokevirtual 205, 3) := by decide +kernel
theorem dX11_pay_98 : decode cX11_pay 98 = .ok (.aload_n 0, 1) := by decide +kernel
theorem dX11_pay_99 : decode cX11_pay 99 = .ok (.getfield 42, 3) := by decide +kernel
theorem dX11_pay_102 : decode cX11_pay 102 = .ok (.invokevirtual 208, 3) := by decide +kernel
theorem dX11_pay_105 : decode cX11_pay 105 = .ok (.ireturn, 1) := by decide +kernel
theorem dX11_ditch_0 : decode cX11_ditch 0 = .ok (.aload_n 0, 1) := by decide +kernel
theorem dX11_ditch_1 : decode cX11_ditch 1 = .ok (.getfield 19, 3) := by decide +kernel
theorem dX11_ditch_4 : decode cX11_ditch 4 = .ok (.iload_n 1, 1) := by decide +kernel
theorem dX11_ditch_5 : decode cX11_ditch 5 = .ok (.invokevirtual 142, 3) := by decide +kernel
theorem dX11_ditch_8 : decode cX11_ditch 8 = .ok (.ifCond .ne 9, 3) := by decide +kernel
theorem dX11_ditch_11 : decode cX11_ditch 11 = .ok (.aload_n 0, 1) := by decide +kernel
theorem dX11_ditch_12 : decode cX11_ditch 12 = .ok (.iconst 0, 1) := by decide +kernel
theorem dX11_ditch_13 : decode cX11_ditch 13 = .ok (.invokevirtual 190, 3) := by decide +kernel
theorem dX11_ditch_16 : decode cX11_ditch 16 = .ok (.ireturn, 1) := by decide +kernel
theorem dX11_ditch_17 : decode cX11_ditch 17 = .ok (.aload_n 0, 1) := by decide +kernel
theorem dX11_ditch_18 : decode cX11_ditch 18 = .ok (.getfield 42, 3) := by decide +kernel
theorem dX11_ditch_21 : decode cX11_ditch 21 = .ok (.invokevirtual 208, 3) := by decide +kernel
theorem dX11_ditch_24 : decode cX11_ditch 24 = .ok (.iconst 2, 1) := by decide +kernel
theorem dX11_ditch_25 : decode cX11_ditch 25 = .ok (.if_icmp .lt 15, 3) := by decide +kernel
theorem dX11_ditch_28 : decode cX11_ditch 28 = .ok (.aload_n 0, 1) := by decide +kernel
theorem dX11_ditch_29 : decode cX11_ditch 29 = .ok (.getfield 42, 3) := by decide +kernel
theorem dX11_ditch_32 : decode cX11_ditch 32 = .ok (.iload_n 1, 1) := by decide +kernel
theorem dX11_ditch_33 : decode cX11_ditch 33 = .ok (.invokevirtual 152, 3) := by decide +kernel
theorem dX11_ditch_36 : decode cX11_ditch 36 = .ok (.iconst 1, 1) := by decide +kernel
theorem dX11_ditch_37 : decode cX11_ditch 37 = .ok (.if_icmp .ge 9, 3) := by decide +kernel
theorem dX11_ditch_40 : decode cX11_ditch 40 = .ok (.aload_n 0, 1) := by decide +kernel
theorem dX11_ditch_41 : decode cX11_ditch 41 = .ok (.iconst 3, 1) := by decide +kernel
theorem dX11_ditch_42 : decode cX11_ditch 42 = .ok (.invokevirtual 190, 3) := by decide +kernel
theorem dX11_ditch_45 : decode cX11_ditch 45 = .ok (.ireturn, 1) := by decide +kernel
theorem dX11_ditch_46 : decode cX11_ditch 46 = .ok (.aload_n 0, 1) := by decide +kernel
theorem dX11_ditch_47 : decode cX11_ditch 47 = .ok (.getfield 56, 3) := by decide +kernel
theorem dX11_ditch_50 : decode cX11_ditch 50 = .ok (.aload_n 0, 1) := by decide +kernel
theorem dX11_ditch_51 : decode cX11_ditch 51 = .ok (.getfield 42, 3) := by decide +kernel
theorem dX11_ditch_54 : decode cX11_ditch 54 = .ok (.invokevirtual 193, 3) := by decide +kernel
theorem dX11_ditch_57 : decode cX11_ditch 57 = .ok (.aload_n 0, 1) := by decide +kernel
theorem dX11_ditch_58 : decode cX11_ditch 58 = .ok (.getfield 65, 3) := by decide +kernel
theorem dX11_ditch_61 : decode cX11_ditch 61 = .ok (.iload_n 1, 1) := by decide +kernel
theorem dX11_ditch_62 : decode cX11_ditch 62 = .ok (.invokevirtual 211, 3) := by decide +kernel
theorem dX11_ditch_65 : decode cX11_ditch 65 = .ok (.aload_n 0, 1) := by decide +kernel
theorem dX11_ditch_66 : decode cX11_ditch 66 = .ok (.getfield 42, 3) := by decide +kernel
theorem dX11_ditch_69 : decode cX11_ditch 69 = .ok (.iload_n 1, 1) := by decide +kernel
theorem dX11_ditch_70 : decode cX11_ditch 70 = .ok (.invokevirtual 152, 3) := by decide +kernel
theorem dX11_ditch_73 : decode cX11_ditch 73 = .ok (.ireturn, 1) := by decide +kernel
theorem dX11_seasons_0 : decode cX11_seasons 0 = .ok (.aload_n 0, 1) := by decide +kernel
theorem dX11_seasons_1 : decode cX11_seasons 1 = .ok (.getfield 19, 3) := by decide +kernel
theorem dX11_seasons_4 : decode cX11_seasons 4 = .ok (.invokevirtual 135, 3) := by decide +kernel
theorem dX11_seasons_7 : decode cX11_seasons 7 = .ok (.ifCond .eq 9, 3) := by decide +kernel
theorem dX11_seasons_10 : decode cX11_seasons 10 = .ok (.aload_n 0, 1) := by decide +kernel
theorem dX11_seasons_11 : decode cX11_seasons 11 = .ok (.iconst 0, 1) := by decide +kernel
theorem dX11_seasons_12 : decode cX11_seasons 12 = .ok (.invokevirtual 190, 3) := by decide +kernel
theorem dX11_seasons_15 : decode cX11_seasons 15 = .ok (.ireturn, 1) := by decide +kernel
theorem dX11_seasons_16 : decode cX11_seasons 16 = .ok (.iload_n 1, 1) := by decide +kernel
theorem dX11_seasons_17 : decode cX11_seasons 17 = .ok (.iconst 1, 1) := by decide +kernel
theorem dX11_seasons_18 : decode cX11_seasons 18 = .ok (.if_icmp .lt 9, 3) := by decide +kernel
theorem dX11_seasons_21 : decode cX11_seasons 21 = .ok (.iload_n 1, 1) := by decide +kernel
theorem dX11_seasons_22 : decode cX11_seasons 22 = .ok (.bipush 60, 2) := by decide +kernel
theorem dX11_seasons_24 : decode cX11_seasons 24 = .ok (.if_icmp .le 9, 3) := by decide +kernel
theorem dX11_seasons_27 : decode cX11_seasons 27 = .ok (.aload_n 0, 1) := by decide +kernel
theorem dX11_seasons_28 : decode cX11_seasons 28 = .ok (.iconst 1, 1) := by decide +kernel
theorem dX11_seasons_29 : decode cX11_seasons 29 = .ok (.invokevirtual 190, 3) := by decide +kernel
theorem dX11_seasons_32 : decode cX11_seasons 32 = .ok (.ireturn, 1) := by decide +kernel
theorem dX11_seasons_33 : decode cX11_seasons 33 = .ok (.aload_n 0, 1) := by decide +kernel
theorem dX11_seasons_34 : decode cX11_seasons 34 = .ok (.getfield 42, 3) := by decide +kernel
theorem dX11_seasons_37 : decode cX11_seasons 37 = .ok (.invokevirtual 214, 3) := by decide +kernel
theorem dX11_seasons_40 : decode cX11_seasons 40 = .ok (.iload_n 1, 1) := by decide +kernel
theorem dX11_seasons_41 : decode cX11_seasons 41 = .ok (.iadd, 1) := by decide +kernel
theorem dX11_seasons_42 : decode cX11_seasons 42 = .ok (.sipush 3999, 3) := by decide +kernel
theorem dX11_seasons_45 : decode cX11_seasons 45 = .ok (.if_icmp .le 9, 3) := by decide +kernel
theorem dX11_seasons_48 : decode cX11_seasons 48 = .ok (.aload_n 0, 1) := by decide +kernel
theorem dX11_seasons_49 : decode cX11_seasons 49 = .ok (.iconst 4, 1) := by decide +kernel
theorem dX11_seasons_50 : decode cX11_seasons 50 = .ok (.invokevirtual 190, 3) := by decide +kernel
theorem dX11_seasons_53 : decode cX11_seasons 53 = .ok (.ireturn, 1) := by decide +kernel
theorem dX11_seasons_54 : decode cX11_seasons 54 = .ok (.iconst 0, 1) := by decide +kernel
theorem dX11_seasons_55 : decode cX11_seasons 55 = .ok (.istore_n 2, 1) := by decide +kernel
theorem dX11_seasons_56 : decode cX11_seasons 56 = .ok (.iload_n 2, 1) := by decide +kernel
theorem dX11_seasons_57 : decode cX11_seasons 57 = .ok (.iload_n 1, 1) := by decide +kernel
theorem dX11_seasons_58 : decode cX11_seasons 58 = .ok (.if_icmp .ge 27, 3) := by decide +kernel
theorem dX11_seasons_61 : decode cX11_seasons 61 = .ok (.aload_n 0, 1) := by decide +kernel
theorem dX11_seasons_62 : decode cX11_seasons 62 = .ok (.getfield 56, 3) := by decide +kernel
theorem dX11_seasons_65 : decode cX11_seasons 65 = .ok (.aload_n 0, 1) := by decide +kernel
theorem dX11_seasons_66 : decode cX11_seasons 66 = .ok (.getfield 42, 3) := by decide +kernel
theorem dX11_seasons_69 : decode cX11_seasons 69 = .ok (.invokevirtual 193, 3) := by decide +kernel
theorem dX11_seasons_72 : decode cX11_seasons 72 = .ok (.aload_n 0, 1) := by decide +kernel
theorem dX11_seasons_73 : decode cX11_seasons 73 = .ok (.getfield 65, 3) := by decide +kernel
theorem dX11_seasons_76 : decode cX11_seasons 76 = .ok (.invokevirtual 217, 3) := by decide +kernel
theorem dX11_seasons_79 : decode cX11_seasons 79 = .ok (.iinc 2 1, 3) := by decide +kernel
theorem dX11_seasons_82 : decode cX11_seasons 82 = .ok (.goto (-26), 3) := by decide +kernel
theorem dX11_seasons_85 : decode cX11_seasons 85 = .ok (.aload_n 0, 1) := by decide +kernel
theorem dX11_seasons_86 : decode cX11_seasons 86 = .ok (.getfield 42, 3) := by decide +kernel
theorem dX11_seasons_89 : decode cX11_seasons 89 = .ok (.invokevirtual 214, 3) := by decide +kernel
theorem dX11_seasons_92 : decode cX11_seasons 92 = .ok (.ireturn, 1) := by decide +kernel
theorem dX11_years_0 : decode cX11_years 0 = .ok (.aload_n 0, 1) := by decide +kernel
theorem dX11_years_1 : decode cX11_years 1 = .ok (.getfield 19, 3) := by decide +kernel
theorem dX11_years_4 : decode cX11_years 4 = .ok (.invokevirtual 135, 3) := by decide +kernel
theorem dX11_years_7 : decode cX11_years 7 = .ok (.ifCond .ne 29, 3) := by decide +kernel
theorem dX11_years_10 : decode cX11_years 10 = .ok (.iload_n 1, 1) := by decide +kernel
theorem dX11_years_11 : decode cX11_years 11 = .ok (.iconst 1, 1) := by decide +kernel
theorem dX11_years_12 : decode cX11_years 12 = .ok (.if_icmp .lt 24, 3) := by decide +kernel
theorem dX11_years_15 : decode cX11_years 15 = .ok (.iload_n 1, 1) := by decide +kernel
theorem dX11_years_16 : decode cX11_years 16 = .ok (.bipush 60, 2) := by decide +kernel
theorem dX11_years_18 : decode cX11_years 18 = .ok (.if_icmp .gt 18, 3) := by decide +kernel
theorem dX11_years_21 : decode cX11_years 21 = .ok (.aload_n 0, 1) := by decide +kernel
theorem dX11_years_22 : decode cX11_years 22 = .ok (.getfield 42, 3) := by decide +kernel
theorem dX11_years_25 : decode cX11_years 25 = .ok (.invokevirtual 214, 3) := by decide +kernel
theorem dX11_years_28 : decode cX11_years 28 = .ok (.iload_n 1, 1) := by decide +kernel
theorem dX11_years_29 : decode cX11_years 29 = .ok (.iadd, 1) := by decide +kernel
theorem dX11_years_30 : decode cX11_years 30 = .ok (.sipush 3999, 3) := by decide +kernel
theorem dX11_years_33 : decode cX11_years 33 = .ok (.if_icmp .le 5, 3) := by decide +kernel
theorem dX11_years_36 : decode cX11_years 36 = .ok (.iconst (-1), 1) := by decide +kernel
theorem dX11_years_37 : decode cX11_years 37 = .ok (.ireturn, 1) := by decide +kernel
theorem dX11_years_38 : decode cX11_years 38 = .ok (.aload_n 0, 1) := by decide +kernel
theorem dX11_years_39 : decode cX11_years 39 = .ok (.getfield 65, 3) := by decide +kernel
theorem dX11_years_42 : decode cX11_years 42 = .ok (.lload_n 2, 1) := by decide +kernel
theorem dX11_years_43 : decode cX11_years 43 = .ok (.invokevirtual 220, 3) := by decide +kernel
theorem dX11_years_46 : decode cX11_years 46 = .ok (.iconst 0, 1) := by decide +kernel
theorem dX11_years_47 : decode cX11_years 47 = .ok (.istore 4, 2) := by decide +kernel
theorem dX11_years_49 : decode cX11_years 49 = .ok (.iload 4, 2) := by decide +kernel
theorem dX11_years_51 : decode cX11_years 51 = .ok (.iload_n 1, 1) := by decide +kernel
theorem dX11_years_52 : decode cX11_years 52 = .ok (.if_icmp .ge 34, 3) := by decide +kernel
theorem dX11_years_55 : decode cX11_years 55 = .ok (.aload_n 0, 1) := by decide +kernel
theorem dX11_years_56 : decode cX11_years 56 = .ok (.getfield 56, 3) := by decide +kernel
theorem dX11_years_59 : decode cX11_years 59 = .ok (.aload_n 0, 1) := by decide +kernel
theorem dX11_years_60 : decode cX11_years 60 = .ok (.getfield 42, 3) := by decide +kernel
theorem dX11_years_63 : decode cX11_years 63 = .ok (.invokevirtual 193, 3) := by decide +kernel
theorem dX11_years_66 : decode cX11_years 66 = .ok (.aload_n 0, 1) := by decide +kernel
theorem dX11_years_67 : decode cX11_years 67 = .ok (.getfield 65, 3) := by decide +kernel
theorem dX11_years_70 : decode cX11_years 70 = .ok (.invokevirtual 224, 3) := by decide +kernel
theorem dX11_years_73 : decode cX11_years 73 = .ok (.aload_n 0, 1) := by decide +kernel
theorem dX11_years_74 : decode cX11_years 74 = .ok (.getfield 65, 3) := by decide +kernel
theorem dX11_years_77 : decode cX11_years 77 = .ok (.invokevirtual 217, 3) := by decide +kernel
theorem dX11_years_80 : decode cX11_years 80 = .ok (.iinc 4 1, 3) := by decide +kernel
theorem dX11_years_83 : decode cX11_years 83 = .ok (.goto (-34), 3) := by decide +kernel
theorem dX11_years_86 : decode cX11_years 86 = .ok (.aload_n 0, 1) := by decide +kernel
theorem dX11_years_87 : decode cX11_years 87 = .ok (.getfield 42, 3) := by decide +kernel
theorem dX11_years_90 : decode cX11_years 90 = .ok (.invokevirtual 214, 3) := by decide +kernel
theorem dX11_years_93 : decode cX11_years 93 = .ok (.ireturn, 1) := by decide +kernel
theorem dX11_status_0 : decode cX11_status 0 = .ok (.iload_n 1, 1) := by decide +kernel
theorem dX11_status_1 : decode cX11_status 1 = .ok (.ifCond .lt 17, 3) := by decide +kernel
theorem dX11_status_4 : decode cX11_status 4 = .ok (.iload_n 1, 1) := by decide +kernel
theorem dX11_status_5 : decode cX11_status 5 = .ok (.iconst 5, 1) := by decide +kernel
theorem dX11_status_6 : decode cX11_status 6 = .ok (.if_icmp .ge 12, 3) := by decide +kernel
theorem dX11_status_9 : decode cX11_status 9 = .ok (.aload_n 0, 1) := by decide +kernel
theorem dX11_status_10 : decode cX11_status 10 = .ok (.getfield 94, 3) := by decide +kernel
theorem dX11_status_13 : decode cX11_status 13 = .ok (.iload_n 1, 1) := by decide +kernel
theorem dX11_status_14 : decode cX11_status 14 = .ok (.iaload, 1) := by decide +kernel
theorem dX11_status_15 : decode cX11_status 15 = .ok (.goto 4, 3) := by decide +kernel
theorem dX11_status_18 : decode cX11_status 18 = .ok (.iconst (-1), 1) := by decide +kernel
theorem dX11_status_19 : decode cX11_status 19 = .ok (.ireturn, 1) := by decide +kernel
theorem dX11_undo_0 : decode cX11_undo 0 = .ok (.aload_n 0, 1) := by decide +kernel
theorem dX11_undo_1 : decode cX11_undo 1 = .ok (.getfield 56, 3) := by decide +kernel
theorem dX11_undo_4 : decode cX11_undo 4 = .ok (.aload_n 0, 1) := by decide +kernel
theorem dX11_undo_5 : decode cX11_undo 5 = .ok (.getfield 42, 3) := by decide +kernel
theorem dX11_undo_8 : decode cX11_undo 8 = .ok (.invokevirtual 227, 3) := by decide +kernel
theorem dX11_undo_11 : decode cX11_undo 11 = .ok (.ifCond .eq 13, 3) := by decide +kernel
theorem dX11_undo_14 : decode cX11_undo 14 = .ok (.aload_n 0, 1) := by decide +kernel
theorem dX11_undo_15 : decode cX11_undo 15 = .ok (.getfield 56, 3) := by decide +kernel
theorem dX11_undo_18 : decode cX11_undo 18 = .ok (.invokevirtual 231, 3) := by decide +kernel
theorem dX11_undo_21 : decode cX11_undo 21 = .ok (.goto 4, 3) := by decide +kernel
theorem dX11_undo_24 : decode cX11_undo 24 = .ok (.iconst (-1), 1) := by decide +kernel
theorem dX11_undo_25 : decode cX11_undo 25 = .ok (.ireturn, 1) := by decide +kernel
theorem dX11_log_0 : decode cX11_log 0 = .ok (.aload_n 0, 1) := by decide +kernel
theorem dX11_log_1 : decode cX11_log 1 = .ok (.getfield 42, 3) := by decide +kernel
theorem dX11_log_4 : decode cX11_log 4 = .ok (.iload_n 1, 1) := by decide +kernel
theorem dX11_log_5 : decode cX11_log 5 = .ok (.iload_n 2, 1) := by decide +kernel
theorem dX11_log_6 : decode cX11_log 6 = .ok (.invokevirtual 232, 3) := by decide +kernel
theorem dX11_log_9 : decode cX11_log 9 = .ok (.ireturn, 1) := by decide +kernel
theorem dX11_least_0 : decode cX11_least 0 = .ok (.aload_n 0, 1) := by decide +kernel
theorem dX11_least_1 : decode cX11_least 1 = .ok (.getfield 19, 3) := by decide +kernel
theorem dX11_least_4 : decode cX11_least 4 = .ok (.iload_n 1, 1) := by decide +kernel
theorem dX11_least_5 : decode cX11_least 5 = .ok (.invokevirtual 142, 3) := by decide +kernel
theorem dX11_least_8 : decode cX11_least 8 = .ok (.ifCond .eq 22, 3) := by decide +kernel
theorem dX11_least_11 : decode cX11_least 11 = .ok (.iload_n 2, 1) := by decide +kernel
theorem dX11_least_12 : decode cX11_least 12 = .ok (.ifCond .lt 18, 3) := by decide +kernel
theorem dX11_least_15 : decode cX11_least 15 = .ok (.iload_n 2, 1) := by decide +kernel
theorem dX11_least_16 : decode cX11_least 16 = .ok (.bipush 99, 2) := by decide +kernel
theorem dX11_least_18 : decode cX11_least 18 = .ok (.if_icmp .gt 12, 3) := by decide +kernel
theorem dX11_least_21 : decode cX11_least 21 = .ok (.iload_n 3, 1) := by decide +kernel
theorem dX11_least_22 : decode cX11_least 22 = .ok (.ifCond .lt 8, 3) := by decide +kernel
theorem dX11_least_25 : decode cX11_least 25 = .ok (.iload_n 3, 1) := by decide +kernel
theorem dX11_least_26 : decode cX11_least 26 = .ok (.iconst 1, 1) := by decide +kernel
theorem dX11_least_27 : decode cX11_least 27 = .ok (.if_icmp .le 5, 3) := by decide +kernel
theorem dX11_least_30 : decode cX11_least 30 = .ok (.iconst (-1), 1) := by decide +kernel
theorem dX11_least_31 : decode cX11_least 31 = .ok (.ireturn, 1) := by decide +kernel
theorem dX11_least_32 : decode cX11_least 32 = .ok (.aload_n 0, 1) := by decide +kernel
theorem dX11_least_33 : decode cX11_least 33 = .ok (.getfield 90, 3) := by decide +kernel
theorem dX11_least_36 : decode cX11_least 36 = .ok (.iload_n 1, 1) := by decide +kernel
theorem dX11_least_37 : decode cX11_least 37 = .ok (.iload_n 2, 1) := by decide +kernel
theorem dX11_least_38 : decode cX11_least 38 = .ok (.invokevirtual 235, 3) := by decide +kernel
theorem dX11_least_41 : decode cX11_least 41 = .ok (.istore 4, 2) := by decide +kernel
theorem dX11_least_43 : decode cX11_least 43 = .ok (.iload 4, 2) := by decide +kernel
theorem dX11_least_45 : decode cX11_least 45 = .ok (.iconst (-1), 1) := by decide +kernel
theorem dX11_least_46 : decode cX11_least 46 = .ok (.if_icmp .ne 5, 3) := by decide +kernel
theorem dX11_least_49 : decode cX11_least 49 = .ok (.iconst (-1), 1) := by decide +kernel
theorem dX11_least_50 : decode cX11_least 50 = .ok (.ireturn, 1) := by decide +kernel
theorem dX11_least_51 : decode cX11_least 51 = .ok (.iload_n 3, 1) := by decide +kernel
theorem dX11_least_52 : decode cX11_least 52 = .ok (.ifCond .ne 11, 3) := by decide +kernel
theorem dX11_least_55 : decode cX11_least 55 = .ok (.iload 4, 2) := by decide +kernel
theorem dX11_least_57 : decode cX11_least 57 = .ok (.ldc 238, 2) := by decide +kernel
theorem dX11_least_59 : decode cX11_least 59 = .ok (.idiv, 1) := by decide +kernel
theorem dX11_least_60 : decode cX11_least 60 = .ok (.goto 8, 3) := by decide +kernel
theorem dX11_least_63 : decode cX11_least 63 = .ok (.iload 4, 2) := by decide +kernel
theorem dX11_least_65 : decode cX11_least 65 = .ok (.ldc 238, 2) := by decide +kernel
theorem dX11_least_67 : decode cX11_least 67 = .ok (.irem, 1) := by decide +kernel
theorem dX11_least_68 : decode cX11_least 68 = .ok (.ireturn, 1) := by decide +kernel
theorem dX11_way_0 : decode cX11_way 0 = .ok (.aload_n 0, 1) := by decide +kernel
theorem dX11_way_1 : decode cX11_way 1 = .ok (.getfield 19, 3) := by decide +kernel
theorem dX11_way_4 : decode cX11_way 4 = .ok (.invokevirtual 135, 3) := by decide +kernel
theorem dX11_way_7 : decode cX11_way 7 = .ok (.ifCond .ne 23, 3) := by decide +kernel
theorem dX11_way_10 : decode cX11_way 10 = .ok (.iload_n 1, 1) := by decide +kernel
theorem dX11_way_11 : decode cX11_way 11 = .ok (.ifCond .lt 19, 3) := by decide +kernel
theorem dX11_way_14 : decode cX11_way 14 = .ok (.iload_n 1, 1) := by decide +kernel
theorem dX11_way_15 : decode cX11_way 15 = .ok (.bipush 8, 2) := by decide +kernel
theorem dX11_way_17 : decode cX11_way 17 = .ok (.if_icmp .ge 13, 3) := by decide +kernel
theorem dX11_way_20 : decode cX11_way 20 = .ok (.iload_n 2, 1) := by decide +kernel
theorem dX11_way_21 : decode cX11_way 21 = .ok (.ifCond .lt 9, 3) := by decide +kernel
theorem dX11_way_24 : decode cX11_way 24 = .ok (.iload_n 2, 1) := by decide +kernel
theorem dX11_way_25 : decode cX11_way 25 = .ok (.bipush 8, 2) := by decide +kernel
theorem dX11_way_27 : decode cX11_way 27 = .ok (.if_icmp .lt 5, 3) := by decide +kernel
theorem dX11_way_30 : decode cX11_way 30 = .ok (.iconst (-1), 1) := by decide +kernel
theorem dX11_way_31 : decode cX11_way 31 = .ok (.ireturn, 1) := by decide +kernel
theorem dX11_way_32 : decode cX11_way 32 = .ok (.aload_n 0, 1) := by decide +kernel
theorem dX11_way_33 : decode cX11_way 33 = .ok (.getfield 72, 3) := by decide +kernel
theorem dX11_way_36 : decode cX11_way 36 = .ok (.iload_n 1, 1) := by decide +kernel
theorem dX11_way_37 : decode cX11_way 37 = .ok (.invokevirtual 239, 3) := by decide +kernel
theorem dX11_way_40 : decode cX11_way 40 = .ok (.aload_n 0, 1) := by decide +kernel
theorem dX11_way_41 : decode cX11_way 41 = .ok (.getfield 72, 3) := by decide +kernel
theorem dX11_way_44 : decode cX11_way 44 = .ok (.iload_n 2, 1) := by decide +kernel
theorem dX11_way_45 : decode cX11_way 45 = .ok (.invokevirtual 242, 3) := by decide +kernel
theorem dX11_way_48 : decode cX11_way 48 = .ok (.ifCond .ne 5, 3) := by decide +kernel
theorem dX11_way_51 : decode cX11_way 51 = .ok (.iconst (-1), 1) := by decide +kernel
theorem dX11_way_52 : decode cX11_way 52 = .ok (.ireturn, 1) := by decide +kernel
theorem dX11_way_53 : decode cX11_way 53 = .ok (.iload_n 3, 1) := by decide +kernel
theorem dX11_way_54 : decode cX11_way 54 = .ok (.ifCond .ne 12, 3) := by decide +kernel
theorem dX11_way_57 : decode cX11_way 57 = .ok (.aload_n 0, 1) := by decide +kernel
theorem dX11_way_58 : decode cX11_way 58 = .ok (.getfield 72, 3) := by decide +kernel
theorem dX11_way_61 : decode cX11_way 61 = .ok (.iload_n 2, 1) := by decide +kernel
theorem dX11_way_62 : decode cX11_way 62 = .ok (.invokevirtual 245, 3) := by decide +kernel
theorem dX11_way_65 : decode cX11_way 65 = .ok (.ireturn, 1) := by decide +kernel
theorem dX11_way_66 : decode cX11_way 66 = .ok (.iload_n 3, 1) := by decide +kernel
theorem dX11_way_67 : decode cX11_way 67 = .ok (.iconst 1, 1) := by decide +kernel
theorem dX11_way_68 : decode cX11_way 68 = .ok (.if_icmp .ne 14, 3) := by decide +kernel
theorem dX11_way_71 : decode cX11_way 71 = .ok (.aload_n 0, 1) := by decide +kernel
theorem dX11_way_72 : decode cX11_way 72 = .ok (.getfield 72, 3) := by decide +kernel
theorem dX11_way_75 : decode cX11_way 75 = .ok (.iload_n 2, 1) := by decide +kernel
theorem dX11_way_76 : decode cX11_way 76 = .ok (.invokevirtual 248, 3) := by decide +kernel
theorem dX11_way_79 : decode cX11_way 79 = .ok (.goto 4, 3) := by decide +kernel
theorem dX11_way_82 : decode cX11_way 82 = .ok (.iconst (-1), 1) := by decide +kernel
theorem dX11_way_83 : decode cX11_way 83 = .ok (.ireturn, 1) := by decide +kernel
theorem dX11_worth_0 : decode cX11_worth 0 = .ok (.aload_n 0, 1) := by decide +kernel
theorem dX11_worth_1 : decode cX11_worth 1 = .ok (.getfield 19, 3) := by decide +kernel
theorem dX11_worth_4 : decode cX11_worth 4 = .ok (.iload_n 1, 1) := by decide +kernel
theorem dX11_worth_5 : decode cX11_worth 5 = .ok (.invokevirtual 155, 3) := by decide +kernel
theorem dX11_worth_8 : decode cX11_worth 8 = .ok (.ifCond .eq 14, 3) := by decide +kernel
theorem dX11_worth_11 : decode cX11_worth 11 = .ok (.aload_n 0, 1) := by decide +kernel
theorem dX11_worth_12 : decode cX11_worth 12 = .ok (.getfield 65, 3) := by decide +kernel
theorem dX11_worth_15 : decode cX11_worth 15 = .ok (.iload_n 1, 1) := by decide +kernel
theorem dX11_worth_16 : decode cX11_worth 16 = .ok (.invokevirtual 251, 3) := by decide +kernel
theorem dX11_worth_19 : decode cX11_worth 19 = .ok (.goto 4, 3) := by decide +kernel
theorem dX11_worth_22 : decode cX11_worth 22 = .ok (.iconst (-1), 1) := by decide +kernel
theorem dX11_worth_23 : decode cX11_worth 23 = .ok (.ireturn, 1) := by decide +kernel
theorem dX11_buys_0 : decode cX11_buys 0 = .ok (.aload_n 0, 1) := by decide +kernel
theorem dX11_buys_1 : decode cX11_buys 1 = .ok (.getfield 19, 3) := by decide +kernel
theorem dX11_buys_4 : decode cX11_buys 4 = .ok (.invokevirtual 135, 3) := by decide +kernel
theorem dX11_buys_7 : decode cX11_buys 7 = .ok (.ifCond .eq 7, 3) := by decide +kernel
theorem dX11_buys_10 : decode cX11_buys 10 = .ok (.iconst (-1), 1) := by decide +kernel
theorem dX11_buys_11 : decode cX11_buys 11 = .ok (.goto 10, 3) := by decide +kernel
theorem dX11_buys_14 : decode cX11_buys 14 = .ok (.aload_n 0, 1) := by decide +kernel
theorem dX11_buys_15 : decode cX11_buys 15 = .ok (.getfield 65, 3) := by decide +kernel
theorem dX11_buys_18 : decode cX11_buys 18 = .ok (.invokevirtual 254, 3) := by decide +kernel
theorem dX11_buys_21 : decode cX11_buys 21 = .ok (.ireturn, 1) := by decide +kernel
theorem dX11_game_0 : decode cX11_game 0 = .ok (.aload_n 0, 1) := by decide +kernel
theorem dX11_game_1 : decode cX11_game 1 = .ok (.getfield 65, 3) := by decide +kernel
theorem dX11_game_4 : decode cX11_game 4 = .ok (.iload_n 1, 1) := by decide +kernel
theorem dX11_game_5 : decode cX11_game 5 = .ok (.iload_n 2, 1) := by decide +kernel
theorem dX11_game_6 : decode cX11_game 6 = .ok (.iload_n 3, 1) := by decide +kernel
theorem dX11_game_7 : decode cX11_game 7 = .ok (.invokevirtual 257, 3) := by decide +kernel
theorem dX11_game_10 : decode cX11_game 10 = .ok (.ifCond .eq 30, 3) := by decide +kernel
theorem dX11_game_13 : decode cX11_game 13 = .ok (.iload 4, 2) := by decide +kernel
theorem dX11_game_15 : decode cX11_game 15 = .ok (.invokestatic 260, 3) := by decide +kernel
theorem dX11_game_18 : decode cX11_game 18 = .ok (.ifCond .eq 22, 3) := by decide +kernel
theorem dX11_game_21 : decode cX11_game 21 = .ok (.iload 5, 2) := by decide +kernel
theorem dX11_game_23 : decode cX11_game 23 = .ok (.invokestatic 260, 3) := by decide +kernel
theorem dX11_game_26 : decode cX11_game 26 = .ok (.ifCond .eq 14, 3) := by decide +kernel
theorem dX11_game_29 : decode cX11_game 29 = .ok (.iload 6, 2) := by decide +kernel
theorem dX11_game_31 : decode cX11_game 31 = .ok (.ifCond .lt 9, 3) := by decide +kernel
theorem dX11_game_34 : decode cX11_game 34 = .ok (.iload 6, 2) := by decide +kernel
theorem dX11_game_36 : decode cX11_game 36 = .ok (.iconst 1, 1) := by decide +kernel
theorem dX11_game_37 : decode cX11_game 37 = .ok (.if_icmp .le 7, 3) := by decide +kernel
theorem dX11_game_40 : decode cX11_game 40 = .ok (.ldc_w 263, 3) := by decide +kernel
theorem dX11_game_43 : decode cX11_game 43 = .ok (.ireturn, 1) := by decide +kernel
theorem dX11_game_44 : decode cX11_game 44 = .ok (.aload_n 0, 1) := by decide +kernel
theorem dX11_game_45 : decode cX11_game 45 = .ok (.getfield 90, 3) := by decide +kernel
theorem dX11_game_48 : decode cX11_game 48 = .ok (.iload_n 1, 1) := by decide +kernel
theorem dX11_game_49 : decode cX11_game 49 = .ok (.iload_n 2, 1) := by decide +kernel
theorem dX11_game_50 : decode cX11_game 50 = .ok (.iload_n 3, 1) := by decide +kernel
theorem dX11_game_51 : decode cX11_game 51 = .ok (.invokevirtual 264, 3) := by decide +kernel
theorem dX11_game_54 : decode cX11_game 54 = .ok (.iload 6, 2) := by decide +kernel
theorem dX11_game_56 : decode cX11_game 56 = .ok (.ifCond .ne 17, 3) := by decide +kernel
theorem dX11_game_59 : decode cX11_game 59 = .ok (.aload_n 0, 1) := by decide +kernel
theorem dX11_game_60 : decode cX11_game 60 = .ok (.getfield 90, 3) := by decide +kernel
theorem dX11_game_63 : decode cX11_game 63 = .ok (.iload 4, 2) := by decide +kernel
theorem dX11_game_65 : decode cX11_game 65 = .ok (.iload 5, 2) := by decide +kernel
theorem dX11_game_67 : decode cX11_game 67 = .ok (.invokevirtual 267, 3) := by decide +kernel
theorem dX11_game_70 : decode cX11_game 70 = .ok (.goto 14, 3) := by decide +kernel
theorem dX11_game_73 : decode cX11_game 73 = .ok (.aload_n 0, 1) := by decide +kernel
theorem dX11_game_74 : decode cX11_game 74 = .ok (.getfield 90, 3) := by decide +kernel
theorem dX11_game_77 : decode cX11_game 77 = .ok (.iload 4, 2) := by decide +kernel
theorem dX11_game_79 : decode cX11_game 79 = .ok (.iload 5, 2) := by decide +kernel
theorem dX11_game_81 : decode cX11_game 81 = .ok (.invokevirtual 270, 3) := by decide +kernel
theorem dX11_game_84 : decode cX11_game 84 = .ok (.ireturn, 1) := by decide +kernel
theorem dX11_rests_0 : decode cX11_rests 0 = .ok (.aload_n 0, 1) := by decide +kernel
theorem dX11_rests_1 : decode cX11_rests 1 = .ok (.getfield 65, 3) := by decide +kernel
theorem dX11_rests_4 : decode cX11_rests 4 = .ok (.iload_n 1, 1) := by decide +kernel
theorem dX11_rests_5 : decode cX11_rests 5 = .ok (.iload_n 2, 1) := by decide +kernel
theorem dX11_rests_6 : decode cX11_rests 6 = .ok (.iload_n 3, 1) := by decide +kernel
theorem dX11_rests_7 : decode cX11_rests 7 = .ok (.invokevirtual 257, 3) := by decide +kernel
theorem dX11_rests_10 : decode cX11_rests 10 = .ok (.ifCond .eq 9, 3) := by decide +kernel
theorem dX11_rests_13 : decode cX11_rests 13 = .ok (.iload 4, 2) := by decide +kernel
theorem dX11_rests_15 : decode cX11_rests 15 = .ok (.iconst (-1), 1) := by decide +kernel
theorem dX11_rests_16 : decode cX11_rests 16 = .ok (.if_icmp .ge 5, 3) := by decide +kernel
theorem dX11_rests_19 : decode cX11_rests 19 = .ok (.iconst (-1), 1) := by decide +kernel
theorem dX11_rests_20 : decode cX11_rests 20 = .ok (.ireturn, 1) := by decide +kernel
theorem dX11_rests_21 : decode cX11_rests 21 = .ok (.aload_n 0, 1) := by decide +kernel
theorem dX11_rests_22 : decode cX11_rests 22 = .ok (.getfield 90, 3) := by decide +kernel
theorem dX11_rests_25 : decode cX11_rests 25 = .ok (.iload_n 1, 1) := by decide +kernel
theorem dX11_rests_26 : decode cX11_rests 26 = .ok (.iload_n 2, 1) := by decide +kernel
theorem dX11_rests_27 : decode cX11_rests 27 = .ok (.iload_n 3, 1) := by decide +kernel
theorem dX11_rests_28 : decode cX11_rests 28 = .ok (.invokevirtual 264, 3) := by decide +kernel
theorem dX11_rests_31 : decode cX11_rests 31 = .ok (.aload_n 0, 1) := by decide +kernel
theorem dX11_rests_32 : decode cX11_rests 32 = .ok (.getfield 90, 3) := by decide +kernel
theorem dX11_rests_35 : decode cX11_rests 35 = .ok (.iload 4, 2) := by decide +kernel
theorem dX11_rests_37 : decode cX11_rests 37 = .ok (.invokevirtual 273, 3) := by decide +kernel
theorem dX11_rests_40 : decode cX11_rests 40 = .ok (.ireturn, 1) := by decide +kernel
theorem dX11_road_0 : decode cX11_road 0 = .ok (.aload_n 0, 1) := by decide +kernel
theorem dX11_road_1 : decode cX11_road 1 = .ok (.getfield 19, 3) := by decide +kernel
theorem dX11_road_4 : decode cX11_road 4 = .ok (.iload_n 1, 1) := by decide +kernel
theorem dX11_road_5 : decode cX11_road 5 = .ok (.invokevirtual 155, 3) := by decide +kernel
theorem dX11_road_8 : decode cX11_road 8 = .ok (.ifCond .ne 5, 3) := by decide +kernel
theorem dX11_road_11 : decode cX11_road 11 = .ok (.iconst (-1), 1) := by decide +kernel
theorem dX11_road_12 : decode cX11_road 12 = .ok (.ireturn, 1) := by decide +kernel
theorem dX11_road_13 : decode cX11_road 13 = .ok (.aload_n 0, 1) := by decide +kernel
theorem dX11_road_14 : decode cX11_road 14 = .ok (.getfield 72, 3) := by decide +kernel
theorem dX11_road_17 : decode cX11_road 17 = .ok (.iconst 0, 1) := by decide +kernel
theorem dX11_road_18 : decode cX11_road 18 = .ok (.invokevirtual 239, 3) := by decide +kernel
theorem dX11_road_21 : decode cX11_road 21 = .ok (.aload_n 0, 1) := by decide +kernel
theorem dX11_road_22 : decode cX11_road 22 = .ok (.getfield 72, 3) := by decide +kernel
theorem dX11_road_25 : decode cX11_road 25 = .ok (.iload_n 1, 1) := by decide +kernel
theorem dX11_road_26 : decode cX11_road 26 = .ok (.invokevirtual 276, 3) := by decide +kernel
theorem dX11_road_29 : decode cX11_road 29 = .ok (.ireturn, 1) := by decide +kernel
theorem dX11_shares_0 : decode cX11_shares 0 = .ok (.aload_n 0, 1) := by decide +kernel
theorem dX11_shares_1 : decode cX11_shares 1 = .ok (.getfield 19, 3) := by decide +kernel
theorem dX11_shares_4 : decode cX11_shares 4 = .ok (.iload_n 1, 1) := by decide +kernel
theorem dX11_shares_5 : decode cX11_shares 5 = .ok (.invokevirtual 155, 3) := by decide +kernel
theorem dX11_shares_8 : decode cX11_shares 8 = .ok (.ifCond .eq 14, 3) := by decide +kernel
theorem dX11_shares_11 : decode cX11_shares 11 = .ok (.iload_n 2, 1) := by decide +kernel
theorem dX11_shares_12 : decode cX11_shares 12 = .ok (.ifCond .lt 10, 3) := by decide +kernel
theorem dX11_shares_15 : decode cX11_shares 15 = .ok (.iload_n 2, 1) := by decide +kernel
theorem dX11_shares_16 : decode cX11_shares 16 = .ok (.sipush 999, 3) := by decide +kernel
theorem dX11_shares_19 : decode cX11_shares 19 = .ok (.if_icmp .le 5, 3) := by decide +kernel
theorem dX11_shares_22 : decode cX11_shares 22 = .ok (.iconst (-1), 1) := by decide +kernel
theorem dX11_shares_23 : decode cX11_shares 23 = .ok (.ireturn, 1) := by decide +kernel
theorem dX11_shares_24 : decode cX11_shares 24 = .ok (.aload_n 0, 1) := by decide +kernel
theorem dX11_shares_25 : decode cX11_shares 25 = .ok (.getfield 72, 3) := by decide +kernel
theorem dX11_shares_28 : decode cX11_shares 28 = .ok (.iconst 0, 1) := by decide +kernel
theorem dX11_shares_29 : decode cX11_shares 29 = .ok (.invokevirtual 239, 3) := by decide +kernel
theorem dX11_shares_32 : decode cX11_shares 32 = .ok (.aload_n 0, 1) := by decide +kernel
theorem dX11_shares_33 : decode cX11_shares 33 = .ok (.getfield 72, 3) := by decide +kernel
theorem dX11_shares_36 : decode cX11_shares 36 = .ok (.invokevirtual 279, 3) := by decide +kernel
theorem dX11_shares_39 : decode cX11_shares 39 = .ok (.istore_n 3, 1) := by decide +kernel
theorem dX11_shares_40 : decode cX11_shares 40 = .ok (.iload_n 3, 1) := by decide +kernel
theorem dX11_shares_41 : decode cX11_shares 41 = .ok (.ifCond .ne 7, 3) := by decide +kernel
theorem dX11_shares_44 : decode cX11_shares 44 = .ok (.iconst 0, 1) := by decide +kernel
theorem dX11_shares_45 : decode cX11_shares 45 = .ok (.goto 15, 3) := by decide +kernel
theorem dX11_shares_48 : decode cX11_shares 48 = .ok (.iload_n 2, 1) := by decide +kernel
theorem dX11_shares_49 : decode cX11_shares 49 = .ok (.aload_n 0, 1) := by decide +kernel
theorem dX11_shares_50 : decode cX11_shares 50 = .ok (.getfield 72, 3) := by decide +kernel
theorem dX11_shares_53 : decode cX11_shares 53 = .ok (.iload_n 1, 1) := by decide +kernel
theorem dX11_shares_54 : decode cX11_shares 54 = .ok (.invokevirtual 282, 3) := by decide +kernel
theorem dX11_shares_57 : decode cX11_shares 57 = .ok (.imul, 1) := by decide +kernel
theorem dX11_shares_58 : decode cX11_shares 58 = .ok (.iload_n 3, 1) := by decide +kernel
theorem dX11_shares_59 : decode cX11_shares 59 = .ok (.idiv, 1) := by decide +kernel
theorem dX11_shares_60 : decode cX11_shares 60 = .ok (.ireturn, 1) := by decide +kernel
theorem dX11_seen_0 : decode cX11_seen 0 = .ok (.aload_n 0, 1) := by decide +kernel
theorem dX11_seen_1 : decode cX11_seen 1 = .ok (.getfield 81, 3) := by decide +kernel
theorem dX11_seen_4 : decode cX11_seen 4 = .ok (.iload_n 1, 1) := by decide +kernel
theorem dX11_seen_5 : decode cX11_seen 5 = .ok (.iload_n 2, 1) := by decide +kernel
theorem dX11_seen_6 : decode cX11_seen 6 = .ok (.invokevirtual 285, 3) := by decide +kernel
theorem dX11_seen_9 : decode cX11_seen 9 = .ok (.ireturn, 1) := by decide +kernel
theorem dX11_feigned_0 : decode cX11_feigned 0 = .ok (.aload_n 0, 1) := by decide +kernel
theorem dX11_feigned_1 : decode cX11_feigned 1 = .ok (.getfield 81, 3) := by decide +kernel
theorem dX11_feigned_4 : decode cX11_feigned 4 = .ok (.iload_n 1, 1) := by decide +kernel
theorem dX11_feigned_5 : decode cX11_feigned 5 = .ok (.invokevirtual 288, 3) := by decide +kernel
theorem dX11_feigned_8 : decode cX11_feigned 8 = .ok (.ifCond .eq 8, 3) := by decide +kernel
theorem dX11_feigned_11 : decode cX11_feigned 11 = .ok (.iload_n 2, 1) := by decide +kernel
theorem dX11_feigned_12 : decode cX11_feigned 12 = .ok (.iconst (-1), 1) := by decide +kernel
theorem dX11_feigned_13 : decode cX11_feigned 13 = .ok (.if_icmp .ge 5, 3) := by decide +kernel
theorem dX11_feigned_16 : decode cX11_feigned 16 = .ok (.iconst (-1), 1) := by decide +kernel
theorem dX11_feigned_17 : decode cX11_feigned 17 = .ok (.ireturn, 1) := by decide +kernel
theorem dX11_feigned_18 : decode cX11_feigned 18 = .ok (.iload_n 2, 1) := by decide +kernel
theorem dX11_feigned_19 : decode cX11_feigned 19 = .ok (.iconst (-1), 1) := by decide +kernel
theorem dX11_feigned_20 : decode cX11_feigned 20 = .ok (.if_icmp .ne 14, 3) := by decide +kernel
theorem dX11_feigned_23 : decode cX11_feigned 23 = .ok (.aload_n 0, 1) := by decide +kernel
theorem dX11_feigned_24 : decode cX11_feigned 24 = .ok (.getfield 81, 3) := by decide +kernel
theorem dX11_feigned_27 : decode cX11_feigned 27 = .ok (.iload_n 1, 1) := by decide +kernel
theorem dX11_feigned_28 : decode cX11_feigned 28 = .ok (.invokevirtual 291, 3) := by decide +kernel
theorem dX11_feigned_31 : decode cX11_feigned 31 = .ok (.goto 12, 3) := by decide +kernel
theorem dX11_feigned_34 : decode cX11_feigned 34 = .ok (.aload_n 0, 1) := by decide +kernel
theorem dX11_feigned_35 : decode cX11_feigned 35 = .ok (.getfield 81, 3) := by decide +kernel
theorem dX11_feigned_38 : decode cX11_feigned 38 = .ok (.iload_n 1, 1) := by decide +kernel
theorem dX11_feigned_39 : decode cX11_feigned 39 = .ok (.iload_n 2, 1) := by decide +kernel
theorem dX11_feigned_40 : decode cX11_feigned 40 = .ok (.invokevirtual 294, 3) := by decide +kernel
theorem dX11_feigned_43 : decode cX11_feigned 43 = .ok (.ireturn, 1) := by decide +kernel
theorem dX11_honest_0 : decode cX11_honest 0 = .ok (.aload_n 0, 1) := by decide +kernel
theorem dX11_honest_1 : decode cX11_honest 1 = .ok (.getfield 81, 3) := by decide +kernel
theorem dX11_honest_4 : decode cX11_honest 4 = .ok (.iload_n 1, 1) := by decide +kernel
theorem dX11_honest_5 : decode cX11_honest 5 = .ok (.invokevirtual 288, 3) := by decide +kernel
theorem dX11_honest_8 : decode cX11_honest 8 = .ok (.ifCond .eq 14, 3) := by decide +kernel
theorem dX11_honest_11 : decode cX11_honest 11 = .ok (.aload_n 0, 1) := by decide +kernel
theorem dX11_honest_12 : decode cX11_honest 12 = .ok (.getfield 81, 3) := by decide +kernel
theorem dX11_honest_15 : decode cX11_honest 15 = .ok (.iload_n 1, 1) := by decide +kernel
theorem dX11_honest_16 : decode cX11_honest 16 = .ok (.invokevirtual 291, 3) := by decide +kernel
theorem dX11_honest_19 : decode cX11_honest 19 = .ok (.ifCond .ne 5, 3) := by decide +kernel
theorem dX11_honest_22 : decode cX11_honest 22 = .ok (.iconst (-1), 1) := by decide +kernel
theorem dX11_honest_23 : decode cX11_honest 23 = .ok (.ireturn, 1) := by decide +kernel
theorem dX11_honest_24 : decode cX11_honest 24 = .ok (.aload_n 0, 1) := by decide +kernel
theorem dX11_honest_25 : decode cX11_honest 25 = .ok (.getfield 81, 3) := by decide +kernel
theorem dX11_honest_28 : decode cX11_honest 28 = .ok (.iload_n 1, 1) := by decide +kernel
theorem dX11_honest_29 : decode cX11_honest 29 = .ok (.invokevirtual 297, 3) := by decide +kernel
theorem dX11_honest_32 : decode cX11_honest 32 = .ok (.ireturn, 1) := by decide +kernel
theorem dX11_best_0 : decode cX11_best 0 = .ok (.aload_n 0, 1) := by decide +kernel
theorem dX11_best_1 : decode cX11_best 1 = .ok (.getfield 81, 3) := by decide +kernel
theorem dX11_best_4 : decode cX11_best 4 = .ok (.iload_n 1, 1) := by decide +kernel
theorem dX11_best_5 : decode cX11_best 5 = .ok (.invokevirtual 288, 3) := by decide +kernel
theorem dX11_best_8 : decode cX11_best 8 = .ok (.ifCond .eq 14, 3) := by decide +kernel
theorem dX11_best_11 : decode cX11_best 11 = .ok (.aload_n 0, 1) := by decide +kernel
theorem dX11_best_12 : decode cX11_best 12 = .ok (.getfield 81, 3) := by decide +kernel
theorem dX11_best_15 : decode cX11_best 15 = .ok (.iload_n 1, 1) := by decide +kernel
theorem dX11_best_16 : decode cX11_best 16 = .ok (.invokevirtual 291, 3) := by decide +kernel
theorem dX11_best_19 : decode cX11_best 19 = .ok (.ifCond .ne 5, 3) := by decide +kernel
theorem dX11_best_22 : decode cX11_best 22 = .ok (.iconst (-1), 1) := by decide +kernel
theorem dX11_best_23 : decode cX11_best 23 = .ok (.ireturn, 1) := by decide +kernel
theorem dX11_best_24 : decode cX11_best 24 = .ok (.aload_n 0, 1) := by decide +kernel
theorem dX11_best_25 : decode cX11_best 25 = .ok (.getfield 81, 3) := by decide +kernel
theorem dX11_best_28 : decode cX11_best 28 = .ok (.iload_n 1, 1) := by decide +kernel
theorem dX11_best_29 : decode cX11_best 29 = .ok (.invokevirtual 300, 3) := by decide +kernel
theorem dX11_best_32 : decode cX11_best 32 = .ok (.ireturn, 1) := by decide +kernel
theorem dX11_whose_0 : decode cX11_whose 0 = .ok (.aload_n 0, 1) := by decide +kernel
theorem dX11_whose_1 : decode cX11_whose 1 = .ok (.getfield 19, 3) := by decide +kernel
theorem dX11_whose_4 : decode cX11_whose 4 = .ok (.iload_n 1, 1) := by decide +kernel
theorem dX11_whose_5 : decode cX11_whose 5 = .ok (.invokevirtual 142, 3) := by decide +kernel
theorem dX11_whose_8 : decode cX11_whose 8 = .ok (.ifCond .eq 13, 3) := by decide +kernel
theorem dX11_whose_11 : decode cX11_whose 11 = .ok (.iload_n 2, 1) := by decide +kernel
theorem dX11_whose_12 : decode cX11_whose 12 = .ok (.ifCond .lt 9, 3) := by decide +kernel
theorem dX11_whose_15 : decode cX11_whose 15 = .ok (.iload_n 2, 1) := by decide +kernel
theorem dX11_whose_16 : decode cX11_whose 16 = .ok (.bipush 99, 2) := by decide +kernel
theorem dX11_whose_18 : decode cX11_whose 18 = .ok (.if_icmp .le 5, 3) := by decide +kernel
theorem dX11_whose_21 : decode cX11_whose 21 = .ok (.iconst (-1), 1) := by decide +kernel
theorem dX11_whose_22 : decode cX11_whose 22 = .ok (.ireturn, 1) := by decide +kernel
theorem dX11_whose_23 : decode cX11_whose 23 = .ok (.aload_n 0, 1) := by decide +kernel
theorem dX11_whose_24 : decode cX11_whose 24 = .ok (.getfield 65, 3) := by decide +kernel
theorem dX11_whose_27 : decode cX11_whose 27 = .ok (.iload_n 1, 1) := by decide +kernel
theorem dX11_whose_28 : decode cX11_whose 28 = .ok (.iload_n 2, 1) := by decide +kernel
theorem dX11_whose_29 : decode cX11_whose 29 = .ok (.invokevirtual 303, 3) := by decide +kernel
theorem dX11_whose_32 : decode cX11_whose 32 = .ok (.ireturn, 1) := by decide +kernel
theorem dX11_fails_0 : decode cX11_fails 0 = .ok (.aload_n 0, 1) := by decide +kernel
theorem dX11_fails_1 : decode cX11_fails 1 = .ok (.getfield 19, 3) := by decide +kernel
theorem dX11_fails_4 : decode cX11_fails 4 = .ok (.invokevirtual 135, 3) := by decide +kernel
theorem dX11_fails_7 : decode cX11_fails 7 = .ok (.ifCond .ne 12, 3) := by decide +kernel
theorem dX11_fails_10 : decode cX11_fails 10 = .ok (.iload_n 1, 1) := by decide +kernel
theorem dX11_fails_11 : decode cX11_fails 11 = .ok (.ifCond .lt 8, 3) := by decide +kernel
theorem dX11_fails_14 : decode cX11_fails 14 = .ok (.iload_n 1, 1) := by decide +kernel
theorem dX11_fails_15 : decode cX11_fails 15 = .ok (.iconst 1, 1) := by decide +kernel
theorem dX11_fails_16 : decode cX11_fails 16 = .ok (.if_icmp .le 5, 3) := by decide +kernel
theorem dX11_fails_19 : decode cX11_fails 19 = .ok (.iconst (-1), 1) := by decide +kernel
theorem dX11_fails_20 : decode cX11_fails 20 = .ok (.ireturn, 1) := by decide +kernel
theorem dX11_fails_21 : decode cX11_fails 21 = .ok (.aload_n 0, 1) := by decide +kernel
theorem dX11_fails_22 : decode cX11_fails 22 = .ok (.getfield 90, 3) := by decide +kernel
theorem dX11_fails_25 : decode cX11_fails 25 = .ok (.invokevirtual 306, 3) := by decide +kernel
theorem dX11_fails_28 : decode cX11_fails 28 = .ok (.istore_n 2, 1) := by decide +kernel
theorem dX11_fails_29 : decode cX11_fails 29 = .ok (.iload_n 2, 1) := by decide +kernel
theorem dX11_fails_30 : decode cX11_fails 30 = .ok (.iconst (-1), 1) := by decide +kernel
theorem dX11_fails_31 : decode cX11_fails 31 = .ok (.if_icmp .ne 5, 3) := by decide +kernel
theorem dX11_fails_34 : decode cX11_fails 34 = .ok (.iconst (-1), 1) := by decide +kernel
theorem dX11_fails_35 : decode cX11_fails 35 = .ok (.ireturn, 1) := by decide +kernel
theorem dX11_fails_36 : decode cX11_fails 36 = .ok (.iload_n 1, 1) := by decide +kernel
theorem dX11_fails_37 : decode cX11_fails 37 = .ok (.ifCond .ne 7, 3) := by decide +kernel
theorem dX11_fails_40 : decode cX11_fails 40 = .ok (.iload_n 2, 1) := by decide +kernel
theorem dX11_fails_41 : decode cX11_fails 41 = .ok (.goto 11, 3) := by decide +kernel
theorem dX11_fails_44 : decode cX11_fails 44 = .ok (.aload_n 0, 1) := by decide +kernel
theorem dX11_fails_45 : decode cX11_fails 45 = .ok (.getfield 90, 3) := by decide +kernel
theorem dX11_fails_48 : decode cX11_fails 48 = .ok (.iload_n 2, 1) := by decide +kernel
theorem dX11_fails_49 : decode cX11_fails 49 = .ok (.invokevirtual 309, 3) := by decide +kernel
theorem dX11_fails_52 : decode cX11_fails 52 = .ok (.ireturn, 1) := by decide +kernel
theorem dX11_odds_0 : decode cX11_odds 0 = .ok (.aload_n 0, 1) := by decide +kernel
theorem dX11_odds_1 : decode cX11_odds 1 = .ok (.getfield 19, 3) := by decide +kernel
theorem dX11_odds_4 : decode cX11_odds 4 = .ok (.iload_n 1, 1) := by decide +kernel
theorem dX11_odds_5 : decode cX11_odds 5 = .ok (.invokevirtual 142, 3) := by decide +kernel
theorem dX11_odds_8 : decode cX11_odds 8 = .ok (.ifCond .eq 23, 3) := by decide +kernel
theorem dX11_odds_11 : decode cX11_odds 11 = .ok (.iload_n 2, 1) := by decide +kernel
theorem dX11_odds_12 : decode cX11_odds 12 = .ok (.ifCond .lt 19, 3) := by decide +kernel
theorem dX11_odds_15 : decode cX11_odds 15 = .ok (.iload_n 2, 1) := by decide +kernel
theorem dX11_odds_16 : decode cX11_odds 16 = .ok (.bipush 40, 2) := by decide +kernel
theorem dX11_odds_18 : decode cX11_odds 18 = .ok (.if_icmp .gt 13, 3) := by decide +kernel
theorem dX11_odds_21 : decode cX11_odds 21 = .ok (.iload_n 3, 1) := by decide +kernel
theorem dX11_odds_22 : decode cX11_odds 22 = .ok (.ifCond .lt 9, 3) := by decide +kernel
theorem dX11_odds_25 : decode cX11_odds 25 = .ok (.iload_n 3, 1) := by decide +kernel
theorem dX11_odds_26 : decode cX11_odds 26 = .ok (.bipush 100, 2) := by decide +kernel
theorem dX11_odds_28 : decode cX11_odds 28 = .ok (.if_icmp .le 5, 3) := by decide +kernel
theorem dX11_odds_31 : decode cX11_odds 31 = .ok (.iconst (-1), 1) := by decide +kernel
theorem dX11_odds_32 : decode cX11_odds 32 = .ok (.ireturn, 1) := by decide +kernel
theorem dX11_odds_33 : decode cX11_odds 33 = .ok (.aload_n 0, 1) := by decide +kernel
theorem dX11_odds_34 : decode cX11_odds 34 = .ok (.getfield 90, 3) := by decide +kernel
theorem dX11_odds_37 : decode cX11_odds 37 = .ok (.iload_n 1, 1) := by decide +kernel
theorem dX11_odds_38 : decode cX11_odds 38 = .ok (.iload_n 2, 1) := by decide +kernel
theorem dX11_odds_39 : decode cX11_odds 39 = .ok (.iload_n 3, 1) := by decide +kernel
theorem dX11_odds_40 : decode cX11_odds 40 = .ok (.invokevirtual 312, 3) := by decide +kernel
theorem dX11_odds_43 : decode cX11_odds 43 = .ok (.ireturn, 1) := by decide +kernel
theorem dX11_toll_0 : decode cX11_toll 0 = .ok (.aload_n 0, 1) := by decide +kernel
theorem dX11_toll_1 : decode cX11_toll 1 = .ok (.getfield 19, 3) := by decide +kernel
theorem dX11_toll_4 : decode cX11_toll 4 = .ok (.invokevirtual 135, 3) := by decide +kernel
theorem dX11_toll_7 : decode cX11_toll 7 = .ok (.ifCond .ne 23, 3) := by decide +kernel
theorem dX11_toll_10 : decode cX11_toll 10 = .ok (.iload_n 1, 1) := by decide +kernel
theorem dX11_toll_11 : decode cX11_toll 11 = .ok (.iconst 1, 1) := by decide +kernel
theorem dX11_toll_12 : decode cX11_toll 12 = .ok (.if_icmp .lt 18, 3) := by decide +kernel
theorem dX11_toll_15 : decode cX11_toll 15 = .ok (.iload_n 1, 1) := by decide +kernel
theorem dX11_toll_16 : decode cX11_toll 16 = .ok (.bipush 9, 2) := by decide +kernel
theorem dX11_toll_18 : decode cX11_toll 18 = .ok (.if_icmp .gt 12, 3) := by decide +kernel
theorem dX11_toll_21 : decode cX11_toll 21 = .ok (.iload_n 2, 1) := by decide +kernel
theorem dX11_toll_22 : decode cX11_toll 22 = .ok (.ifCond .lt 8, 3) := by decide +kernel
theorem dX11_toll_25 : decode cX11_toll 25 = .ok (.iload_n 2, 1) := by decide +kernel
theorem dX11_toll_26 : decode cX11_toll 26 = .ok (.iconst 1, 1) := by decide +kernel
theorem dX11_toll_27 : decode cX11_toll 27 = .ok (.if_icmp .le 5, 3) := by decide +kernel
theorem dX11_toll_30 : decode cX11_toll 30 = .ok (.iconst (-1), 1) := by decide +kernel
theorem dX11_toll_31 : decode cX11_toll 31 = .ok (.ireturn, 1) := by decide +kernel
theorem dX11_toll_32 : decode cX11_toll 32 = .ok (.aload_n 0, 1) := by decide +kernel
theorem dX11_toll_33 : decode cX11_toll 33 = .ok (.getfield 72, 3) := by decide +kernel
theorem dX11_toll_36 : decode cX11_toll 36 = .ok (.iconst 0, 1) := by decide +kernel
theorem dX11_toll_37 : decode cX11_toll 37 = .ok (.invokevirtual 239, 3) := by decide +kernel
theorem dX11_toll_40 : decode cX11_toll 40 = .ok (.iload_n 2, 1) := by decide +kernel
theorem dX11_toll_41 : decode cX11_toll 41 = .ok (.ifCond .ne 13, 3) := by decide +kernel
theorem dX11_toll_44 : decode cX11_toll 44 = .ok (.aload_n 0, 1) := by decide +kernel
theorem dX11_toll_45 : decode cX11_toll 45 = .ok (.getfield 72, 3) := by decide +kernel
theorem dX11_toll_48 : decode cX11_toll 48 = .ok (.invokevirtual 316, 3) := by decide +kernel
theorem dX11_toll_51 : decode cX11_toll 51 = .ok (.goto 12, 3) := by decide +kernel
theorem dX11_toll_54 : decode cX11_toll 54 = .ok (.iload_n 1, 1) := by decide +kernel
theorem dX11_toll_55 : decode cX11_toll 55 = .ok (.aload_n 0, 1) := by decide +kernel
theorem dX11_toll_56 : decode cX11_toll 56 = .ok (.getfield 72, 3) := by decide +kernel
theorem dX11_toll_59 : decode cX11_toll 59 = .ok (.invokevirtual 279, 3) := by decide +kernel
theorem dX11_toll_62 : decode cX11_toll 62 = .ok (.imul, 1) := by decide +kernel
theorem dX11_toll_63 : decode cX11_toll 63 = .ok (.ireturn, 1) := by decide +kernel
theorem dX11_worst_0 : decode cX11_worst 0 = .ok (.aload_n 0, 1) := by decide +kernel
theorem dX11_worst_1 : decode cX11_worst 1 = .ok (.getfield 19, 3) := by decide +kernel
theorem dX11_worst_4 : decode cX11_worst 4 = .ok (.invokevirtual 135, 3) := by decide +kernel
theorem dX11_worst_7 : decode cX11_worst 7 = .ok (.ifCond .eq 7, 3) := by decide +kernel
theorem dX11_worst_10 : decode cX11_worst 10 = .ok (.iconst (-1), 1) := by decide +kernel
theorem dX11_worst_11 : decode cX11_worst 11 = .ok (.goto 10, 3) := by decide +kernel
theorem dX11_worst_14 : decode cX11_worst 14 = .ok (.aload_n 0, 1) := by decide +kernel
theorem dX11_worst_15 : decode cX11_worst 15 = .ok (.getfield 72, 3) := by decide +kernel
theorem dX11_worst_18 : decode cX11_worst 18 = .ok (.invokevirtual 319, 3) := by decide +kernel
theorem dX11_worst_21 : decode cX11_worst 21 = .ok (.ireturn, 1) := by decide +kernel
theorem dX11_ends_0 : decode cX11_ends 0 = .ok (.aload_n 0, 1) := by decide +kernel
theorem dX11_ends_1 : decode cX11_ends 1 = .ok (.getfield 19, 3) := by decide +kernel
theorem dX11_ends_4 : decode cX11_ends 4 = .ok (.invokevirtual 135, 3) := by decide +kernel
theorem dX11_ends_7 : decode cX11_ends 7 = .ok (.ifCond .eq 7, 3) := by decide +kernel
theorem dX11_ends_10 : decode cX11_ends 10 = .ok (.iconst (-1), 1) := by decide +kernel
theorem dX11_ends_11 : decode cX11_ends 11 = .ok (.goto 10, 3) := by decide +kernel
theorem dX11_ends_14 : decode cX11_ends 14 = .ok (.aload_n 0, 1) := by decide +kernel
theorem dX11_ends_15 : decode cX11_ends 15 = .ok (.getfield 72, 3) := by decide +kernel
theorem dX11_ends_18 : decode cX11_ends 18 = .ok (.invokevirtual 322, 3) := by decide +kernel
theorem dX11_ends_21 : decode cX11_ends 21 = .ok (.ireturn, 1) := by decide +kernel
theorem dX11_cut_0 : decode cX11_cut 0 = .ok (.aload_n 0, 1) := by decide +kernel
theorem dX11_cut_1 : decode cX11_cut 1 = .ok (.getfield 19, 3) := by decide +kernel
theorem dX11_cut_4 : decode cX11_cut 4 = .ok (.invokevirtual 135, 3) := by decide +kernel
theorem dX11_cut_7 : decode cX11_cut 7 = .ok (.ifCond .eq 7, 3) := by decide +kernel
theorem dX11_cut_10 : decode cX11_cut 10 = .ok (.iconst (-1), 1) := by decide +kernel
theorem dX11_cut_11 : decode cX11_cut 11 = .ok (.goto 10, 3) := by decide +kernel
theorem dX11_cut_14 : decode cX11_cut 14 = .ok (.aload_n 0, 1) := by decide +kernel
theorem dX11_cut_15 : decode cX11_cut 15 = .ok (.getfield 72, 3) := by decide +kernel
theorem dX11_cut_18 : decode cX11_cut 18 = .ok (.invokevirtual 325, 3) := by decide +kernel
theorem dX11_cut_21 : decode cX11_cut 21 = .ok (.ireturn, 1) := by decide +kernel
theorem dX11_neighbours_0 : decode cX11_neighbours 0 = .ok (.aload_n 0, 1) := by decide +kernel
theorem dX11_neighbours_1 : decode cX11_neighbours 1 = .ok (.getfield 19, 3) := by decide +kernel
theorem dX11_neighbours_4 : decode cX11_neighbours 4 = .ok (.iload_n 1, 1) := by decide +kernel
theorem dX11_neighbours_5 : decode cX11_neighbours 5 = .ok (.invokevirtual 142, 3) := by decide +kernel
theorem dX11_neighbours_8 : decode cX11_neighbours 8 = .ok (.ifCond .eq 14, 3) := by decide +kernel
theorem dX11_neighbours_11 : decode cX11_neighbours 11 = .ok (.aload_n 0, 1) := by decide +kernel
theorem dX11_neighbours_12 : decode cX11_neighbours 12 = .ok (.getfield 72, 3) := by decide +kernel
theorem dX11_neighbours_15 : decode cX11_neighbours 15 = .ok (.iload_n 1, 1) := by decide +kernel
theorem dX11_neighbours_16 : decode cX11_neighbours 16 = .ok (.invokevirtual 328, 3) := by decide +kernel
theorem dX11_neighbours_19 : decode cX11_neighbours 19 = .ok (.goto 4, 3) := by decide +kernel
theorem dX11_neighbours_22 : decode cX11_neighbours 22 = .ok (.iconst (-1), 1) := by decide +kernel
theorem dX11_neighbours_23 : decode cX11_neighbours 23 = .ok (.ireturn, 1) := by decide +kernel
theorem dX11_image_0 : decode cX11_image 0 = .ok (.aload_n 0, 1) := by decide +kernel
theorem dX11_image_1 : decode cX11_image 1 = .ok (.getfield 19, 3) := by decide +kernel
theorem dX11_image_4 : decode cX11_image 4 = .ok (.invokevirtual 135, 3) := by decide +kernel
theorem dX11_image_7 : decode cX11_image 7 = .ok (.ifCond .eq 5, 3) := by decide +kernel
theorem dX11_image_10 : decode cX11_image 10 = .ok (.iconst (-1), 1) := by decide +kernel
theorem dX11_image_11 : decode cX11_image 11 = .ok (.ireturn, 1) := by decide +kernel
theorem dX11_image_12 : decode cX11_image 12 = .ok (.aload_n 0, 1) := by decide +kernel
theorem dX11_image_13 : decode cX11_image 13 = .ok (.getfield 46, 3) := by decide +kernel
theorem dX11_image_16 : decode cX11_image 16 = .ok (.aload_n 0, 1) := by decide +kernel
theorem dX11_image_17 : decode cX11_image 17 = .ok (.getfield 42, 3) := by decide +kernel
theorem dX11_image_20 : decode cX11_image 20 = .ok (.invokevirtual 331, 3) := by decide +kernel
theorem dX11_image_23 : decode cX11_image 23 = .ok (.aload_n 0, 1) := by decide +kernel
theorem dX11_image_24 : decode cX11_image 24 = .ok (.iconst 1, 1) := by decide +kernel
theorem dX11_image_25 : decode cX11_image 25 = .ok (.putfield 49, 3) := by decide +kernel
theorem dX11_image_28 : decode cX11_image 28 = .ok (.aload_n 0, 1) := by decide +kernel
theorem dX11_image_29 : decode cX11_image 29 = .ok (.getfield 42, 3) := by decide +kernel
theorem dX11_image_32 : decode cX11_image 32 = .ok (.invokevirtual 214, 3) := by decide +kernel
theorem dX11_image_35 : decode cX11_image 35 = .ok (.ireturn, 1) := by decide +kernel
theorem dX11_back_0 : decode cX11_back 0 = .ok (.aload_n 0, 1) := by decide +kernel
theorem dX11_back_1 : decode cX11_back 1 = .ok (.getfield 49, 3) := by decide +kernel
theorem dX11_back_4 : decode cX11_back 4 = .ok (.ifCond .ne 5, 3) := by decide +kernel
theorem dX11_back_7 : decode cX11_back 7 = .ok (.iconst (-1), 1) := by decide +kernel
theorem dX11_back_8 : decode cX11_back 8 = .ok (.ireturn, 1) := by decide +kernel
theorem dX11_back_9 : decode cX11_back 9 = .ok (.aload_n 0, 1) := by decide +kernel
theorem dX11_back_10 : decode cX11_back 10 = .ok (.getfield 42, 3) := by decide +kernel
theorem dX11_back_13 : decode cX11_back 13 = .ok (.aload_n 0, 1) := by decide +kernel
theorem dX11_back_14 : decode cX11_back 14 = .ok (.getfield 46, 3) := by decide +kernel
theorem dX11_back_17 : decode cX11_back 17 = .ok (.invokevirtual 331, 3) := by decide +kernel
theorem dX11_back_20 : decode cX11_back 20 = .ok (.aload_n 0, 1) := by decide +kernel
theorem dX11_back_21 : decode cX11_back 21 = .ok (.getfield 56, 3) := by decide +kernel
theorem dX11_back_24 : decode cX11_back 24 = .ok (.invokevirtual 334, 3) := by decide +kernel
theorem dX11_back_27 : decode cX11_back 27 = .ok (.aload_n 0, 1) := by decide +kernel
theorem dX11_back_28 : decode cX11_back 28 = .ok (.getfield 42, 3) := by decide +kernel
theorem dX11_back_31 : decode cX11_back 31 = .ok (.invokevirtual 214, 3) := by decide +kernel
theorem dX11_back_34 : decode cX11_back 34 = .ok (.ireturn, 1) := by decide +kernel
theorem dX11_count_0 : decode cX11_count 0 = .ok (.iload_n 1, 1) := by decide +kernel
theorem dX11_count_1 : decode cX11_count 1 = .ok (.tableswitch 183 0 13 #[71, 79, 87, 95, 103, 111, 119, 127, 135, 143, 151, 159, 167, 175], 71) := by decide +kernel
theorem dX11_count_72 : decode cX11_count 72 = .ok (.aload_n 0, 1) := by decide +kernel
theorem dX11_count_73 : decode cX11_count 73 = .ok (.getfield 19, 3) := by decide +kernel
theorem dX11_count_76 : decode cX11_count 76 = .ok (.invokevirtual 121, 3) := by decide +kernel
theorem dX11_count_79 : decode cX11_count 79 = .ok (.ireturn, 1) := by decide +kernel
theorem dX11_count_80 : decode cX11_count 80 = .ok (.aload_n 0, 1) := by decide +kernel
theorem dX11_count_81 : decode cX11_count 81 = .ok (.getfield 19, 3) := by decide +kernel
theorem dX11_count_84 : decode cX11_count 84 = .ok (.invokevirtual 337, 3) := by decide +kernel
theorem dX11_count_87 : decode cX11_count 87 = .ok (.ireturn, 1) := by decide +kernel
theorem dX11_count_88 : decode cX11_count 88 = .ok (.aload_n 0, 1) := by decide +kernel
theorem dX11_count_89 : decode cX11_count 89 = .ok (.getfield 65, 3) := by decide +kernel
theorem dX11_count_92 : decode cX11_count 92 = .ok (.invokevirtual 124, 3) := by decide +kernel
theorem dX11_count_95 : decode cX11_count 95 = .ok (.ireturn, 1) := by decide +kernel
theorem dX11_count_96 : decode cX11_count 96 = .ok (.aload_n 0, 1) := by decide +kernel
theorem dX11_count_97 : decode cX11_count 97 = .ok (.getfield 10, 3) := by decide +kernel
theorem dX11_count_100 : decode cX11_count 100 = .ok (.invokevirtual 102, 3) := by decide +kernel
theorem dX11_count_103 : decode cX11_count 103 = .ok (.ireturn, 1) := by decide +kernel
theorem dX11_count_104 : decode cX11_count 104 = .ok (.aload_n 0, 1) := by decide +kernel
theorem dX11_count_105 : decode cX11_count 105 = .ok (.getfield 65, 3) := by decide +kernel
theorem dX11_count_108 : decode cX11_count 108 = .ok (.invokevirtual 340, 3) := by decide +kernel
theorem dX11_count_111 : decode cX11_count 111 = .ok (.ireturn, 1) := by decide +kernel
theorem dX11_count_112 : decode cX11_count 112 = .ok (.aload_n 0, 1) := by decide +kernel
theorem dX11_count_113 : decode cX11_count 113 = .ok (.getfield 42, 3) := by decide +kernel
theorem dX11_count_116 : decode cX11_count 116 = .ok (.invokevirtual 214, 3) := by decide +kernel
theorem dX11_count_119 : decode cX11_count 119 = .ok (.ireturn, 1) := by decide +kernel
theorem dX11_count_120 : decode cX11_count 120 = .ok (.aload_n 0, 1) := by decide +kernel
theorem dX11_count_121 : decode cX11_count 121 = .ok (.getfield 42, 3) := by decide +kernel
theorem dX11_count_124 : decode cX11_count 124 = .ok (.invokevirtual 208, 3) := by decide +kernel
theorem dX11_count_127 : decode cX11_count 127 = .ok (.ireturn, 1) := by decide +kernel
theorem dX11_count_128 : decode cX11_count 128 = .ok (.aload_n 0, 1) := by decide +kernel
theorem dX11_count_129 : decode cX11_count 129 = .ok (.getfield 42, 3) := by decide +kernel
theorem dX11_count_132 : decode cX11_count 132 = .ok (.invokevirtual 343, 3) := by decide +kernel
theorem dX11_count_135 : decode cX11_count 135 = .ok (.ireturn, 1) := by decide +kernel
theorem dX11_count_136 : decode cX11_count 136 = .ok (.aload_n 0, 1) := by decide +kernel
theorem dX11_count_137 : decode cX11_count 137 = .ok (.getfield 42, 3) := by decide +kernel
theorem dX11_count_140 : decode cX11_count 140 = .ok (.invokevirtual 346, 3) := by decide +kernel
theorem dX11_count_143 : decode cX11_count 143 = .ok (.ireturn, 1) := by decide +kernel
theorem dX11_count_144 : decode cX11_count 144 = .ok (.aload_n 0, 1) := by decide +kernel
theorem dX11_count_145 : decode cX11_count 145 = .ok (.getfield 42, 3) := by decide +kernel
theorem dX11_count_148 : decode cX11_count 148 = .ok (.invokevirtual 349, 3) := by decide +kernel
theorem dX11_count_151 : decode cX11_count 151 = .ok (.ireturn, 1) := by decide +kernel
theorem dX11_count_152 : decode cX11_count 152 = .ok (.aload_n 0, 1) := by decide +kernel
theorem dX11_count_153 : decode cX11_count 153 = .ok (.getfield 42, 3) := by decide +kernel
theorem dX11_count_156 : decode cX11_count 156 = .ok (.invokevirtual 352, 3) := by decide +kernel
theorem dX11_count_159 : decode cX11_count 159 = .ok (.ireturn, 1) := by decide +kernel
theorem dX11_count_160 : decode cX11_count 160 = .ok (.aload_n 0, 1) := by decide +kernel
theorem dX11_count_161 : decode cX11_count 161 = .ok (.getfield 81, 3) := by decide +kernel
theorem dX11_count_164 : decode cX11_count 164 = .ok (.invokevirtual 355, 3) := by decide +kernel
theorem dX11_count_167 : decode cX11_count 167 = .ok (.ireturn, 1) := by decide +kernel
theorem dX11_count_168 : decode cX11_count 168 = .ok (.aload_n 0, 1) := by decide +kernel
theorem dX11_count_169 : decode cX11_count 169 = .ok (.getfield 42, 3) := by decide +kernel
theorem dX11_count_172 : decode cX11_count 172 = .ok (.invokevirtual 356, 3) := by decide +kernel
theorem dX11_count_175 : decode cX11_count 175 = .ok (.ireturn, 1) := by decide +kernel
theorem dX11_count_176 : decode cX11_count 176 = .ok (.aload_n 0, 1) := by decide +kernel
theorem dX11_count_177 : decode cX11_count 177 = .ok (.getfield 56, 3) := by decide +kernel
theorem dX11_count_180 : decode cX11_count 180 = .ok (.invokevirtual 231, 3) := by decide +kernel
theorem dX11_count_183 : decode cX11_count 183 = .ok (.ireturn, 1) := by decide +kernel
theorem dX11_count_184 : decode cX11_count 184 = .ok (.ldc_w 263, 3) := by decide +kernel
theorem dX11_count_187 : decode cX11_count 187 = .ok (.ireturn, 1) := by decide +kernel
theorem dX11_settle_0 : decode cX11_settle 0 = .ok (.aload_n 0, 1) := by decide +kernel
theorem dX11_settle_1 : decode cX11_settle 1 = .ok (.getfield 10, 3) := by decide +kernel
theorem dX11_settle_4 : decode cX11_settle 4 = .ok (.iconst 0, 1) := by decide +kernel
theorem dX11_settle_5 : decode cX11_settle 5 = .ok (.invokevirtual 110, 3) := by decide +kernel
theorem dX11_settle_8 : decode cX11_settle 8 = .ok (.pop, 1) := by decide +kernel
theorem dX11_settle_9 : decode cX11_settle 9 = .ok (.aload_n 0, 1) := by decide +kernel
theorem dX11_settle_10 : decode cX11_settle 10 = .ok (.getfield 19, 3) := by decide +kernel
theorem dX11_settle_13 : decode cX11_settle 13 = .ok (.aload_n 0, 1) := by decide +kernel
theorem dX11_settle_14 : decode cX11_settle 14 = .ok (.getfield 28, 3) := by decide +kernel
theorem dX11_settle_17 : decode cX11_settle 17 = .ok (.invokevirtual 359, 3) := by decide +kernel
theorem dX11_settle_20 : decode cX11_settle 20 = .ok (.invokevirtual 362, 3) := by decide +kernel
theorem dX11_settle_23 : decode cX11_settle 23 = .ok (.aload_n 0, 1) := by decide +kernel
theorem dX11_settle_24 : decode cX11_settle 24 = .ok (.getfield 42, 3) := by decide +kernel
theorem dX11_settle_27 : decode cX11_settle 27 = .ok (.aload_n 0, 1) := by decide +kernel
theorem dX11_settle_28 : decode cX11_settle 28 = .ok (.getfield 19, 3) := by decide +kernel
theorem dX11_settle_31 : decode cX11_settle 31 = .ok (.invokevirtual 365, 3) := by decide +kernel
theorem dX11_settle_34 : decode cX11_settle 34 = .ok (.aload_n 0, 1) := by decide +kernel
theorem dX11_settle_35 : decode cX11_settle 35 = .ok (.getfield 56, 3) := by decide +kernel
theorem dX11_settle_38 : decode cX11_settle 38 = .ok (.invokevirtual 334, 3) := by decide +kernel
theorem dX11_settle_41 : decode cX11_settle 41 = .ok (.aload_n 0, 1) := by decide +kernel
theorem dX11_settle_42 : decode cX11_settle 42 = .ok (.getfield 81, 3) := by decide +kernel
theorem dX11_settle_45 : decode cX11_settle 45 = .ok (.invokevirtual 368, 3) := by decide +kernel
theorem dX11_settle_48 : decode cX11_settle 48 = .ok (.aload_n 0, 1) := by decide +kernel
theorem dX11_settle_49 : decode cX11_settle 49 = .ok (.iconst 0, 1) := by decide +kernel
theorem dX11_settle_50 : decode cX11_settle 50 = .ok (.putfield 49, 3) := by decide +kernel
theorem dX11_settle_53 : decode cX11_settle 53 = .ok (.return_, 1) := by decide +kernel
theorem dX11_refuse_0 : decode cX11_refuse 0 = .ok (.iload_n 1, 1) := by decide +kernel
theorem dX11_refuse_1 : decode cX11_refuse 1 = .ok (.ifCond .lt 18, 3) := by decide +kernel
theorem dX11_refuse_4 : decode cX11_refuse 4 = .ok (.iload_n 1, 1) := by decide +kernel
theorem dX11_refuse_5 : decode cX11_refuse 5 = .ok (.iconst 5, 1) := by decide +kernel
theorem dX11_refuse_6 : decode cX11_refuse 6 = .ok (.if_icmp .ge 13, 3) := by decide +kernel
theorem dX11_refuse_9 : decode cX11_refuse 9 = .ok (.aload_n 0, 1) := by decide +kernel
theorem dX11_refuse_10 : decode cX11_refuse 10 = .ok (.getfield 94, 3) := by decide +kernel
theorem dX11_refuse_13 : decode cX11_refuse 13 = .ok (.iload_n 1, 1) := by decide +kernel
theorem dX11_refuse_14 : decode cX11_refuse 14 = .ok (.dup2, 1) := by decide +kernel
theorem dX11_refuse_15 : decode cX11_refuse 15 = .ok (.iaload, 1) := by decide +kernel
theorem dX11_refuse_16 : decode cX11_refuse 16 = .ok (.iconst 1, 1) := by decide +kernel
theorem dX11_refuse_17 : decode cX11_refuse 17 = .ok (.iadd, 1) := by decide +kernel
theorem dX11_refuse_18 : decode cX11_refuse 18 = .ok (.iastore, 1) := by decide +kernel
theorem dX11_refuse_19 : decode cX11_refuse 19 = .ok (.iconst (-1), 1) := by decide +kernel
theorem dX11_refuse_20 : decode cX11_refuse 20 = .ok (.ireturn, 1) := by decide +kernel
theorem dX11_isPlayed_0 : decode cX11_isPlayed 0 = .ok (.iload_n 0, 1) := by decide +kernel
theorem dX11_isPlayed_1 : decode cX11_isPlayed 1 = .ok (.ifCond .eq 13, 3) := by decide +kernel
theorem dX11_isPlayed_4 : decode cX11_isPlayed 4 = .ok (.iload_n 0, 1) := by decide +kernel
theorem dX11_isPlayed_5 : decode cX11_isPlayed 5 = .ok (.iconst 1, 1) := by decide +kernel
theorem dX11_isPlayed_6 : decode cX11_isPlayed 6 = .ok (.if_icmp .eq 8, 3) := by decide +kernel
theorem dX11_isPlayed_9 : decode cX11_isPlayed 9 = .ok (.iload_n 0, 1) := by decide +kernel
theorem dX11_isPlayed_10 : decode cX11_isPlayed 10 = .ok (.iconst 3, 1) := by decide +kernel
theorem dX11_isPlayed_11 : decode cX11_isPlayed 11 = .ok (.if_icmp .ne 7, 3) := by decide +kernel
theorem dX11_isPlayed_14 : decode cX11_isPlayed 14 = .ok (.iconst 1, 1) := by decide +kernel
theorem dX11_isPlayed_15 : decode cX11_isPlayed 15 = .ok (.goto 4, 3) := by decide +kernel
theorem dX11_isPlayed_18 : decode cX11_isPlayed 18 = .ok (.iconst 0, 1) := by decide +kernel
theorem dX11_isPlayed_19 : decode cX11_isPlayed 19 = .ok (.ireturn, 1) := by decide +kernel
