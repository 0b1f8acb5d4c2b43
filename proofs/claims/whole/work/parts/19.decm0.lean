theorem dX12_in_0 : decode cX12_in 0 = .ok (.iload_n 0, 1) := by decide +kernel
theorem dX12_in_1 : decode cX12_in 1 = .ok (.iload_n 1, 1) := by decide +kernel
theorem dX12_in_2 : decode cX12_in 2 = .ok (.if_icmp .lt 12, 3) := by decide +kernel
theorem dX12_in_5 : decode cX12_in 5 = .ok (.iload_n 0, 1) := by decide +kernel
theorem dX12_in_6 : decode cX12_in 6 = .ok (.iload_n 2, 1) := by decide +kernel
theorem dX12_in_7 : decode cX12_in 7 = .ok (.if_icmp .gt 7, 3) := by decide +kernel
theorem dX12_in_10 : decode cX12_in 10 = .ok (.iconst 1, 1) := by decide +kernel
theorem dX12_in_11 : decode cX12_in 11 = .ok (.goto 4, 3) := by decide +kernel
theorem dX12_in_14 : decode cX12_in 14 = .ok (.iconst 0, 1) := by decide +kernel
theorem dX12_in_15 : decode cX12_in 15 = .ok (.ireturn, 1) := by decide +kernel
theorem dX12_areFeigning_0 : decode cX12_areFeigning 0 = .ok (.aload_n 0, 1) := by decide +kernel
theorem dX12_areFeigning_1 : decode cX12_areFeigning 1 = .ok (.getfield 256, 3) := by decide +kernel
theorem dX12_areFeigning_4 : decode cX12_areFeigning 4 = .ok (.ifCond .le 16, 3) := by decide +kernel
theorem dX12_areFeigning_7 : decode cX12_areFeigning 7 = .ok (.iload_n 1, 1) := by decide +kernel
theorem dX12_areFeigning_8 : decode cX12_areFeigning 8 = .ok (.iconst 0, 1) := by decide +kernel
theorem dX12_areFeigning_9 : decode cX12_areFeigning 9 = .ok (.iconst 3, 1) := by decide +kernel
theorem dX12_areFeigning_10 : decode cX12_areFeigning 10 = .ok (.invokestatic 212, 3) := by decide +kernel
theorem dX12_areFeigning_13 : decode cX12_areFeigning 13 = .ok (.ifCond .eq 7, 3) := by decide +kernel
theorem dX12_areFeigning_16 : decode cX12_areFeigning 16 = .ok (.iconst 1, 1) := by decide +kernel
theorem dX12_areFeigning_17 : decode cX12_areFeigning 17 = .ok (.goto 4, 3) := by decide +kernel
theorem dX12_areFeigning_20 : decode cX12_areFeigning 20 = .ok (.iconst 0, 1) := by decide +kernel
theorem dX12_areFeigning_21 : decode cX12_areFeigning 21 = .ok (.ireturn, 1) := by decide +kernel
theorem dX12_areSeasons_0 : decode cX12_areSeasons 0 = .ok (.iload_n 1, 1) := by decide +kernel
theorem dX12_areSeasons_1 : decode cX12_areSeasons 1 = .ok (.iconst 1, 1) := by decide +kernel
theorem dX12_areSeasons_2 : decode cX12_areSeasons 2 = .ok (.bipush 60, 2) := by decide +kernel
theorem dX12_areSeasons_4 : decode cX12_areSeasons 4 = .ok (.invokestatic 212, 3) := by decide +kernel
theorem dX12_areSeasons_7 : decode cX12_areSeasons 7 = .ok (.ifCond .eq 22, 3) := by decide +kernel
theorem dX12_areSeasons_10 : decode cX12_areSeasons 10 = .ok (.aload_n 0, 1) := by decide +kernel
theorem dX12_areSeasons_11 : decode cX12_areSeasons 11 = .ok (.getfield 58, 3) := by decide +kernel
theorem dX12_areSeasons_14 : decode cX12_areSeasons 14 = .ok (.bipush 32, 2) := by decide +kernel
theorem dX12_areSeasons_16 : decode cX12_areSeasons 16 = .ok (.iaload, 1) := by decide +kernel
theorem dX12_areSeasons_17 : decode cX12_areSeasons 17 = .ok (.iload_n 1, 1) := by decide +kernel
theorem dX12_areSeasons_18 : decode cX12_areSeasons 18 = .ok (.iadd, 1) := by decide +kernel
theorem dX12_areSeasons_19 : decode cX12_areSeasons 19 = .ok (.sipush 3999, 3) := by decide +kernel
theorem dX12_areSeasons_22 : decode cX12_areSeasons 22 = .ok (.if_icmp .gt 7, 3) := by decide +kernel
theorem dX12_areSeasons_25 : decode cX12_areSeasons 25 = .ok (.iconst 1, 1) := by decide +kernel
theorem dX12_areSeasons_26 : decode cX12_areSeasons 26 = .ok (.goto 4, 3) := by decide +kernel
theorem dX12_areSeasons_29 : decode cX12_areSeasons 29 = .ok (.iconst 0, 1) := by decide +kernel
theorem dX12_areSeasons_30 : decode cX12_areSeasons 30 = .ok (.ireturn, 1) := by decide +kernel
theorem dX12_isHouse_0 : decode cX12_isHouse 0 = .ok (.iload_n 1, 1) := by decide +kernel
theorem dX12_isHouse_1 : decode cX12_isHouse 1 = .ok (.iconst 0, 1) := by decide +kernel
theorem dX12_isHouse_2 : decode cX12_isHouse 2 = .ok (.aload_n 0, 1) := by decide +kernel
theorem dX12_isHouse_3 : decode cX12_isHouse 3 = .ok (.getfield 259, 3) := by decide +kernel
theorem dX12_isHouse_6 : decode cX12_isHouse 6 = .ok (.iconst 1, 1) := by decide +kernel
theorem dX12_isHouse_7 : decode cX12_isHouse 7 = .ok (.isub, 1) := by decide +kernel
theorem dX12_isHouse_8 : decode cX12_isHouse 8 = .ok (.invokestatic 212, 3) := by decide +kernel
theorem dX12_isHouse_11 : decode cX12_isHouse 11 = .ok (.ireturn, 1) := by decide +kernel
theorem dX12_isStretch_0 : decode cX12_isStretch 0 = .ok (.iload_n 1, 1) := by decide +kernel
theorem dX12_isStretch_1 : decode cX12_isStretch 1 = .ok (.iconst 0, 1) := by decide +kernel
theorem dX12_isStretch_2 : decode cX12_isStretch 2 = .ok (.aload_n 0, 1) := by decide +kernel
theorem dX12_isStretch_3 : decode cX12_isStretch 3 = .ok (.getfield 256, 3) := by decide +kernel
theorem dX12_isStretch_6 : decode cX12_isStretch 6 = .ok (.iconst 1, 1) := by decide +kernel
theorem dX12_isStretch_7 : decode cX12_isStretch 7 = .ok (.isub, 1) := by decide +kernel
theorem dX12_isStretch_8 : decode cX12_isStretch 8 = .ok (.invokestatic 212, 3) := by decide +kernel
theorem dX12_isStretch_11 : decode cX12_isStretch 11 = .ok (.ireturn, 1) := by decide +kernel
theorem dX12_ofHouse_0 : decode cX12_ofHouse 0 = .ok (.aload_n 0, 1) := by decide +kernel
theorem dX12_ofHouse_1 : decode cX12_ofHouse 1 = .ok (.getfield 55, 3) := by decide +kernel
theorem dX12_ofHouse_4 : decode cX12_ofHouse 4 = .ok (.iconst 3, 1) := by decide +kernel
theorem dX12_ofHouse_5 : decode cX12_ofHouse 5 = .ok (.iload_n 1, 1) := by decide +kernel
theorem dX12_ofHouse_6 : decode cX12_ofHouse 6 = .ok (.imul, 1) := by decide +kernel
theorem dX12_ofHouse_7 : decode cX12_ofHouse 7 = .ok (.iload_n 2, 1) := by decide +kernel
theorem dX12_ofHouse_8 : decode cX12_ofHouse 8 = .ok (.iadd, 1) := by decide +kernel
theorem dX12_ofHouse_9 : decode cX12_ofHouse 9 = .ok (.iaload, 1) := by decide +kernel
theorem dX12_ofHouse_10 : decode cX12_ofHouse 10 = .ok (.ireturn, 1) := by decide +kernel
theorem dX12_of_0 : decode cX12_of 0 = .ok (.aload_n 0, 1) := by decide +kernel
theorem dX12_of_1 : decode cX12_of 1 = .ok (.getfield 52, 3) := by decide +kernel
theorem dX12_of_4 : decode cX12_of 4 = .ok (.iconst 5, 1) := by decide +kernel
theorem dX12_of_5 : decode cX12_of 5 = .ok (.iload_n 1, 1) := by decide +kernel
theorem dX12_of_6 : decode cX12_of 6 = .ok (.imul, 1) := by decide +kernel
theorem dX12_of_7 : decode cX12_of 7 = .ok (.iload_n 2, 1) := by decide +kernel
theorem dX12_of_8 : decode cX12_of 8 = .ok (.iadd, 1) := by decide +kernel
theorem dX12_of_9 : decode cX12_of 9 = .ok (.iaload, 1) := by decide +kernel
theorem dX12_of_10 : decode cX12_of 10 = .ok (.ireturn, 1) := by decide +kernel
theorem dX12_haulOf_0 : decode cX12_haulOf 0 = .ok (.aload_n 0, 1) := by decide +kernel
theorem dX12_haulOf_1 : decode cX12_haulOf 1 = .ok (.getfield 68, 3) := by decide +kernel
theorem dX12_haulOf_4 : decode cX12_haulOf 4 = .ok (.bipush 8, 2) := by decide +kernel
theorem dX12_haulOf_6 : decode cX12_haulOf 6 = .ok (.aload_n 0, 1) := by decide +kernel
theorem dX12_haulOf_7 : decode cX12_haulOf 7 = .ok (.iload_n 1, 1) := by decide +kernel
theorem dX12_haulOf_8 : decode cX12_haulOf 8 = .ok (.iconst 0, 1) := by decide +kernel
theorem dX12_haulOf_9 : decode cX12_haulOf 9 = .ok (.invokevirtual 287, 3) := by decide +kernel
theorem dX12_haulOf_12 : decode cX12_haulOf 12 = .ok (.imul, 1) := by decide +kernel
theorem dX12_haulOf_13 : decode cX12_haulOf 13 = .ok (.aload_n 0, 1) := by decide +kernel
theorem dX12_haulOf_14 : decode cX12_haulOf 14 = .ok (.iload_n 2, 1) := by decide +kernel
theorem dX12_haulOf_15 : decode cX12_haulOf 15 = .ok (.iconst 0, 1) := by decide +kernel
theorem dX12_haulOf_16 : decode cX12_haulOf 16 = .ok (.invokevirtual 262, 3) := by decide +kernel
theorem dX12_haulOf_19 : decode cX12_haulOf 19 = .ok (.iadd, 1) := by decide +kernel
theorem dX12_haulOf_20 : decode cX12_haulOf 20 = .ok (.iaload, 1) := by decide +kernel
theorem dX12_haulOf_21 : decode cX12_haulOf 21 = .ok (.aload_n 0, 1) := by decide +kernel
theorem dX12_haulOf_22 : decode cX12_haulOf 22 = .ok (.getfield 68, 3) := by decide +kernel
theorem dX12_haulOf_25 : decode cX12_haulOf 25 = .ok (.bipush 8, 2) := by decide +kernel
theorem dX12_haulOf_27 : decode cX12_haulOf 27 = .ok (.aload_n 0, 1) := by decide +kernel
theorem dX12_haulOf_28 : decode cX12_haulOf 28 = .ok (.iload_n 1, 1) := by decide +kernel
theorem dX12_haulOf_29 : decode cX12_haulOf 29 = .ok (.iconst 0, 1) := by decide +kernel
theorem dX12_haulOf_30 : decode cX12_haulOf 30 = .ok (.invokevirtual 287, 3) := by decide +kernel
theorem dX12_haulOf_33 : decode cX12_haulOf 33 = .ok (.imul, 1) := by decide +kernel
theorem dX12_haulOf_34 : decode cX12_haulOf 34 = .ok (.aload_n 0, 1) := by decide +kernel
theorem dX12_haulOf_35 : decode cX12_haulOf 35 = .ok (.iload_n 2, 1) := by decide +kernel
theorem dX12_haulOf_36 : decode cX12_haulOf 36 = .ok (.iconst 1, 1) := by decide +kernel
theorem dX12_haulOf_37 : decode cX12_haulOf 37 = .ok (.invokevirtual 262, 3) := by decide +kernel
theorem dX12_haulOf_40 : decode cX12_haulOf 40 = .ok (.iadd, 1) := by decide +kernel
theorem dX12_haulOf_41 : decode cX12_haulOf 41 = .ok (.iaload, 1) := by decide +kernel
theorem dX12_haulOf_42 : decode cX12_haulOf 42 = .ok (.invokestatic 279, 3) := by decide +kernel
theorem dX12_haulOf_45 : decode cX12_haulOf 45 = .ok (.ireturn, 1) := by decide +kernel
theorem dX12_comes_0 : decode cX12_comes 0 = .ok (.aload_n 0, 1) := by decide +kernel
theorem dX12_comes_1 : decode cX12_comes 1 = .ok (.iload_n 1, 1) := by decide +kernel
theorem dX12_comes_2 : decode cX12_comes 2 = .ok (.iload_n 2, 1) := by decide +kernel
theorem dX12_comes_3 : decode cX12_comes 3 = .ok (.invokevirtual 290, 3) := by decide +kernel
theorem dX12_comes_6 : decode cX12_comes 6 = .ok (.ldc_w 278, 3) := by decide +kernel
theorem dX12_comes_9 : decode cX12_comes 9 = .ok (.if_icmp .ge 7, 3) := by decide +kernel
theorem dX12_comes_12 : decode cX12_comes 12 = .ok (.iconst 1, 1) := by decide +kernel
theorem dX12_comes_13 : decode cX12_comes 13 = .ok (.goto 4, 3) := by decide +kernel
theorem dX12_comes_16 : decode cX12_comes 16 = .ok (.iconst 0, 1) := by decide +kernel
theorem dX12_comes_17 : decode cX12_comes 17 = .ok (.ireturn, 1) := by decide +kernel
theorem dX12_areTwo_0 : decode cX12_areTwo 0 = .ok (.aload_n 0, 1) := by decide +kernel
theorem dX12_areTwo_1 : decode cX12_areTwo 1 = .ok (.iload_n 1, 1) := by decide +kernel
theorem dX12_areTwo_2 : decode cX12_areTwo 2 = .ok (.invokevirtual 308, 3) := by decide +kernel
theorem dX12_areTwo_5 : decode cX12_areTwo 5 = .ok (.ifCond .eq 46, 3) := by decide +kernel
theorem dX12_areTwo_8 : decode cX12_areTwo 8 = .ok (.aload_n 0, 1) := by decide +kernel
theorem dX12_areTwo_9 : decode cX12_areTwo 9 = .ok (.iload_n 2, 1) := by decide +kernel
theorem dX12_areTwo_10 : decode cX12_areTwo 10 = .ok (.invokevirtual 308, 3) := by decide +kernel
theorem dX12_areTwo_13 : decode cX12_areTwo 13 = .ok (.ifCond .eq 38, 3) := by decide +kernel
theorem dX12_areTwo_16 : decode cX12_areTwo 16 = .ok (.iload_n 1, 1) := by decide +kernel
theorem dX12_areTwo_17 : decode cX12_areTwo 17 = .ok (.iload_n 2, 1) := by decide +kernel
theorem dX12_areTwo_18 : decode cX12_areTwo 18 = .ok (.if_icmp .eq 33, 3) := by decide +kernel
theorem dX12_areTwo_21 : decode cX12_areTwo 21 = .ok (.aload_n 0, 1) := by decide +kernel
theorem dX12_areTwo_22 : decode cX12_areTwo 22 = .ok (.iload_n 3, 1) := by decide +kernel
theorem dX12_areTwo_23 : decode cX12_areTwo 23 = .ok (.invokevirtual 305, 3) := by decide +kernel
theorem dX12_areTwo_26 : decode cX12_areTwo 26 = .ok (.ifCond .eq 25, 3) := by decide +kernel
theorem dX12_areTwo_29 : decode cX12_areTwo 29 = .ok (.aload_n 0, 1) := by decide +kernel
theorem dX12_areTwo_30 : decode cX12_areTwo 30 = .ok (.iload_n 1, 1) := by decide +kernel
theorem dX12_areTwo_31 : decode cX12_areTwo 31 = .ok (.iload_n 3, 1) := by decide +kernel
theorem dX12_areTwo_32 : decode cX12_areTwo 32 = .ok (.invokevirtual 311, 3) := by decide +kernel
theorem dX12_areTwo_35 : decode cX12_areTwo 35 = .ok (.ifCond .eq 16, 3) := by decide +kernel
theorem dX12_areTwo_38 : decode cX12_areTwo 38 = .ok (.aload_n 0, 1) := by decide +kernel
theorem dX12_areTwo_39 : decode cX12_areTwo 39 = .ok (.iload_n 2, 1) := by decide +kernel
theorem dX12_areTwo_40 : decode cX12_areTwo 40 = .ok (.iload_n 3, 1) := by decide +kernel
theorem dX12_areTwo_41 : decode cX12_areTwo 41 = .ok (.invokevirtual 311, 3) := by decide +kernel
theorem dX12_areTwo_44 : decode cX12_areTwo 44 = .ok (.ifCond .eq 7, 3) := by decide +kernel
theorem dX12_areTwo_47 : decode cX12_areTwo 47 = .ok (.iconst 1, 1) := by decide +kernel
theorem dX12_areTwo_48 : decode cX12_areTwo 48 = .ok (.goto 4, 3) := by decide +kernel
theorem dX12_areTwo_51 : decode cX12_areTwo 51 = .ok (.iconst 0, 1) := by decide +kernel
theorem dX12_areTwo_52 : decode cX12_areTwo 52 = .ok (.ireturn, 1) := by decide +kernel
theorem dX12_here_0 : decode cX12_here 0 = .ok (.aload_n 0, 1) := by decide +kernel
theorem dX12_here_1 : decode cX12_here 1 = .ok (.getfield 107, 3) := by decide +kernel
theorem dX12_here_4 : decode cX12_here 4 = .ok (.aload_n 0, 1) := by decide +kernel
theorem dX12_here_5 : decode cX12_here 5 = .ok (.getfield 104, 3) := by decide +kernel
theorem dX12_here_8 : decode cX12_here 8 = .ok (.if_icmp .ge 15, 3) := by decide +kernel
theorem dX12_here_11 : decode cX12_here 11 = .ok (.aload_n 0, 1) := by decide +kernel
theorem dX12_here_12 : decode cX12_here 12 = .ok (.getfield 9, 3) := by decide +kernel
theorem dX12_here_15 : decode cX12_here 15 = .ok (.aload_n 0, 1) := by decide +kernel
theorem dX12_here_16 : decode cX12_here 16 = .ok (.getfield 107, 3) := by decide +kernel
theorem dX12_here_19 : decode cX12_here 19 = .ok (.iaload, 1) := by decide +kernel
theorem dX12_here_20 : decode cX12_here 20 = .ok (.goto 4, 3) := by decide +kernel
theorem dX12_here_23 : decode cX12_here 23 = .ok (.iconst (-1), 1) := by decide +kernel
theorem dX12_here_24 : decode cX12_here 24 = .ok (.ireturn, 1) := by decide +kernel
theorem dX12_look_0 : decode cX12_look 0 = .ok (.aload_n 0, 1) := by decide +kernel
theorem dX12_look_1 : decode cX12_look 1 = .ok (.invokevirtual 110, 3) := by decide +kernel
theorem dX12_look_4 : decode cX12_look 4 = .ok (.bipush 32, 2) := by decide +kernel
theorem dX12_look_6 : decode cX12_look 6 = .ok (.if_icmp .ne 16, 3) := by decide +kernel
theorem dX12_look_9 : decode cX12_look 9 = .ok (.aload_n 0, 1) := by decide +kernel
theorem dX12_look_10 : decode cX12_look 10 = .ok (.dup, 1) := by decide +kernel
theorem dX12_look_11 : decode cX12_look 11 = .ok (.getfield 107, 3) := by decide +kernel
theorem dX12_look_14 : decode cX12_look 14 = .ok (.iconst 1, 1) := by decide +kernel
theorem dX12_look_15 : decode cX12_look 15 = .ok (.iadd, 1) := by decide +kernel
theorem dX12_look_16 : decode cX12_look 16 = .ok (.putfield 107, 3) := by decide +kernel
theorem dX12_look_19 : decode cX12_look 19 = .ok (.goto (-19), 3) := by decide +kernel
theorem dX12_look_22 : decode cX12_look 22 = .ok (.aload_n 0, 1) := by decide +kernel
theorem dX12_look_23 : decode cX12_look 23 = .ok (.invokevirtual 110, 3) := by decide +kernel
theorem dX12_look_26 : decode cX12_look 26 = .ok (.ireturn, 1) := by decide +kernel
theorem dX12_bad_0 : decode cX12_bad 0 = .ok (.aload_n 0, 1) := by decide +kernel
theorem dX12_bad_1 : decode cX12_bad 1 = .ok (.aload_n 0, 1) := by decide +kernel
theorem dX12_bad_2 : decode cX12_bad 2 = .ok (.getfield 114, 3) := by decide +kernel
theorem dX12_bad_5 : decode cX12_bad 5 = .ok (.iconst (-1), 1) := by decide +kernel
theorem dX12_bad_6 : decode cX12_bad 6 = .ok (.if_icmp .ne 10, 3) := by decide +kernel
theorem dX12_bad_9 : decode cX12_bad 9 = .ok (.aload_n 0, 1) := by decide +kernel
theorem dX12_bad_10 : decode cX12_bad 10 = .ok (.getfield 107, 3) := by decide +kernel
theorem dX12_bad_13 : decode cX12_bad 13 = .ok (.goto 7, 3) := by decide +kernel
theorem dX12_bad_16 : decode cX12_bad 16 = .ok (.aload_n 0, 1) := by decide +kernel
theorem dX12_bad_17 : decode cX12_bad 17 = .ok (.getfield 114, 3) := by decide +kernel
theorem dX12_bad_20 : decode cX12_bad 20 = .ok (.putfield 114, 3) := by decide +kernel
theorem dX12_bad_23 : decode cX12_bad 23 = .ok (.return_, 1) := by decide +kernel
theorem dX12_atEnd_0 : decode cX12_atEnd 0 = .ok (.aload_n 0, 1) := by decide +kernel
theorem dX12_atEnd_1 : decode cX12_atEnd 1 = .ok (.getfield 114, 3) := by decide +kernel
theorem dX12_atEnd_4 : decode cX12_atEnd 4 = .ok (.iconst (-1), 1) := by decide +kernel
theorem dX12_atEnd_5 : decode cX12_atEnd 5 = .ok (.if_icmp .ne 15, 3) := by decide +kernel
theorem dX12_atEnd_8 : decode cX12_atEnd 8 = .ok (.aload_n 0, 1) := by decide +kernel
theorem dX12_atEnd_9 : decode cX12_atEnd 9 = .ok (.invokevirtual 126, 3) := by decide +kernel
theorem dX12_atEnd_12 : decode cX12_atEnd 12 = .ok (.iconst (-1), 1) := by decide +kernel
theorem dX12_atEnd_13 : decode cX12_atEnd 13 = .ok (.if_icmp .eq 7, 3) := by decide +kernel
theorem dX12_atEnd_16 : decode cX12_atEnd 16 = .ok (.aload_n 0, 1) := by decide +kernel
theorem dX12_atEnd_17 : decode cX12_atEnd 17 = .ok (.invokevirtual 123, 3) := by decide +kernel
theorem dX12_atEnd_20 : decode cX12_atEnd 20 = .ok (.aload_n 0, 1) := by decide +kernel
theorem dX12_atEnd_21 : decode cX12_atEnd 21 = .ok (.getfield 114, 3) := by decide +kernel
theorem dX12_atEnd_24 : decode cX12_atEnd 24 = .ok (.ireturn, 1) := by decide +kernel
theorem dX12_isDigit_0 : decode cX12_isDigit 0 = .ok (.iload_n 0, 1) := by decide +kernel
theorem dX12_isDigit_1 : decode cX12_isDigit 1 = .ok (.bipush 48, 2) := by decide +kernel
theorem dX12_isDigit_3 : decode cX12_isDigit 3 = .ok (.if_icmp .lt 13, 3) := by decide +kernel
theorem dX12_isDigit_6 : decode cX12_isDigit 6 = .ok (.iload_n 0, 1) := by decide +kernel
theorem dX12_isDigit_7 : decode cX12_isDigit 7 = .ok (.bipush 57, 2) := by decide +kernel
theorem dX12_isDigit_9 : decode cX12_isDigit 9 = .ok (.if_icmp .gt 7, 3) := by decide +kernel
theorem dX12_isDigit_12 : decode cX12_isDigit 12 = .ok (.iconst 1, 1) := by decide +kernel
theorem dX12_isDigit_13 : decode cX12_isDigit 13 = .ok (.goto 4, 3) := by decide +kernel
theorem dX12_isDigit_16 : decode cX12_isDigit 16 = .ok (.iconst 0, 1) := by decide +kernel
theorem dX12_isDigit_17 : decode cX12_isDigit 17 = .ok (.ireturn, 1) := by decide +kernel
theorem dX12_plainNumber_0 : decode cX12_plainNumber 0 = .ok (.iconst 0, 1) := by decide +kernel
theorem dX12_plainNumber_1 : decode cX12_plainNumber 1 = .ok (.istore_n 1, 1) := by decide +kernel
theorem dX12_plainNumber_2 : decode cX12_plainNumber 2 = .ok (.iconst 0, 1) := by decide +kernel
theorem dX12_plainNumber_3 : decode cX12_plainNumber 3 = .ok (.istore_n 2, 1) := by decide +kernel
theorem dX12_plainNumber_4 : decode cX12_plainNumber 4 = .ok (.iload_n 2, 1) := by decide +kernel
theorem dX12_plainNumber_5 : decode cX12_plainNumber 5 = .ok (.iconst 4, 1) := by decide +kernel
theorem dX12_plainNumber_6 : decode cX12_plainNumber 6 = .ok (.if_icmp .ge 42, 3) := by decide +kernel
theorem dX12_plainNumber_9 : decode cX12_plainNumber 9 = .ok (.aload_n 0, 1) := by decide +kernel
theorem dX12_plainNumber_10 : decode cX12_plainNumber 10 = .ok (.invokevirtual 110, 3) := by decide +kernel
theorem dX12_plainNumber_13 : decode cX12_plainNumber 13 = .ok (.invokestatic 129, 3) := by decide +kernel
theorem dX12_plainNumber_16 : decode cX12_plainNumber 16 = .ok (.ifCond .eq 32, 3) := by decide +kernel
theorem dX12_plainNumber_19 : decode cX12_plainNumber 19 = .ok (.bipush 10, 2) := by decide +kernel
theorem dX12_plainNumber_21 : decode cX12_plainNumber 21 = .ok (.iload_n 1, 1) := by decide +kernel
theorem dX12_plainNumber_22 : decode cX12_plainNumber 22 = .ok (.imul, 1) := by decide +kernel
theorem dX12_plainNumber_23 : decode cX12_plainNumber 23 = .ok (.aload_n 0, 1) := by decide +kernel
theorem dX12_plainNumber_24 : decode cX12_plainNumber 24 = .ok (.invokevirtual 110, 3) := by decide +kernel
theorem dX12_plainNumber_27 : decode cX12_plainNumber 27 = .ok (.iadd, 1) := by decide +kernel
theorem dX12_plainNumber_28 : decode cX12_plainNumber 28 = .ok (.bipush 48, 2) := by decide +kernel
theorem dX12_plainNumber_30 : decode cX12_plainNumber 30 = .ok (.isub, 1) := by decide +kernel
theorem dX12_plainNumber_31 : decode cX12_plainNumber 31 = .ok (.istore_n 1, 1) := by decide +kernel
theorem dX12_plainNumber_32 : decode cX12_plainNumber 32 = .ok (.aload_n 0, 1) := by decide +kernel
theorem dX12_plainNumber_33 : decode cX12_plainNumber 33 = .ok (.dup, 1) := by decide +kernel
theorem dX12_plainNumber_34 : decode cX12_plainNumber 34 = .ok (.getfield 107, 3) := by decide +kernel
theorem dX12_plainNumber_37 : decode cX12_plainNumber 37 = .ok (.iconst 1, 1) := by decide +kernel
theorem dX12_plainNumber_38 : decode cX12_plainNumber 38 = .ok (.iadd, 1) := by decide +kernel
theorem dX12_plainNumber_39 : decode cX12_plainNumber 39 = .ok (.putfield 107, 3) := by decide +kernel
theorem dX12_plainNumber_42 : decode cX12_plainNumber 42 = .ok (.iinc 2 1, 3) := by decide +kernel
theorem dX12_plainNumber_45 : decode cX12_plainNumber 45 = .ok (.goto (-41), 3) := by decide +kernel
theorem dX12_plainNumber_48 : decode cX12_plainNumber 48 = .ok (.aload_n 0, 1) := by decide +kernel
theorem dX12_plainNumber_49 : decode cX12_plainNumber 49 = .ok (.invokevirtual 110, 3) := by decide +kernel
theorem dX12_plainNumber_52 : decode cX12_plainNumber 52 = .ok (.invokestatic 129, 3) := by decide +kernel
theorem dX12_plainNumber_55 : decode cX12_plainNumber 55 = .ok (.ifCond .eq 7, 3) := by decide +kernel
theorem dX12_plainNumber_58 : decode cX12_plainNumber 58 = .ok (.aload_n 0, 1) := by decide +kernel
theorem dX12_plainNumber_59 : decode cX12_plainNumber 59 = .ok (.invokevirtual 123, 3) := by decide +kernel
theorem dX12_plainNumber_62 : decode cX12_plainNumber 62 = .ok (.iload_n 1, 1) := by decide +kernel
theorem dX12_plainNumber_63 : decode cX12_plainNumber 63 = .ok (.ireturn, 1) := by decide +kernel
theorem dX12_put_0 : decode cX12_put 0 = .ok (.aload_n 0, 1) := by decide +kernel
theorem dX12_put_1 : decode cX12_put 1 = .ok (.getfield 13, 3) := by decide +kernel
theorem dX12_put_4 : decode cX12_put 4 = .ok (.sipush 520, 3) := by decide +kernel
theorem dX12_put_7 : decode cX12_put 7 = .ok (.aload_n 0, 1) := by decide +kernel
theorem dX12_put_8 : decode cX12_put 8 = .ok (.getfield 117, 3) := by decide +kernel
theorem dX12_put_11 : decode cX12_put 11 = .ok (.imul, 1) := by decide +kernel
theorem dX12_put_12 : decode cX12_put 12 = .ok (.aload_n 0, 1) := by decide +kernel
theorem dX12_put_13 : decode cX12_put 13 = .ok (.getfield 19, 3) := by decide +kernel
theorem dX12_put_16 : decode cX12_put 16 = .ok (.aload_n 0, 1) := by decide +kernel
theorem dX12_put_17 : decode cX12_put 17 = .ok (.getfield 117, 3) := by decide +kernel
theorem dX12_put_20 : decode cX12_put 20 = .ok (.iaload, 1) := by decide +kernel
theorem dX12_put_21 : decode cX12_put 21 = .ok (.iadd, 1) := by decide +kernel
theorem dX12_put_22 : decode cX12_put 22 = .ok (.iload_n 1, 1) := by decide +kernel
theorem dX12_put_23 : decode cX12_put 23 = .ok (.iastore, 1) := by decide +kernel
theorem dX12_put_24 : decode cX12_put 24 = .ok (.aload_n 0, 1) := by decide +kernel
theorem dX12_put_25 : decode cX12_put 25 = .ok (.getfield 16, 3) := by decide +kernel
theorem dX12_put_28 : decode cX12_put 28 = .ok (.sipush 520, 3) := by decide +kernel
theorem dX12_put_31 : decode cX12_put 31 = .ok (.aload_n 0, 1) := by decide +kernel
theorem dX12_put_32 : decode cX12_put 32 = .ok (.getfield 117, 3) := by decide +kernel
theorem dX12_put_35 : decode cX12_put 35 = .ok (.imul, 1) := by decide +kernel
theorem dX12_put_36 : decode cX12_put 36 = .ok (.aload_n 0, 1) := by decide +kernel
theorem dX12_put_37 : decode cX12_put 37 = .ok (.getfield 19, 3) := by decide +kernel
theorem dX12_put_40 : decode cX12_put 40 = .ok (.aload_n 0, 1) := by decide +kernel
theorem dX12_put_41 : decode cX12_put 41 = .ok (.getfield 117, 3) := by decide +kernel
theorem dX12_put_44 : decode cX12_put 44 = .ok (.iaload, 1) := by decide +kernel
theorem dX12_put_45 : decode cX12_put 45 = .ok (.iadd, 1) := by decide +kernel
theorem dX12_put_46 : decode cX12_put 46 = .ok (.iload_n 2, 1) := by decide +kernel
theorem dX12_put_47 : decode cX12_put 47 = .ok (.iastore, 1) := by decide +kernel
theorem dX12_put_48 : decode cX12_put 48 = .ok (.aload_n 0, 1) := by decide +kernel
theorem dX12_put_49 : decode cX12_put 49 = .ok (.getfield 19, 3) := by decide +kernel
theorem dX12_put_52 : decode cX12_put 52 = .ok (.aload_n 0, 1) := by decide +kernel
theorem dX12_put_53 : decode cX12_put 53 = .ok (.getfield 117, 3) := by decide +kernel
theorem dX12_put_56 : decode cX12_put 56 = .ok (.dup2, 1) := by decide +kernel
theorem dX12_put_57 : decode cX12_put 57 = .ok (.iaload, 1) := by decide +kernel
theorem dX12_put_58 : decode cX12_put 58 = .ok (.iconst 1, 1) := by decide +kernel
theorem dX12_put_59 : decode cX12_put 59 = .ok (.iadd, 1) := by decide +kernel
theorem dX12_put_60 : decode cX12_put 60 = .ok (.iastore, 1) := by decide +kernel
theorem dX12_put_61 : decode cX12_put 61 = .ok (.return_, 1) := by decide +kernel
theorem dX12_letterOf_0 : decode cX12_letterOf 0 = .ok (.iload_n 0, 1) := by decide +kernel
theorem dX12_letterOf_1 : decode cX12_letterOf 1 = .ok (.bipush 113, 2) := by decide +kernel
theorem dX12_letterOf_3 : decode cX12_letterOf 3 = .ok (.if_icmp .ne 7, 3) := by decide +kernel
theorem dX12_letterOf_6 : decode cX12_letterOf 6 = .ok (.iconst 0, 1) := by decide +kernel
theorem dX12_letterOf_7 : decode cX12_letterOf 7 = .ok (.goto 54, 3) := by decide +kernel
theorem dX12_letterOf_10 : decode cX12_letterOf 10 = .ok (.iload_n 0, 1) := by decide +kernel
theorem dX12_letterOf_11 : decode cX12_letterOf 11 = .ok (.bipush 122, 2) := by decide +kernel
theorem dX12_letterOf_13 : decode cX12_letterOf 13 = .ok (.if_icmp .ne 7, 3) := by decide +kernel
theorem dX12_letterOf_16 : decode cX12_letterOf 16 = .ok (.iconst 1, 1) := by decide +kernel
theorem dX12_letterOf_17 : decode cX12_letterOf 17 = .ok (.goto 44, 3) := by decide +kernel
theorem dX12_letterOf_20 : decode cX12_letterOf 20 = .ok (.iload_n 0, 1) := by decide +kernel
theorem dX12_letterOf_21 : decode cX12_letterOf 21 = .ok (.bipush 104, 2) := by decide +kernel
theorem dX12_letterOf_23 : decode cX12_letterOf 23 = .ok (.if_icmp .ne 7, 3) := by decide +kernel
theorem dX12_letterOf_26 : decode cX12_letterOf 26 = .ok (.iconst 2, 1) := by decide +kernel
theorem dX12_letterOf_27 : decode cX12_letterOf 27 = .ok (.goto 34, 3) := by decide +kernel
theorem dX12_letterOf_30 : decode cX12_letterOf 30 = .ok (.iload_n 0, 1) := by decide +kernel
theorem dX12_letterOf_31 : decode cX12_letterOf 31 = .ok (.bipush 119, 2) := by decide +kernel
theorem dX12_letterOf_33 : decode cX12_letterOf 33 = .ok (.if_icmp .ne 7, 3) := by decide +kernel
theorem dX12_letterOf_36 : decode cX12_letterOf 36 = .ok (.iconst 3, 1) := by decide +kernel
theorem dX12_letterOf_37 : decode cX12_letterOf 37 = .ok (.goto 24, 3) := by decide +kernel
theorem dX12_letterOf_40 : decode cX12_letterOf 40 = .ok (.iload_n 0, 1) := by decide +kernel
theorem dX12_letterOf_41 : decode cX12_letterOf 41 = .ok (.bipush 101, 2) := by decide +kernel
theorem dX12_letterOf_43 : decode cX12_letterOf 43 = .ok (.if_icmp .ne 7, 3) := by decide +kernel
theorem dX12_letterOf_46 : decode cX12_letterOf 46 = .ok (.iconst 4, 1) := by decide +kernel
theorem dX12_letterOf_47 : decode cX12_letterOf 47 = .ok (.goto 14, 3) := by decide +kernel
theorem dX12_letterOf_50 : decode cX12_letterOf 50 = .ok (.iload_n 0, 1) := by decide +kernel
theorem dX12_letterOf_51 : decode cX12_letterOf 51 = .ok (.bipush 115, 2) := by decide +kernel
theorem dX12_letterOf_53 : decode cX12_letterOf 53 = .ok (.if_icmp .ne 7, 3) := by decide +kernel
theorem dX12_letterOf_56 : decode cX12_letterOf 56 = .ok (.iconst 5, 1) := by decide +kernel
theorem dX12_letterOf_57 : decode cX12_letterOf 57 = .ok (.goto 4, 3) := by decide +kernel
theorem dX12_letterOf_60 : decode cX12_letterOf 60 = .ok (.iconst (-1), 1) := by decide +kernel
theorem dX12_letterOf_61 : decode cX12_letterOf 61 = .ok (.ireturn, 1) := by decide +kernel
theorem dX12_opens_0 : decode cX12_opens 0 = .ok (.aload_n 0, 1) := by decide +kernel
theorem dX12_opens_1 : decode cX12_opens 1 = .ok (.getfield 120, 3) := by decide +kernel
theorem dX12_opens_4 : decode cX12_opens 4 = .ok (.bipush 6, 2) := by decide +kernel
theorem dX12_opens_6 : decode cX12_opens 6 = .ok (.if_icmp .ne 7, 3) := by decide +kernel
theorem dX12_opens_9 : decode cX12_opens 9 = .ok (.aload_n 0, 1) := by decide +kernel
theorem dX12_opens_10 : decode cX12_opens 10 = .ok (.invokevirtual 123, 3) := by decide +kernel
theorem dX12_opens_13 : decode cX12_opens 13 = .ok (.aload_n 0, 1) := by decide +kernel
theorem dX12_opens_14 : decode cX12_opens 14 = .ok (.dup, 1) := by decide +kernel
theorem dX12_opens_15 : decode cX12_opens 15 = .ok (.getfield 120, 3) := by decide +kernel
theorem dX12_opens_18 : decode cX12_opens 18 = .ok (.iconst 1, 1) := by decide +kernel
theorem dX12_opens_19 : decode cX12_opens 19 = .ok (.iadd, 1) := by decide +kernel
theorem dX12_opens_20 : decode cX12_opens 20 = .ok (.putfield 120, 3) := by decide +kernel
theorem dX12_opens_23 : decode cX12_opens 23 = .ok (.aload_n 0, 1) := by decide +kernel
theorem dX12_opens_24 : decode cX12_opens 24 = .ok (.dup, 1) := by decide +kernel
theorem dX12_opens_25 : decode cX12_opens 25 = .ok (.getfield 107, 3) := by decide +kernel
theorem dX12_opens_28 : decode cX12_opens 28 = .ok (.iconst 1, 1) := by decide +kernel
theorem dX12_opens_29 : decode cX12_opens 29 = .ok (.iadd, 1) := by decide +kernel
theorem dX12_opens_30 : decode cX12_opens 30 = .ok (.putfield 107, 3) := by decide +kernel
theorem dX12_opens_33 : decode cX12_opens 33 = .ok (.return_, 1) := by decide +kernel
theorem dX12_closes_0 : decode cX12_closes 0 = .ok (.aload_n 0, 1) := by decide +kernel
theorem dX12_closes_1 : decode cX12_closes 1 = .ok (.getfield 114, 3) := by decide +kernel
theorem dX12_closes_4 : decode cX12_closes 4 = .ok (.iconst (-1), 1) := by decide +kernel
theorem dX12_closes_5 : decode cX12_closes 5 = .ok (.if_icmp .ne 15, 3) := by decide +kernel
theorem dX12_closes_8 : decode cX12_closes 8 = .ok (.aload_n 0, 1) := by decide +kernel
theorem dX12_closes_9 : decode cX12_closes 9 = .ok (.invokevirtual 126, 3) := by decide +kernel
theorem dX12_closes_12 : decode cX12_closes 12 = .ok (.iload_n 1, 1) := by decide +kernel
theorem dX12_closes_13 : decode cX12_closes 13 = .ok (.if_icmp .eq 7, 3) := by decide +kernel
theorem dX12_closes_16 : decode cX12_closes 16 = .ok (.aload_n 0, 1) := by decide +kernel
theorem dX12_closes_17 : decode cX12_closes 17 = .ok (.invokevirtual 123, 3) := by decide +kernel
theorem dX12_closes_20 : decode cX12_closes 20 = .ok (.aload_n 0, 1) := by decide +kernel
theorem dX12_closes_21 : decode cX12_closes 21 = .ok (.dup, 1) := by decide +kernel
theorem dX12_closes_22 : decode cX12_closes 22 = .ok (.getfield 107, 3) := by decide +kernel
theorem dX12_closes_25 : decode cX12_closes 25 = .ok (.iconst 1, 1) := by decide +kernel
theorem dX12_closes_26 : decode cX12_closes 26 = .ok (.iadd, 1) := by decide +kernel
theorem dX12_closes_27 : decode cX12_closes 27 = .ok (.putfield 107, 3) := by decide +kernel
theorem dX12_closes_30 : decode cX12_closes 30 = .ok (.aload_n 0, 1) := by decide +kernel
theorem dX12_closes_31 : decode cX12_closes 31 = .ok (.dup, 1) := by decide +kernel
theorem dX12_closes_32 : decode cX12_closes 32 = .ok (.getfield 120, 3) := by decide +kernel
theorem dX12_closes_35 : decode cX12_closes 35 = .ok (.iconst 1, 1) := by decide +kernel
theorem dX12_closes_36 : decode cX12_closes 36 = .ok (.isub, 1) := by decide +kernel
theorem dX12_closes_37 : decode cX12_closes 37 = .ok (.putfield 120, 3) := by decide +kernel
theorem dX12_closes_40 : decode cX12_closes 40 = .ok (.return_, 1) := by decide +kernel
theorem dX12_atom_0 : decode cX12_atom 0 = .ok (.aload_n 0, 1) := by decide +kernel
theorem dX12_atom_1 : decode cX12_atom 1 = .ok (.invokevirtual 126, 3) := by decide +kernel
theorem dX12_atom_4 : decode cX12_atom 4 = .ok (.istore_n 1, 1) := by decide +kernel
theorem dX12_atom_5 : decode cX12_atom 5 = .ok (.iload_n 1, 1) := by decide +kernel
theorem dX12_atom_6 : decode cX12_atom 6 = .ok (.invokestatic 129, 3) := by decide +kernel
theorem dX12_atom_9 : decode cX12_atom 9 = .ok (.ifCond .eq 15, 3) := by decide +kernel
theorem dX12_atom_12 : decode cX12_atom 12 = .ok (.aload_n 0, 1) := by decide +kernel
theorem dX12_atom_13 : decode cX12_atom 13 = .ok (.iconst 0, 1) := by decide +kernel
theorem dX12_atom_14 : decode cX12_atom 14 = .ok (.aload_n 0, 1) := by decide +kernel
theorem dX12_atom_15 : decode cX12_atom 15 = .ok (.invokevirtual 133, 3) := by decide +kernel
theorem dX12_atom_18 : decode cX12_atom 18 = .ok (.invokevirtual 136, 3) := by decide +kernel
theorem dX12_atom_21 : decode cX12_atom 21 = .ok (.goto 68, 3) := by decide +kernel
theorem dX12_atom_24 : decode cX12_atom 24 = .ok (.iload_n 1, 1) := by decide +kernel
theorem dX12_atom_25 : decode cX12_atom 25 = .ok (.invokestatic 140, 3) := by decide +kernel
theorem dX12_atom_28 : decode cX12_atom 28 = .ok (.iconst (-1), 1) := by decide +kernel
theorem dX12_atom_29 : decode cX12_atom 29 = .ok (.if_icmp .eq 25, 3) := by decide +kernel
theorem dX12_atom_32 : decode cX12_atom 32 = .ok (.aload_n 0, 1) := by decide +kernel
theorem dX12_atom_33 : decode cX12_atom 33 = .ok (.dup, 1) := by decide +kernel
theorem dX12_atom_34 : decode cX12_atom 34 = .ok (.getfield 107, 3) := by decide +kernel
theorem dX12_atom_37 : decode cX12_atom 37 = .ok (.iconst 1, 1) := by decide +kernel
theorem dX12_atom_38 : decode cX12_atom 38 = .ok (.iadd, 1) := by decide +kernel
theorem dX12_atom_39 : decode cX12_atom 39 = .ok (.putfield 107, 3) := by decide +kernel
theorem dX12_atom_42 : decode cX12_atom 42 = .ok (.aload_n 0, 1) := by decide +kernel
theorem dX12_atom_43 : decode cX12_atom 43 = .ok (.iconst 1, 1) := by decide +kernel
theorem dX12_atom_44 : decode cX12_atom 44 = .ok (.iload_n 1, 1) := by decide +kernel
theorem dX12_atom_45 : decode cX12_atom 45 = .ok (.invokestatic 140, 3) := by decide +kernel
theorem dX12_atom_48 : decode cX12_atom 48 = .ok (.invokevirtual 136, 3) := by decide +kernel
theorem dX12_atom_51 : decode cX12_atom 51 = .ok (.goto 38, 3) := by decide +kernel
theorem dX12_atom_54 : decode cX12_atom 54 = .ok (.iload_n 1, 1) := by decide +kernel
theorem dX12_atom_55 : decode cX12_atom 55 = .ok (.bipush 91, 2) := by decide +kernel
theorem dX12_atom_57 : decode cX12_atom 57 = .ok (.if_icmp .ne 28, 3) := by decide +kernel
theorem dX12_atom_60 : decode cX12_atom 60 = .ok (.aload_n 0, 1) := by decide +kernel
theorem dX12_atom_61 : decode cX12_atom 61 = .ok (.invokevirtual 144, 3) := by decide +kernel
theorem dX12_atom_64 : decode cX12_atom 64 = .ok (.aload_n 0, 1) := by decide +kernel
theorem dX12_atom_65 : decode cX12_atom 65 = .ok (.getfield 114, 3) := by decide +kernel
theorem dX12_atom_68 : decode cX12_atom 68 = .ok (.iconst (-1), 1) := by decide +kernel
theorem dX12_atom_69 : decode cX12_atom 69 = .ok (.if_icmp .ne 20, 3) := by decide +kernel
theorem dX12_atom_72 : decode cX12_atom 72 = .ok (.aload_n 0, 1) := by decide +kernel
theorem dX12_atom_73 : decode cX12_atom 73 = .ok (.invokevirtual 147, 3) := by decide +kernel
theorem dX12_atom_76 : decode cX12_atom 76 = .ok (.aload_n 0, 1) := by decide +kernel
theorem dX12_atom_77 : decode cX12_atom 77 = .ok (.bipush 93, 2) := by decide +kernel
theorem dX12_atom_79 : decode cX12_atom 79 = .ok (.invokevirtual 150, 3) := by decide +kernel
theorem dX12_atom_82 : decode cX12_atom 82 = .ok (.goto 7, 3) := by decide +kernel
theorem dX12_atom_85 : decode cX12_atom 85 = .ok (.aload_n 0, 1) := by decide +kernel
theorem dX12_atom_86 : decode cX12_atom 86 = .ok (.invokevirtual 123, 3) := by decide +kernel
theorem dX12_atom_89 : decode cX12_atom 89 = .ok (.return_, 1) := by decide +kernel
theorem dX12_term_0 : decode cX12_term 0 = .ok (.aload_n 0, 1) := by decide +kernel
theorem dX12_term_1 : decode cX12_term 1 = .ok (.invokevirtual 154, 3) := by decide +kernel
theorem dX12_term_4 : decode cX12_term 4 = .ok (.aload_n 0, 1) := by decide +kernel
theorem dX12_term_5 : decode cX12_term 5 = .ok (.getfield 114, 3) := by decide +kernel
theorem dX12_term_8 : decode cX12_term 8 = .ok (.iconst (-1), 1) := by decide +kernel
theorem dX12_term_9 : decode cX12_term 9 = .ok (.if_icmp .ne 10, 3) := by decide +kernel
theorem dX12_term_12 : decode cX12_term 12 = .ok (.aload_n 0, 1) := by decide +kernel
theorem dX12_term_13 : decode cX12_term 13 = .ok (.invokevirtual 126, 3) := by decide +kernel
theorem dX12_term_16 : decode cX12_term 16 = .ok (.goto 4, 3) := by decide +kernel
theorem dX12_term_19 : decode cX12_term 19 = .ok (.iconst (-1), 1) := by decide +kernel
theorem dX12_term_20 : decode cX12_term 20 = .ok (.istore_n 1, 1) := by decide +kernel
theorem dX12_term_21 : decode cX12_term 21 = .ok (.iload_n 1, 1) := by decide +kernel
theorem dX12_term_22 : decode cX12_term 22 = .ok (.bipush 42, 2) := by decide +kernel
theorem dX12_term_24 : decode cX12_term 24 = .ok (.if_icmp .eq 9, 3) := by decide +kernel
theorem dX12_term_27 : decode cX12_term 27 = .ok (.iload_n 1, 1) := by decide +kernel
theorem dX12_term_28 : decode cX12_term 28 = .ok (.bipush 47, 2) := by decide +kernel
theorem dX12_term_30 : decode cX12_term 30 = .ok (.if_icmp .ne 53, 3) := by decide +kernel
theorem dX12_term_33 : decode cX12_term 33 = .ok (.aload_n 0, 1) := by decide +kernel
theorem dX12_term_34 : decode cX12_term 34 = .ok (.dup, 1) := by decide +kernel
theorem dX12_term_35 : decode cX12_term 35 = .ok (.getfield 107, 3) := by decide +kernel
theorem dX12_term_38 : decode cX12_term 38 = .ok (.iconst 1, 1) := by decide +kernel
theorem dX12_term_39 : decode cX12_term 39 = .ok (.iadd, 1) := by decide +kernel
theorem dX12_term_40 : decode cX12_term 40 = .ok (.putfield 107, 3) := by decide +kernel
theorem dX12_term_43 : decode cX12_term 43 = .ok (.aload_n 0, 1) := by decide +kernel
theorem dX12_term_44 : decode cX12_term 44 = .ok (.invokevirtual 154, 3) := by decide +kernel
theorem dX12_term_47 : decode cX12_term 47 = .ok (.aload_n 0, 1) := by decide +kernel
theorem dX12_term_48 : decode cX12_term 48 = .ok (.iload_n 1, 1) := by decide +kernel
theorem dX12_term_49 : decode cX12_term 49 = .ok (.bipush 42, 2) := by decide +kernel
theorem dX12_term_51 : decode cX12_term 51 = .ok (.if_icmp .ne 7, 3) := by decide +kernel
theorem dX12_term_54 : decode cX12_term 54 = .ok (.iconst 4, 1) := by decide +kernel
theorem dX12_term_55 : decode cX12_term 55 = .ok (.goto 4, 3) := by decide +kernel
theorem dX12_term_58 : decode cX12_term 58 = .ok (.iconst 5, 1) := by decide +kernel
theorem dX12_term_59 : decode cX12_term 59 = .ok (.iconst 0, 1) := by decide +kernel
theorem dX12_term_60 : decode cX12_term 60 = .ok (.invokevirtual 136, 3) := by decide +kernel
theorem dX12_term_63 : decode cX12_term 63 = .ok (.aload_n 0, 1) := by decide +kernel
theorem dX12_term_64 : decode cX12_term 64 = .ok (.getfield 114, 3) := by decide +kernel
theorem dX12_term_67 : decode cX12_term 67 = .ok (.iconst (-1), 1) := by decide +kernel
theorem dX12_term_68 : decode cX12_term 68 = .ok (.if_icmp .ne 10, 3) := by decide +kernel
theorem dX12_term_71 : decode cX12_term 71 = .ok (.aload_n 0, 1) := by decide +kernel
theorem dX12_term_72 : decode cX12_term 72 = .ok (.invokevirtual 126, 3) := by decide +kernel
theorem dX12_term_75 : decode cX12_term 75 = .ok (.goto 4, 3) := by decide +kernel
theorem dX12_term_78 : decode cX12_term 78 = .ok (.iconst (-1), 1) := by decide +kernel
theorem dX12_term_79 : decode cX12_term 79 = .ok (.istore_n 1, 1) := by decide +kernel
theorem dX12_term_80 : decode cX12_term 80 = .ok (.goto (-59), 3) := by decide +kernel
theorem dX12_term_83 : decode cX12_term 83 = .ok (.return_, 1) := by decide +kernel
theorem dX12_sum_0 : decode cX12_sum 0 = .ok (.aload_n 0, 1) := by decide +kernel
theorem dX12_sum_1 : decode cX12_sum 1 = .ok (.invokevirtual 157, 3) := by decide +kernel
theorem dX12_sum_4 : decode cX12_sum 4 = .ok (.aload_n 0, 1) := by decide +kernel
theorem dX12_sum_5 : decode cX12_sum 5 = .ok (.getfield 114, 3) := by decide +kernel
theorem dX12_sum_8 : decode cX12_sum 8 = .ok (.iconst (-1), 1) := by decide +kernel
theorem dX12_sum_9 : decode cX12_sum 9 = .ok (.if_icmp .ne 10, 3) := by decide +kernel
theorem dX12_sum_12 : decode cX12_sum 12 = .ok (.aload_n 0, 1) := by decide +kernel
theorem dX12_sum_13 : decode cX12_sum 13 = .ok (.invokevirtual 126, 3) := by decide +kernel
theorem dX12_sum_16 : decode cX12_sum 16 = .ok (.goto 4, 3) := by decide +kernel
theorem dX12_sum_19 : decode cX12_sum 19 = .ok (.iconst (-1), 1) := by decide +kernel
theorem dX12_sum_20 : decode cX12_sum 20 = .ok (.istore_n 1, 1) := by decide +kernel
theorem dX12_sum_21 : decode cX12_sum 21 = .ok (.iload_n 1, 1) := by decide +kernel
theorem dX12_sum_22 : decode cX12_sum 22 = .ok (.bipush 43, 2) := by decide +kernel
theorem dX12_sum_24 : decode cX12_sum 24 = .ok (.if_icmp .eq 9, 3) := by decide +kernel
theorem dX12_sum_27 : decode cX12_sum 27 = .ok (.iload_n 1, 1) := by decide +kernel
theorem dX12_sum_28 : decode cX12_sum 28 = .ok (.bipush 45, 2) := by decide +kernel
theorem dX12_sum_30 : decode cX12_sum 30 = .ok (.if_icmp .ne 53, 3) := by decide +kernel
theorem dX12_sum_33 : decode cX12_sum 33 = .ok (.aload_n 0, 1) := by decide +kernel
theorem dX12_sum_34 : decode cX12_sum 34 = .ok (.dup, 1) := by decide +kernel
theorem dX12_sum_35 : decode cX12_sum 35 = .ok (.getfield 107, 3) := by decide +kernel
theorem dX12_sum_38 : decode cX12_sum 38 = .ok (.iconst 1, 1) := by decide +kernel
theorem dX12_sum_39 : decode cX12_sum 39 = .ok (.iadd, 1) := by decide +kernel
theorem dX12_sum_40 : decode cX12_sum 40 = .ok (.putfield 107, 3) := by decide +kernel
theorem dX12_sum_43 : decode cX12_sum 43 = .ok (.aload_n 0, 1) := by decide +kernel
theorem dX12_sum_44 : decode cX12_sum 44 = .ok (.invokevirtual 157, 3) := by decide +kernel
theorem dX12_sum_47 : decode cX12_sum 47 = .ok (.aload_n 0, 1) := by decide +kernel
theorem dX12_sum_48 : decode cX12_sum 48 = .ok (.iload_n 1, 1) := by decide +kernel
theorem dX12_sum_49 : decode cX12_sum 49 = .ok (.bipush 43, 2) := by decide +kernel
theorem dX12_sum_51 : decode cX12_sum 51 = .ok (.if_icmp .ne 7, 3) := by decide +kernel
theorem dX12_sum_54 : decode cX12_sum 54 = .ok (.iconst 2, 1) := by decide +kernel
theorem dX12_sum_55 : decode cX12_sum 55 = .ok (.goto 4, 3) := by decide +kernel
theorem dX12_sum_58 : decode cX12_sum 58 = .ok (.iconst 3, 1) := by decide +kernel
theorem dX12_sum_59 : decode cX12_sum 59 = .ok (.iconst 0, 1) := by decide +kernel
theorem dX12_sum_60 : decode cX12_sum 60 = .ok (.invokevirtual 136, 3) := by decide +kernel
theorem dX12_sum_63 : decode cX12_sum 63 = .ok (.aload_n 0, 1) := by decide +kernel
theorem dX12_sum_64 : decode cX12_sum 64 = .ok (.getfield 114, 3) := by decide +kernel
theorem dX12_sum_67 : decode cX12_sum 67 = .ok (.iconst (-1), 1) := by decide +kernel
theorem dX12_sum_68 : decode cX12_sum 68 = .ok (.if_icmp .ne 10, 3) := by decide +kernel
theorem dX12_sum_71 : decode cX12_sum 71 = .ok (.aload_n 0, 1) := by decide +kernel
theorem dX12_sum_72 : decode cX12_sum 72 = .ok (.invokevirtual 126, 3) := by decide +kernel
theorem dX12_sum_75 : decode cX12_sum 75 = .ok (.goto 4, 3) := by decide +kernel
theorem dX12_sum_78 : decode cX12_sum 78 = .ok (.iconst (-1), 1) := by decide +kernel
theorem dX12_sum_79 : decode cX12_sum 79 = .ok (.istore_n 1, 1) := by decide +kernel
theorem dX12_sum_80 : decode cX12_sum 80 = .ok (.goto (-59), 3) := by decide +kernel
theorem dX12_sum_83 : decode cX12_sum 83 = .ok (.return_, 1) := by decide +kernel
theorem dX12_back_0 : decode cX12_back 0 = .ok (.aload_n 0, 1) := by decide +kernel
theorem dX12_back_1 : decode cX12_back 1 = .ok (.getfield 274, 3) := by decide +kernel
theorem dX12_back_4 : decode cX12_back 4 = .ok (.ifCond .ne 5, 3) := by decide +kernel
theorem dX12_back_7 : decode cX12_back 7 = .ok (.iconst (-1), 1) := by decide +kernel
theorem dX12_back_8 : decode cX12_back 8 = .ok (.ireturn, 1) := by decide +kernel
theorem dX12_back_9 : decode cX12_back 9 = .ok (.iconst 0, 1) := by decide +kernel
theorem dX12_back_10 : decode cX12_back 10 = .ok (.istore_n 1, 1) := by decide +kernel
theorem dX12_back_11 : decode cX12_back 11 = .ok (.iload_n 1, 1) := by decide +kernel
theorem dX12_back_12 : decode cX12_back 12 = .ok (.sipush 214, 3) := by decide +kernel
theorem dX12_back_15 : decode cX12_back 15 = .ok (.if_icmp .ge 21, 3) := by decide +kernel
theorem dX12_back_18 : decode cX12_back 18 = .ok (.aload_n 0, 1) := by decide +kernel
theorem dX12_back_19 : decode cX12_back 19 = .ok (.getfield 58, 3) := by decide +kernel
theorem dX12_back_22 : decode cX12_back 22 = .ok (.iload_n 1, 1) := by decide +kernel
theorem dX12_back_23 : decode cX12_back 23 = .ok (.aload_n 0, 1) := by decide +kernel
theorem dX12_back_24 : decode cX12_back 24 = .ok (.getfield 94, 3) := by decide +kernel
theorem dX12_back_27 : decode cX12_back 27 = .ok (.iload_n 1, 1) := by decide +kernel
theorem dX12_back_28 : decode cX12_back 28 = .ok (.iaload, 1) := by decide +kernel
theorem dX12_back_29 : decode cX12_back 29 = .ok (.iastore, 1) := by decide +kernel
theorem dX12_back_30 : decode cX12_back 30 = .ok (.iinc 1 1, 3) := by decide +kernel
theorem dX12_back_33 : decode cX12_back 33 = .ok (.goto (-22), 3) := by decide +kernel
theorem dX12_back_36 : decode cX12_back 36 = .ok (.aload_n 0, 1) := by decide +kernel
theorem dX12_back_37 : decode cX12_back 37 = .ok (.iconst 0, 1) := by decide +kernel
theorem dX12_back_38 : decode cX12_back 38 = .ok (.putfield 271, 3) := by decide +kernel
theorem dX12_back_41 : decode cX12_back 41 = .ok (.aload_n 0, 1) := by decide +kernel
theorem dX12_back_42 : decode cX12_back 42 = .ok (.getfield 58, 3) := by decide +kernel
theorem dX12_back_45 : decode cX12_back 45 = .ok (.bipush 32, 2) := by decide +kernel
theorem dX12_back_47 : decode cX12_back 47 = .ok (.iaload, 1) := by decide +kernel
theorem dX12_back_48 : decode cX12_back 48 = .ok (.ireturn, 1) := by decide +kernel
theorem dX12_isFeigned_0 : decode cX12_isFeigned 0 = .ok (.iload_n 2, 1) := by decide +kernel
theorem dX12_isFeigned_1 : decode cX12_isFeigned 1 = .ok (.invokestatic 399, 3) := by decide +kernel
theorem dX12_isFeigned_4 : decode cX12_isFeigned 4 = .ok (.iload_n 1, 1) := by decide +kernel
theorem dX12_isFeigned_5 : decode cX12_isFeigned 5 = .ok (.if_icmp .ne 7, 3) := by decide +kernel
theorem dX12_isFeigned_8 : decode cX12_isFeigned 8 = .ok (.iconst 1, 1) := by decide +kernel
theorem dX12_isFeigned_9 : decode cX12_isFeigned 9 = .ok (.goto 4, 3) := by decide +kernel
theorem dX12_isFeigned_12 : decode cX12_isFeigned 12 = .ok (.iconst 0, 1) := by decide +kernel
theorem dX12_isFeigned_13 : decode cX12_isFeigned 13 = .ok (.istore_n 3, 1) := by decide +kernel
theorem dX12_isFeigned_14 : decode cX12_isFeigned 14 = .ok (.iconst 0, 1) := by decide +kernel
theorem dX12_isFeigned_15 : decode cX12_isFeigned 15 = .ok (.istore 4, 2) := by decide +kernel
theorem dX12_isFeigned_17 : decode cX12_isFeigned 17 = .ok (.iload 4, 2) := by decide +kernel
theorem dX12_isFeigned_19 : decode cX12_isFeigned 19 = .ok (.aload_n 0, 1) := by decide +kernel
theorem dX12_isFeigned_20 : decode cX12_isFeigned 20 = .ok (.getfield 268, 3) := by decide +kernel
theorem dX12_isFeigned_23 : decode cX12_isFeigned 23 = .ok (.if_icmp .ge 48, 3) := by decide +kernel
theorem dX12_isFeigned_26 : decode cX12_isFeigned 26 = .ok (.iload_n 3, 1) := by decide +kernel
theorem dX12_isFeigned_27 : decode cX12_isFeigned 27 = .ok (.ifCond .eq 44, 3) := by decide +kernel
theorem dX12_isFeigned_30 : decode cX12_isFeigned 30 = .ok (.aload_n 0, 1) := by decide +kernel
theorem dX12_isFeigned_31 : decode cX12_isFeigned 31 = .ok (.getfield 77, 3) := by decide +kernel
theorem dX12_isFeigned_34 : decode cX12_isFeigned 34 = .ok (.iload 4, 2) := by decide +kernel
theorem dX12_isFeigned_36 : decode cX12_isFeigned 36 = .ok (.iaload, 1) := by decide +kernel
theorem dX12_isFeigned_37 : decode cX12_isFeigned 37 = .ok (.iload_n 2, 1) := by decide +kernel
theorem dX12_isFeigned_38 : decode cX12_isFeigned 38 = .ok (.iconst (-1), 1) := by decide +kernel
theorem dX12_isFeigned_39 : decode cX12_isFeigned 39 = .ok (.ixor, 1) := by decide +kernel
theorem dX12_isFeigned_40 : decode cX12_isFeigned 40 = .ok (.iand, 1) := by decide +kernel
theorem dX12_isFeigned_41 : decode cX12_isFeigned 41 = .ok (.ifCond .eq 7, 3) := by decide +kernel
theorem dX12_isFeigned_44 : decode cX12_isFeigned 44 = .ok (.iconst 1, 1) := by decide +kernel
theorem dX12_isFeigned_45 : decode cX12_isFeigned 45 = .ok (.goto 4, 3) := by decide +kernel
theorem dX12_isFeigned_48 : decode cX12_isFeigned 48 = .ok (.iconst 0, 1) := by decide +kernel
theorem dX12_isFeigned_49 : decode cX12_isFeigned 49 = .ok (.aload_n 0, 1) := by decide +kernel
theorem dX12_isFeigned_50 : decode cX12_isFeigned 50 = .ok (.getfield 80, 3) := by decide +kernel
theorem dX12_isFeigned_53 : decode cX12_isFeigned 53 = .ok (.iload 4, 2) := by decide +kernel
theorem dX12_isFeigned_55 : decode cX12_isFeigned 55 = .ok (.baload, 1) := by decide +kernel
theorem dX12_isFeigned_56 : decode cX12_isFeigned 56 = .ok (.if_icmp .ne 7, 3) := by decide +kernel
theorem dX12_isFeigned_59 : decode cX12_isFeigned 59 = .ok (.iconst 1, 1) := by decide +kernel
theorem dX12_isFeigned_60 : decode cX12_isFeigned 60 = .ok (.goto 4, 3) := by decide +kernel
theorem dX12_isFeigned_63 : decode cX12_isFeigned 63 = .ok (.iconst 0, 1) := by decide +kernel
theorem dX12_isFeigned_64 : decode cX12_isFeigned 64 = .ok (.istore_n 3, 1) := by decide +kernel
theorem dX12_isFeigned_65 : decode cX12_isFeigned 65 = .ok (.iinc 4 1, 3) := by decide +kernel
theorem dX12_isFeigned_68 : decode cX12_isFeigned 68 = .ok (.goto (-51), 3) := by decide +kernel
theorem dX12_isFeigned_71 : decode cX12_isFeigned 71 = .ok (.iload_n 3, 1) := by decide +kernel
theorem dX12_isFeigned_72 : decode cX12_isFeigned 72 = .ok (.ireturn, 1) := by decide +kernel
theorem dX12_feigned_0 : decode cX12_feigned 0 = .ok (.aload_n 0, 1) := by decide +kernel
theorem dX12_feigned_1 : decode cX12_feigned 1 = .ok (.iload_n 1, 1) := by decide +kernel
theorem dX12_feigned_2 : decode cX12_feigned 2 = .ok (.invokevirtual 404, 3) := by decide +kernel
theorem dX12_feigned_5 : decode cX12_feigned 5 = .ok (.ifCond .eq 8, 3) := by decide +kernel
theorem dX12_feigned_8 : decode cX12_feigned 8 = .ok (.iload_n 2, 1) := by decide +kernel
theorem dX12_feigned_9 : decode cX12_feigned 9 = .ok (.iconst (-1), 1) := by decide +kernel
theorem dX12_feigned_10 : decode cX12_feigned 10 = .ok (.if_icmp .ge 5, 3) := by decide +kernel
theorem dX12_feigned_13 : decode cX12_feigned 13 = .ok (.iconst (-1), 1) := by decide +kernel
theorem dX12_feigned_14 : decode cX12_feigned 14 = .ok (.ireturn, 1) := by decide +kernel
theorem dX12_feigned_15 : decode cX12_feigned 15 = .ok (.iconst 0, 1) := by decide +kernel
theorem dX12_feigned_16 : decode cX12_feigned 16 = .ok (.istore_n 3, 1) := by decide +kernel
theorem dX12_feigned_17 : decode cX12_feigned 17 = .ok (.iconst 0, 1) := by decide +kernel
theorem dX12_feigned_18 : decode cX12_feigned 18 = .ok (.istore 4, 2) := by decide +kernel
theorem dX12_feigned_20 : decode cX12_feigned 20 = .ok (.iload 4, 2) := by decide +kernel
theorem dX12_feigned_22 : decode cX12_feigned 22 = .ok (.iconst 1, 1) := by decide +kernel
theorem dX12_feigned_23 : decode cX12_feigned 23 = .ok (.aload_n 0, 1) := by decide +kernel
theorem dX12_feigned_24 : decode cX12_feigned 24 = .ok (.getfield 259, 3) := by decide +kernel
theorem dX12_feigned_27 : decode cX12_feigned 27 = .ok (.ishl, 1) := by decide +kernel
theorem dX12_feigned_28 : decode cX12_feigned 28 = .ok (.if_icmp .ge 30, 3) := by decide +kernel
theorem dX12_feigned_31 : decode cX12_feigned 31 = .ok (.aload_n 0, 1) := by decide +kernel
theorem dX12_feigned_32 : decode cX12_feigned 32 = .ok (.iload_n 1, 1) := by decide +kernel
theorem dX12_feigned_33 : decode cX12_feigned 33 = .ok (.iload 4, 2) := by decide +kernel
theorem dX12_feigned_35 : decode cX12_feigned 35 = .ok (.invokevirtual 407, 3) := by decide +kernel
theorem dX12_feigned_38 : decode cX12_feigned 38 = .ok (.ifCond .eq 14, 3) := by decide +kernel
theorem dX12_feigned_41 : decode cX12_feigned 41 = .ok (.iload_n 3, 1) := by decide +kernel
theorem dX12_feigned_42 : decode cX12_feigned 42 = .ok (.iload_n 2, 1) := by decide +kernel
theorem dX12_feigned_43 : decode cX12_feigned 43 = .ok (.if_icmp .ne 6, 3) := by decide +kernel
theorem dX12_feigned_46 : decode cX12_feigned 46 = .ok (.iload 4, 2) := by decide +kernel
theorem dX12_feigned_48 : decode cX12_feigned 48 = .ok (.ireturn, 1) := by decide +kernel
theorem dX12_feigned_49 : decode cX12_feigned 49 = .ok (.iinc 3 1, 3) := by decide +kernel
theorem dX12_feigned_52 : decode cX12_feigned 52 = .ok (.iinc 4 1, 3) := by decide +kernel
theorem dX12_feigned_55 : decode cX12_feigned 55 = .ok (.goto (-35), 3) := by decide +kernel
theorem dX12_feigned_58 : decode cX12_feigned 58 = .ok (.iload_n 2, 1) := by decide +kernel
theorem dX12_feigned_59 : decode cX12_feigned 59 = .ok (.iconst (-1), 1) := by decide +kernel
theorem dX12_feigned_60 : decode cX12_feigned 60 = .ok (.if_icmp .ne 7, 3) := by decide +kernel
theorem dX12_feigned_63 : decode cX12_feigned 63 = .ok (.iload_n 3, 1) := by decide +kernel
theorem dX12_feigned_64 : decode cX12_feigned 64 = .ok (.goto 4, 3) := by decide +kernel
theorem dX12_feigned_67 : decode cX12_feigned 67 = .ok (.iconst (-1), 1) := by decide +kernel
theorem dX12_feigned_68 : decode cX12_feigned 68 = .ok (.ireturn, 1) := by decide +kernel
theorem dX12_has_0 : decode cX12_has 0 = .ok (.iload_n 0, 1) := by decide +kernel
theorem dX12_has_1 : decode cX12_has 1 = .ok (.iload_n 1, 1) := by decide +kernel
theorem dX12_has_2 : decode cX12_has 2 = .ok (.ishr, 1) := by decide +kernel
theorem dX12_has_3 : decode cX12_has 3 = .ok (.iconst 1, 1) := by decide +kernel
theorem dX12_has_4 : decode cX12_has 4 = .ok (.iand, 1) := by decide +kernel
theorem dX12_has_5 : decode cX12_has 5 = .ok (.iconst 1, 1) := by decide +kernel
theorem dX12_has_6 : decode cX12_has 6 = .ok (.if_icmp .ne 7, 3) := by decide +kernel
theorem dX12_has_9 : decode cX12_has 9 = .ok (.iconst 1, 1) := by decide +kernel
theorem dX12_has_10 : decode cX12_has 10 = .ok (.goto 4, 3) := by decide +kernel
theorem dX12_has_13 : decode cX12_has 13 = .ok (.iconst 0, 1) := by decide +kernel
theorem dX12_has_14 : decode cX12_has 14 = .ok (.ireturn, 1) := by decide +kernel
theorem dX12_best_0 : decode cX12_best 0 = .ok (.aload_n 0, 1) := by decide +kernel
theorem dX12_best_1 : decode cX12_best 1 = .ok (.iload_n 1, 1) := by decide +kernel
theorem dX12_best_2 : decode cX12_best 2 = .ok (.invokevirtual 404, 3) := by decide +kernel
theorem dX12_best_5 : decode cX12_best 5 = .ok (.ifCond .eq 13, 3) := by decide +kernel
theorem dX12_best_8 : decode cX12_best 8 = .ok (.aload_n 0, 1) := by decide +kernel
theorem dX12_best_9 : decode cX12_best 9 = .ok (.iload_n 1, 1) := by decide +kernel
theorem dX12_best_10 : decode cX12_best 10 = .ok (.iconst 0, 1) := by decide +kernel
theorem dX12_best_11 : decode cX12_best 11 = .ok (.invokevirtual 410, 3) := by decide +kernel
theorem dX12_best_14 : decode cX12_best 14 = .ok (.iconst (-1), 1) := by decide +kernel
theorem dX12_best_15 : decode cX12_best 15 = .ok (.if_icmp .ne 5, 3) := by decide +kernel
theorem dX12_best_18 : decode cX12_best 18 = .ok (.iconst (-1), 1) := by decide +kernel
theorem dX12_best_19 : decode cX12_best 19 = .ok (.ireturn, 1) := by decide +kernel
theorem dX12_best_20 : decode cX12_best 20 = .ok (.iconst (-1), 1) := by decide +kernel
theorem dX12_best_21 : decode cX12_best 21 = .ok (.istore_n 2, 1) := by decide +kernel
theorem dX12_best_22 : decode cX12_best 22 = .ok (.iconst 0, 1) := by decide +kernel
theorem dX12_best_23 : decode cX12_best 23 = .ok (.istore_n 3, 1) := by decide +kernel
theorem dX12_best_24 : decode cX12_best 24 = .ok (.iconst 0, 1) := by decide +kernel
theorem dX12_best_25 : decode cX12_best 25 = .ok (.istore 4, 2) := by decide +kernel
theorem dX12_best_27 : decode cX12_best 27 = .ok (.iload 4, 2) := by decide +kernel
theorem dX12_best_29 : decode cX12_best 29 = .ok (.aload_n 0, 1) := by decide +kernel
theorem dX12_best_30 : decode cX12_best 30 = .ok (.getfield 259, 3) := by decide +kernel
theorem dX12_best_33 : decode cX12_best 33 = .ok (.if_icmp .ge 89, 3) := by decide +kernel
theorem dX12_best_36 : decode cX12_best 36 = .ok (.iconst 0, 1) := by decide +kernel
theorem dX12_best_37 : decode cX12_best 37 = .ok (.istore 5, 2) := by decide +kernel
theorem dX12_best_39 : decode cX12_best 39 = .ok (.iconst 0, 1) := by decide +kernel
theorem dX12_best_40 : decode cX12_best 40 = .ok (.istore 6, 2) := by decide +kernel
theorem dX12_best_42 : decode cX12_best 42 = .ok (.iload 6, 2) := by decide +kernel
theorem dX12_best_44 : decode cX12_best 44 = .ok (.iconst 1, 1) := by decide +kernel
theorem dX12_best_45 : decode cX12_best 45 = .ok (.aload_n 0, 1) := by decide +kernel
theorem dX12_best_46 : decode cX12_best 46 = .ok (.getfield 259, 3) := by decide +kernel
theorem dX12_best_49 : decode cX12_best 49 = .ok (.ishl, 1) := by decide +kernel
theorem dX12_best_50 : decode cX12_best 50 = .ok (.if_icmp .ge 43, 3) := by decide +kernel
theorem dX12_best_53 : decode cX12_best 53 = .ok (.iload 5, 2) := by decide +kernel
theorem dX12_best_55 : decode cX12_best 55 = .ok (.aload_n 0, 1) := by decide +kernel
theorem dX12_best_56 : decode cX12_best 56 = .ok (.iload_n 1, 1) := by decide +kernel
theorem dX12_best_57 : decode cX12_best 57 = .ok (.iload 6, 2) := by decide +kernel
theorem dX12_best_59 : decode cX12_best 59 = .ok (.invokevirtual 407, 3) := by decide +kernel
theorem dX12_best_62 : decode cX12_best 62 = .ok (.ifCond .ne 7, 3) := by decide +kernel
theorem dX12_best_65 : decode cX12_best 65 = .ok (.iconst 0, 1) := by decide +kernel
theorem dX12_best_66 : decode cX12_best 66 = .ok (.goto 18, 3) := by decide +kernel
theorem dX12_best_69 : decode cX12_best 69 = .ok (.iload 6, 2) := by decide +kernel
theorem dX12_best_71 : decode cX12_best 71 = .ok (.iload 4, 2) := by decide +kernel
theorem dX12_best_73 : decode cX12_best 73 = .ok (.invokestatic 223, 3) := by decide +kernel
theorem dX12_best_76 : decode cX12_best 76 = .ok (.ifCond .eq 7, 3) := by decide +kernel
theorem dX12_best_79 : decode cX12_best 79 = .ok (.iconst 1, 1) := by decide +kernel
theorem dX12_best_80 : decode cX12_best 80 = .ok (.goto 4, 3) := by decide +kernel
theorem dX12_best_83 : decode cX12_best 83 = .ok (.iconst (-1), 1) := by decide +kernel
theorem dX12_best_84 : decode cX12_best 84 = .ok (.iadd, 1) := by decide +kernel
theorem dX12_best_85 : decode cX12_best 85 = .ok (.istore 5, 2) := by decide +kernel
theorem dX12_best_87 : decode cX12_best 87 = .ok (.iinc 6 1, 3) := by decide +kernel
theorem dX12_best_90 : decode cX12_best 90 = .ok (.goto (-48), 3) := by decide +kernel
theorem dX12_best_93 : decode cX12_best 93 = .ok (.iload_n 2, 1) := by decide +kernel
theorem dX12_best_94 : decode cX12_best 94 = .ok (.iconst (-1), 1) := by decide +kernel
theorem dX12_best_95 : decode cX12_best 95 = .ok (.if_icmp .eq 12, 3) := by decide +kernel
theorem dX12_best_98 : decode cX12_best 98 = .ok (.iload 5, 2) := by decide +kernel
theorem dX12_best_100 : decode cX12_best 100 = .ok (.invokestatic 413, 3) := by decide +kernel
theorem dX12_best_103 : decode cX12_best 103 = .ok (.iload_n 3, 1) := by decide +kernel
theorem dX12_best_104 : decode cX12_best 104 = .ok (.if_icmp .ge 12, 3) := by decide +kernel
theorem dX12_best_107 : decode cX12_best 107 = .ok (.iload 4, 2) := by decide +kernel
theorem dX12_best_109 : decode cX12_best 109 = .ok (.istore_n 2, 1) := by decide +kernel
theorem dX12_best_110 : decode cX12_best 110 = .ok (.iload 5, 2) := by decide +kernel
theorem dX12_best_112 : decode cX12_best 112 = .ok (.invokestatic 413, 3) := by decide +kernel
theorem dX12_best_115 : decode cX12_best 115 = .ok (.istore_n 3, 1) := by decide +kernel
theorem dX12_best_116 : decode cX12_best 116 = .ok (.iinc 4 1, 3) := by decide +kernel
theorem dX12_best_119 : decode cX12_best 119 = .ok (.goto (-92), 3) := by decide +kernel
theorem dX12_best_122 : decode cX12_best 122 = .ok (.iload_n 2, 1) := by decide +kernel
theorem dX12_best_123 : decode cX12_best 123 = .ok (.ireturn, 1) := by decide +kernel
theorem dX12_bounded_0 : decode cX12_bounded 0 = .ok (.ldc2_w 187, 3) := by decide +kernel
theorem dX12_bounded_3 : decode cX12_bounded 3 = .ok (.ldc2_w 189, 3) := by decide +kernel
theorem dX12_bounded_6 : decode cX12_bounded 6 = .ok (.lload_n 0, 1) := by decide +kernel
theorem dX12_bounded_7 : decode cX12_bounded 7 = .ok (.invokestatic 191, 3) := by decide +kernel
theorem dX12_bounded_10 : decode cX12_bounded 10 = .ok (.invokestatic 197, 3) := by decide +kernel
theorem dX12_bounded_13 : decode cX12_bounded 13 = .ok (.l2i, 1) := by decide +kernel
theorem dX12_bounded_14 : decode cX12_bounded 14 = .ok (.ireturn, 1) := by decide +kernel
theorem dX12_worked_0 : decode cX12_worked 0 = .ok (.iload_n 0, 1) := by decide +kernel
theorem dX12_worked_1 : decode cX12_worked 1 = .ok (.tableswitch 143 2 10 #[51, 58, 65, 72, 89, 101, 113, 143, 125], 51) := by decide +kernel
theorem dX12_worked_52 : decode cX12_worked 52 = .ok (.lload_n 1, 1) := by decide +kernel
theorem dX12_worked_53 : decode cX12_worked 53 = .ok (.lload_n 3, 1) := by decide +kernel
theorem dX12_worked_54 : decode cX12_worked 54 = .ok (.ladd, 1) := by decide +kernel
theorem dX12_worked_55 : decode cX12_worked 55 = .ok (.invokestatic 200, 3) := by decide +kernel
theorem dX12_worked_58 : decode cX12_worked 58 = .ok (.ireturn, 1) := by decide +kernel
theorem dX12_worked_59 : decode cX12_worked 59 = .ok (.lload_n 1, 1) := by decide +kernel
theorem dX12_worked_60 : decode cX12_worked 60 = .ok (.lload_n 3, 1) := by decide +kernel
theorem dX12_worked_61 : decode cX12_worked 61 = .ok (.lsub, 1) := by decide +kernel
theorem dX12_worked_62 : decode cX12_worked 62 = .ok (.invokestatic 200, 3) := by decide +kernel
theorem dX12_worked_65 : decode cX12_worked 65 = .ok (.ireturn, 1) := by decide +kernel
theorem dX12_worked_66 : decode cX12_worked 66 = .ok (.lload_n 1, 1) := by decide +kernel
theorem dX12_worked_67 : decode cX12_worked 67 = .ok (.lload_n 3, 1) := by decide +kernel
theorem dX12_worked_68 : decode cX12_worked 68 = .ok (.lmul, 1) := by decide +kernel
theorem dX12_worked_69 : decode cX12_worked 69 = .ok (.invokestatic 200, 3) := by decide +kernel
theorem dX12_worked_72 : decode cX12_worked 72 = .ok (.ireturn, 1) := by decide +kernel
theorem dX12_worked_73 : decode cX12_worked 73 = .ok (.lload_n 3, 1) := by decide +kernel
theorem dX12_worked_74 : decode cX12_worked 74 = .ok (.lconst 0, 1) := by decide +kernel
theorem dX12_worked_75 : decode cX12_worked 75 = .ok (.lcmp, 1) := by decide +kernel
theorem dX12_worked_76 : decode cX12_worked 76 = .ok (.ifCond .ne 7, 3) := by decide +kernel
theorem dX12_worked_79 : decode cX12_worked 79 = .ok (.iconst 0, 1) := by decide +kernel
theorem dX12_worked_80 : decode cX12_worked 80 = .ok (.goto 9, 3) := by decide +kernel
theorem dX12_worked_83 : decode cX12_worked 83 = .ok (.lload_n 1, 1) := by decide +kernel
theorem dX12_worked_84 : decode cX12_worked 84 = .ok (.lload_n 3, 1) := by decide +kernel
theorem dX12_worked_85 : decode cX12_worked 85 = .ok (.ldiv, 1) := by decide +kernel
theorem dX12_worked_86 : decode cX12_worked 86 = .ok (.invokestatic 200, 3) := by decide +kernel
theorem dX12_worked_89 : decode cX12_worked 89 = .ok (.ireturn, 1) := by decide +kernel
theorem dX12_worked_90 : decode cX12_worked 90 = .ok (.lload_n 1, 1) := by decide +kernel
theorem dX12_worked_91 : decode cX12_worked 91 = .ok (.lload_n 3, 1) := by decide +kernel
theorem dX12_worked_92 : decode cX12_worked 92 = .ok (.lcmp, 1) := by decide +kernel
theorem dX12_worked_93 : decode cX12_worked 93 = .ok (.ifCond .ne 7, 3) := by decide +kernel
theorem dX12_worked_96 : decode cX12_worked 96 = .ok (.iconst 1, 1) := by decide +kernel
theorem dX12_worked_97 : decode cX12_worked 97 = .ok (.goto 4, 3) := by decide +kernel
theorem dX12_worked_100 : decode cX12_worked 100 = .ok (.iconst 0, 1) := by decide +kernel
theorem dX12_worked_101 : decode cX12_worked 101 = .ok (.ireturn, 1) := by decide +kernel
theorem dX12_worked_102 : decode cX12_worked 102 = .ok (.lload_n 1, 1) := by decide +kernel
theorem dX12_worked_103 : decode cX12_worked 103 = .ok (.lload_n 3, 1) := by decide +kernel
theorem dX12_worked_104 : decode cX12_worked 104 = .ok (.lcmp, 1) := by decide +kernel
theorem dX12_worked_105 : decode cX12_worked 105 = .ok (.ifCond .ge 7, 3) := by decide +kernel
theorem dX12_worked_108 : decode cX12_worked 108 = .ok (.iconst 1, 1) := by decide +kernel
theorem dX12_worked_109 : decode cX12_worked 109 = .ok (.goto 4, 3) := by decide +kernel
theorem dX12_worked_112 : decode cX12_worked 112 = .ok (.iconst 0, 1) := by decide +kernel
theorem dX12_worked_113 : decode cX12_worked 113 = .ok (.ireturn, 1) := by decide +kernel
theorem dX12_worked_114 : decode cX12_worked 114 = .ok (.lload_n 1, 1) := by decide +kernel
theorem dX12_worked_115 : decode cX12_worked 115 = .ok (.lload_n 3, 1) := by decide +kernel
theorem dX12_worked_116 : decode cX12_worked 116 = .ok (.lcmp, 1) := by decide +kernel
theorem dX12_worked_117 : decode cX12_worked 117 = .ok (.ifCond .le 7, 3) := by decide +kernel
theorem dX12_worked_120 : decode cX12_worked 120 = .ok (.iconst 1, 1) := by decide +kernel
theorem dX12_worked_121 : decode cX12_worked 121 = .ok (.goto 4, 3) := by decide +kernel
theorem dX12_worked_124 : decode cX12_worked 124 = .ok (.iconst 0, 1) := by decide +kernel
theorem dX12_worked_125 : decode cX12_worked 125 = .ok (.ireturn, 1) := by decide +kernel
theorem dX12_worked_126 : decode cX12_worked 126 = .ok (.lload_n 1, 1) := by decide +kernel
theorem dX12_worked_127 : decode cX12_worked 127 = .ok (.lconst 0, 1) := by decide +kernel
theorem dX12_worked_128 : decode cX12_worked 128 = .ok (.lcmp, 1) := by decide +kernel
theorem dX12_worked_129 : decode cX12_worked 129 = .ok (.ifCond .eq 13, 3) := by decide +kernel
theorem dX12_worked_132 : decode cX12_worked 132 = .ok (.lload_n 3, 1) := by decide +kernel
theorem dX12_worked_133 : decode cX12_worked 133 = .ok (.lconst 0, 1) := by decide +kernel
theorem dX12_worked_134 : decode cX12_worked 134 = .ok (.lcmp, 1) := by decide +kernel
theorem dX12_worked_135 : decode cX12_worked 135 = .ok (.ifCond .eq 7, 3) := by decide +kernel
theorem dX12_worked_138 : decode cX12_worked 138 = .ok (.iconst 1, 1) := by decide +kernel
theorem dX12_worked_139 : decode cX12_worked 139 = .ok (.goto 4, 3) := by decide +kernel
theorem dX12_worked_142 : decode cX12_worked 142 = .ok (.iconst 0, 1) := by decide +kernel
theorem dX12_worked_143 : decode cX12_worked 143 = .ok (.ireturn, 1) := by decide +kernel
theorem dX12_worked_144 : decode cX12_worked 144 = .ok (.lload_n 1, 1) := by decide +kernel
theorem dX12_worked_145 : decode cX12_worked 145 = .ok (.lconst 0, 1) := by decide +kernel
theorem dX12_worked_146 : decode cX12_worked 146 = .ok (.lcmp, 1) := by decide +kernel
theorem dX12_worked_147 : decode cX12_worked 147 = .ok (.ifCond .ne 9, 3) := by decide +kernel
theorem dX12_worked_150 : decode cX12_worked 150 = .ok (.lload_n 3, 1) := by decide +kernel
theorem dX12_worked_151 : decode cX12_worked 151 = .ok (.lconst 0, 1) := by decide +kernel
theorem dX12_worked_152 : decode cX12_worked 152 = .ok (.lcmp, 1) := by decide +kernel
theorem dX12_worked_153 : decode cX12_worked 153 = .ok (.ifCond .eq 7, 3) := by decide +kernel
theorem dX12_worked_156 : decode cX12_worked 156 = .ok (.iconst 1, 1) := by decide +kernel
theorem dX12_worked_157 : decode cX12_worked 157 = .ok (.goto 4, 3) := by decide +kernel
theorem dX12_worked_160 : decode cX12_worked 160 = .ok (.iconst 0, 1) := by decide +kernel
theorem dX12_worked_161 : decode cX12_worked 161 = .ok (.ireturn, 1) := by decide +kernel
theorem dX12_workOut_0 : decode cX12_workOut 0 = .ok (.iconst 0, 1) := by decide +kernel
theorem dX12_workOut_1 : decode cX12_workOut 1 = .ok (.istore 4, 2) := by decide +kernel
theorem dX12_workOut_3 : decode cX12_workOut 3 = .ok (.sipush 520, 3) := by decide +kernel
theorem dX12_workOut_6 : decode cX12_workOut 6 = .ok (.iload_n 1, 1) := by decide +kernel
theorem dX12_workOut_7 : decode cX12_workOut 7 = .ok (.imul, 1) := by decide +kernel
theorem dX12_workOut_8 : decode cX12_workOut 8 = .ok (.iload_n 2, 1) := by decide +kernel
theorem dX12_workOut_9 : decode cX12_workOut 9 = .ok (.iadd, 1) := by decide +kernel
theorem dX12_workOut_10 : decode cX12_workOut 10 = .ok (.istore 5, 2) := by decide +kernel
theorem dX12_workOut_12 : decode cX12_workOut 12 = .ok (.iload 5, 2) := by decide +kernel
theorem dX12_workOut_14 : decode cX12_workOut 14 = .ok (.sipush 520, 3) := by decide +kernel
theorem dX12_workOut_17 : decode cX12_workOut 17 = .ok (.iload_n 1, 1) := by decide +kernel
theorem dX12_workOut_18 : decode cX12_workOut 18 = .ok (.imul, 1) := by decide +kernel
theorem dX12_workOut_19 : decode cX12_workOut 19 = .ok (.iload_n 3, 1) := by decide +kernel
theorem dX12_workOut_20 : decode cX12_workOut 20 = .ok (.iadd, 1) := by decide +kernel
theorem dX12_workOut_21 : decode cX12_workOut 21 = .ok (.if_icmp .ge 150, 3) := by decide +kernel
theorem dX12_workOut_24 : decode cX12_workOut 24 = .ok (.aload_n 0, 1) := by decide +kernel
theorem dX12_workOut_25 : decode cX12_workOut 25 = .ok (.getfield 13, 3) := by decide +kernel
theorem dX12_workOut_28 : decode cX12_workOut 28 = .ok (.iload 5, 2) := by decide +kernel
theorem dX12_workOut_30 : decode cX12_workOut 30 = .ok (.iaload, 1) := by decide +kernel
theorem dX12_workOut_31 : decode cX12_workOut 31 = .ok (.ifCond .eq 14, 3) := by decide +kernel
theorem dX12_workOut_34 : decode cX12_workOut 34 = .ok (.aload_n 0, 1) := by decide +kernel
theorem dX12_workOut_35 : decode cX12_workOut 35 = .ok (.getfield 13, 3) := by decide +kernel
theorem dX12_workOut_38 : decode cX12_workOut 38 = .ok (.iload 5, 2) := by decide +kernel
theorem dX12_workOut_40 : decode cX12_workOut 40 = .ok (.iaload, 1) := by decide +kernel
theorem dX12_workOut_41 : decode cX12_workOut 41 = .ok (.iconst 1, 1) := by decide +kernel
theorem dX12_workOut_42 : decode cX12_workOut 42 = .ok (.if_icmp .ne 48, 3) := by decide +kernel
theorem dX12_workOut_45 : decode cX12_workOut 45 = .ok (.aload_n 0, 1) := by decide +kernel
theorem dX12_workOut_46 : decode cX12_workOut 46 = .ok (.getfield 37, 3) := by decide +kernel
theorem dX12_workOut_49 : decode cX12_workOut 49 = .ok (.iload 4, 2) := by decide +kernel
theorem dX12_workOut_51 : decode cX12_workOut 51 = .ok (.aload_n 0, 1) := by decide +kernel
theorem dX12_workOut_52 : decode cX12_workOut 52 = .ok (.getfield 13, 3) := by decide +kernel
theorem dX12_workOut_55 : decode cX12_workOut 55 = .ok (.iload 5, 2) := by decide +kernel
theorem dX12_workOut_57 : decode cX12_workOut 57 = .ok (.iaload, 1) := by decide +kernel
theorem dX12_workOut_58 : decode cX12_workOut 58 = .ok (.ifCond .ne 13, 3) := by decide +kernel
theorem dX12_workOut_61 : decode cX12_workOut 61 = .ok (.aload_n 0, 1) := by decide +kernel
theorem dX12_workOut_62 : decode cX12_workOut 62 = .ok (.getfield 16, 3) := by decide +kernel
theorem dX12_workOut_65 : decode cX12_workOut 65 = .ok (.iload 5, 2) := by decide +kernel
theorem dX12_workOut_67 : decode cX12_workOut 67 = .ok (.iaload, 1) := by decide +kernel
theorem dX12_workOut_68 : decode cX12_workOut 68 = .ok (.goto 15, 3) := by decide +kernel
theorem dX12_workOut_71 : decode cX12_workOut 71 = .ok (.aload_n 0, 1) := by decide +kernel
theorem dX12_workOut_72 : decode cX12_workOut 72 = .ok (.getfield 34, 3) := by decide +kernel
theorem dX12_workOut_75 : decode cX12_workOut 75 = .ok (.aload_n 0, 1) := by decide +kernel
theorem dX12_workOut_76 : decode cX12_workOut 76 = .ok (.getfield 16, 3) := by decide +kernel
theorem dX12_workOut_79 : decode cX12_workOut 79 = .ok (.iload 5, 2) := by decide +kernel
theorem dX12_workOut_81 : decode cX12_workOut 81 = .ok (.iaload, 1) := by decide +kernel
theorem dX12_workOut_82 : decode cX12_workOut 82 = .ok (.iaload, 1) := by decide +kernel
theorem dX12_workOut_83 : decode cX12_workOut 83 = .ok (.iastore, 1) := by decide +kernel
theorem dX12_workOut_84 : decode cX12_workOut 84 = .ok (.iinc 4 1, 3) := by decide +kernel
theorem dX12_workOut_87 : decode cX12_workOut 87 = .ok (.goto 78, 3) := by decide +kernel
theorem dX12_workOut_90 : decode cX12_workOut 90 = .ok (.aload_n 0, 1) := by decide +kernel
theorem dX12_workOut_91 : decode cX12_workOut 91 = .ok (.getfield 13, 3) := by decide +kernel
theorem dX12_workOut_94 : decode cX12_workOut 94 = .ok (.iload 5, 2) := by decide +kernel
theorem dX12_workOut_96 : decode cX12_workOut 96 = .ok (.iaload, 1) := by decide +kernel
theorem dX12_workOut_97 : decode cX12_workOut 97 = .ok (.bipush 9, 2) := by decide +kernel
theorem dX12_workOut_99 : decode cX12_workOut 99 = .ok (.if_icmp .ne 26, 3) := by decide +kernel
theorem dX12_workOut_102 : decode cX12_workOut 102 = .ok (.aload_n 0, 1) := by decide +kernel
theorem dX12_workOut_103 : decode cX12_workOut 103 = .ok (.getfield 37, 3) := by decide +kernel
theorem dX12_workOut_106 : decode cX12_workOut 106 = .ok (.iload 4, 2) := by decide +kernel
theorem dX12_workOut_108 : decode cX12_workOut 108 = .ok (.iconst 1, 1) := by decide +kernel
theorem dX12_workOut_109 : decode cX12_workOut 109 = .ok (.isub, 1) := by decide +kernel
theorem dX12_workOut_110 : decode cX12_workOut 110 = .ok (.iconst 1, 1) := by decide +kernel
theorem dX12_workOut_111 : decode cX12_workOut 111 = .ok (.aload_n 0, 1) := by decide +kernel
theorem dX12_workOut_112 : decode cX12_workOut 112 = .ok (.getfield 37, 3) := by decide +kernel
theorem dX12_workOut_115 : decode cX12_workOut 115 = .ok (.iload 4, 2) := by decide +kernel
theorem dX12_workOut_117 : decode cX12_workOut 117 = .ok (.iconst 1, 1) := by decide +kernel
theorem dX12_workOut_118 : decode cX12_workOut 118 = .ok (.isub, 1) := by decide +kernel
theorem dX12_workOut_119 : decode cX12_workOut 119 = .ok (.iaload, 1) := by decide +kernel
theorem dX12_workOut_120 : decode cX12_workOut 120 = .ok (.isub, 1) := by decide +kernel
theorem dX12_workOut_121 : decode cX12_workOut 121 = .ok (.iastore, 1) := by decide +kernel
theorem dX12_workOut_122 : decode cX12_workOut 122 = .ok (.goto 43, 3) := by decide +kernel
theorem dX12_workOut_125 : decode cX12_workOut 125 = .ok (.iinc 4 (-1), 3) := by decide +kernel
theorem dX12_workOut_128 : decode cX12_workOut 128 = .ok (.aload_n 0, 1) := by decide +kernel
theorem dX12_workOut_129 : decode cX12_workOut 129 = .ok (.getfield 37, 3) := by decide +kernel
theorem dX12_workOut_132 : decode cX12_workOut 132 = .ok (.iload 4, 2) := by decide +kernel
theorem dX12_workOut_134 : decode cX12_workOut 134 = .ok (.iconst 1, 1) := by decide +kernel
theorem dX12_workOut_135 : decode cX12_workOut 135 = .ok (.isub, 1) := by decide +kernel
theorem dX12_workOut_136 : decode cX12_workOut 136 = .ok (.aload_n 0, 1) := by decide +kernel
theorem dX12_workOut_137 : decode cX12_workOut 137 = .ok (.getfield 13, 3) := by decide +kernel
theorem dX12_workOut_140 : decode cX12_workOut 140 = .ok (.iload 5, 2) := by decide +kernel
theorem dX12_workOut_142 : decode cX12_workOut 142 = .ok (.iaload, 1) := by decide +kernel
theorem dX12_workOut_143 : decode cX12_workOut 143 = .ok (.aload_n 0, 1) := by decide +kernel
theorem dX12_workOut_144 : decode cX12_workOut 144 = .ok (.getfield 37, 3) := by decide +kernel
theorem dX12_workOut_147 : decode cX12_workOut 147 = .ok (.iload 4, 2) := by decide +kernel
theorem dX12_workOut_149 : decode cX12_workOut 149 = .ok (.iconst 1, 1) := by decide +kernel
theorem dX12_workOut_150 : decode cX12_workOut 150 = .ok (.isub, 1) := by decide +kernel
theorem dX12_workOut_151 : decode cX12_workOut 151 = .ok (.iaload, 1) := by decide +kernel
theorem dX12_workOut_152 : decode cX12_workOut 152 = .ok (.i2l, 1) := by decide +kernel
theorem dX12_workOut_153 : decode cX12_workOut 153 = .ok (.aload_n 0, 1) := by decide +kernel
theorem dX12_workOut_154 : decode cX12_workOut 154 = .ok (.getfield 37, 3) := by decide +kernel
theorem dX12_workOut_157 : decode cX12_workOut 157 = .ok (.iload 4, 2) := by decide +kernel
theorem dX12_workOut_159 : decode cX12_workOut 159 = .ok (.iaload, 1) := by decide +kernel
theorem dX12_workOut_160 : decode cX12_workOut 160 = .ok (.i2l, 1) := by decide +kernel
theorem dX12_workOut_161 : decode cX12_workOut 161 = .ok (.invokestatic 204, 3) := by decide +kernel
theorem dX12_workOut_164 : decode cX12_workOut 164 = .ok (.iastore, 1) := by decide +kernel
theorem dX12_workOut_165 : decode cX12_workOut 165 = .ok (.iinc 5 1, 3) := by decide +kernel
theorem dX12_workOut_168 : decode cX12_workOut 168 = .ok (.goto (-156), 3) := by decide +kernel
theorem dX12_workOut_171 : decode cX12_workOut 171 = .ok (.aload_n 0, 1) := by decide +kernel
theorem dX12_workOut_172 : decode cX12_workOut 172 = .ok (.getfield 37, 3) := by decide +kernel
theorem dX12_workOut_175 : decode cX12_workOut 175 = .ok (.iconst 0, 1) := by decide +kernel
theorem dX12_workOut_176 : decode cX12_workOut 176 = .ok (.iaload, 1) := by decide +kernel
theorem dX12_workOut_177 : decode cX12_workOut 177 = .ok (.ireturn, 1) := by decide +kernel
theorem dX12_worthOf_0 : decode cX12_worthOf 0 = .ok (.sipush 140, 3) := by decide +kernel
theorem dX12_worthOf_3 : decode cX12_worthOf 3 = .ok (.iload_n 1, 1) := by decide +kernel
theorem dX12_worthOf_4 : decode cX12_worthOf 4 = .ok (.imul, 1) := by decide +kernel
theorem dX12_worthOf_5 : decode cX12_worthOf 5 = .ok (.istore_n 2, 1) := by decide +kernel
theorem dX12_worthOf_6 : decode cX12_worthOf 6 = .ok (.iload_n 2, 1) := by decide +kernel
theorem dX12_worthOf_7 : decode cX12_worthOf 7 = .ok (.sipush 140, 3) := by decide +kernel
theorem dX12_worthOf_10 : decode cX12_worthOf 10 = .ok (.iload_n 1, 1) := by decide +kernel
theorem dX12_worthOf_11 : decode cX12_worthOf 11 = .ok (.imul, 1) := by decide +kernel
theorem dX12_worthOf_12 : decode cX12_worthOf 12 = .ok (.aload_n 0, 1) := by decide +kernel
theorem dX12_worthOf_13 : decode cX12_worthOf 13 = .ok (.getfield 22, 3) := by decide +kernel
theorem dX12_worthOf_16 : decode cX12_worthOf 16 = .ok (.iload_n 1, 1) := by decide +kernel
theorem dX12_worthOf_17 : decode cX12_worthOf 17 = .ok (.iaload, 1) := by decide +kernel
theorem dX12_worthOf_18 : decode cX12_worthOf 18 = .ok (.iadd, 1) := by decide +kernel
theorem dX12_worthOf_19 : decode cX12_worthOf 19 = .ok (.if_icmp .ge 62, 3) := by decide +kernel
theorem dX12_worthOf_22 : decode cX12_worthOf 22 = .ok (.aload_n 0, 1) := by decide +kernel
theorem dX12_worthOf_23 : decode cX12_worthOf 23 = .ok (.getfield 25, 3) := by decide +kernel
theorem dX12_worthOf_26 : decode cX12_worthOf 26 = .ok (.iload_n 2, 1) := by decide +kernel
theorem dX12_worthOf_27 : decode cX12_worthOf 27 = .ok (.iaload, 1) := by decide +kernel
theorem dX12_worthOf_28 : decode cX12_worthOf 28 = .ok (.aload_n 0, 1) := by decide +kernel
theorem dX12_worthOf_29 : decode cX12_worthOf 29 = .ok (.getfield 28, 3) := by decide +kernel
theorem dX12_worthOf_32 : decode cX12_worthOf 32 = .ok (.iload_n 2, 1) := by decide +kernel
theorem dX12_worthOf_33 : decode cX12_worthOf 33 = .ok (.iaload, 1) := by decide +kernel
theorem dX12_worthOf_34 : decode cX12_worthOf 34 = .ok (.if_icmp .eq 23, 3) := by decide +kernel
theorem dX12_worthOf_37 : decode cX12_worthOf 37 = .ok (.aload_n 0, 1) := by decide +kernel
theorem dX12_worthOf_38 : decode cX12_worthOf 38 = .ok (.iload_n 1, 1) := by decide +kernel
theorem dX12_worthOf_39 : decode cX12_worthOf 39 = .ok (.aload_n 0, 1) := by decide +kernel
theorem dX12_worthOf_40 : decode cX12_worthOf 40 = .ok (.getfield 25, 3) := by decide +kernel
theorem dX12_worthOf_43 : decode cX12_worthOf 43 = .ok (.iload_n 2, 1) := by decide +kernel
theorem dX12_worthOf_44 : decode cX12_worthOf 44 = .ok (.iaload, 1) := by decide +kernel
theorem dX12_worthOf_45 : decode cX12_worthOf 45 = .ok (.aload_n 0, 1) := by decide +kernel
theorem dX12_worthOf_46 : decode cX12_worthOf 46 = .ok (.getfield 28, 3) := by decide +kernel
theorem dX12_worthOf_49 : decode cX12_worthOf 49 = .ok (.iload_n 2, 1) := by decide +kernel
theorem dX12_worthOf_50 : decode cX12_worthOf 50 = .ok (.iaload, 1) := by decide +kernel
theorem dX12_worthOf_51 : decode cX12_worthOf 51 = .ok (.invokevirtual 208, 3) := by decide +kernel
theorem dX12_worthOf_54 : decode cX12_worthOf 54 = .ok (.ifCond .eq 21, 3) := by decide +kernel
theorem dX12_worthOf_57 : decode cX12_worthOf 57 = .ok (.aload_n 0, 1) := by decide +kernel
theorem dX12_worthOf_58 : decode cX12_worthOf 58 = .ok (.iload_n 1, 1) := by decide +kernel
theorem dX12_worthOf_59 : decode cX12_worthOf 59 = .ok (.aload_n 0, 1) := by decide +kernel
theorem dX12_worthOf_60 : decode cX12_worthOf 60 = .ok (.getfield 28, 3) := by decide +kernel
theorem dX12_worthOf_63 : decode cX12_worthOf 63 = .ok (.iload_n 2, 1) := by decide +kernel
theorem dX12_worthOf_64 : decode cX12_worthOf 64 = .ok (.iaload, 1) := by decide +kernel
theorem dX12_worthOf_65 : decode cX12_worthOf 65 = .ok (.aload_n 0, 1) := by decide +kernel
theorem dX12_worthOf_66 : decode cX12_worthOf 66 = .ok (.getfield 31, 3) := by decide +kernel
theorem dX12_worthOf_69 : decode cX12_worthOf 69 = .ok (.iload_n 2, 1) := by decide +kernel
theorem dX12_worthOf_70 : decode cX12_worthOf 70 = .ok (.iaload, 1) := by decide +kernel
theorem dX12_worthOf_71 : decode cX12_worthOf 71 = .ok (.invokevirtual 208, 3) := by decide +kernel
theorem dX12_worthOf_74 : decode cX12_worthOf 74 = .ok (.ireturn, 1) := by decide +kernel
theorem dX12_worthOf_75 : decode cX12_worthOf 75 = .ok (.iinc 2 1, 3) := by decide +kernel
theorem dX12_worthOf_78 : decode cX12_worthOf 78 = .ok (.goto (-72), 3) := by decide +kernel
theorem dX12_worthOf_81 : decode cX12_worthOf 81 = .ok (.iconst 0, 1) := by decide +kernel
theorem dX12_worthOf_82 : decode cX12_worthOf 82 = .ok (.ireturn, 1) := by decide +kernel
theorem dX12_isWinter_0 : decode cX12_isWinter 0 = .ok (.iload_n 1, 1) := by decide +kernel
theorem dX12_isWinter_1 : decode cX12_isWinter 1 = .ok (.iconst 4, 1) := by decide +kernel
theorem dX12_isWinter_2 : decode cX12_isWinter 2 = .ok (.irem, 1) := by decide +kernel
theorem dX12_isWinter_3 : decode cX12_isWinter 3 = .ok (.iconst 3, 1) := by decide +kernel
theorem dX12_isWinter_4 : decode cX12_isWinter 4 = .ok (.if_icmp .ne 7, 3) := by decide +kernel
theorem dX12_isWinter_7 : decode cX12_isWinter 7 = .ok (.iconst 1, 1) := by decide +kernel
theorem dX12_isWinter_8 : decode cX12_isWinter 8 = .ok (.goto 4, 3) := by decide +kernel
theorem dX12_isWinter_11 : decode cX12_isWinter 11 = .ok (.iconst 0, 1) := by decide +kernel
theorem dX12_isWinter_12 : decode cX12_isWinter 12 = .ok (.ireturn, 1) := by decide +kernel
theorem dX12_doesBy_0 : decode cX12_doesBy 0 = .ok (.iload_n 3, 1) := by decide +kernel
theorem dX12_doesBy_1 : decode cX12_doesBy 1 = .ok (.iconst 2, 1) := by decide +kernel
theorem dX12_doesBy_2 : decode cX12_doesBy 2 = .ok (.if_icmp .ne 8, 3) := by decide +kernel
theorem dX12_doesBy_5 : decode cX12_doesBy 5 = .ok (.bipush 8, 2) := by decide +kernel
theorem dX12_doesBy_7 : decode cX12_doesBy 7 = .ok (.goto 4, 3) := by decide +kernel
theorem dX12_doesBy_10 : decode cX12_doesBy 10 = .ok (.iconst 0, 1) := by decide +kernel
theorem dX12_doesBy_11 : decode cX12_doesBy 11 = .ok (.istore 5, 2) := by decide +kernel
theorem dX12_doesBy_13 : decode cX12_doesBy 13 = .ok (.iload_n 3, 1) := by decide +kernel
theorem dX12_doesBy_14 : decode cX12_doesBy 14 = .ok (.ifCond .eq 8, 3) := by decide +kernel
theorem dX12_doesBy_17 : decode cX12_doesBy 17 = .ok (.iload_n 3, 1) := by decide +kernel
theorem dX12_doesBy_18 : decode cX12_doesBy 18 = .ok (.iconst 1, 1) := by decide +kernel
theorem dX12_doesBy_19 : decode cX12_doesBy 19 = .ok (.if_icmp .ne 129, 3) := by decide +kernel
theorem dX12_doesBy_22 : decode cX12_doesBy 22 = .ok (.iconst 2, 1) := by decide +kernel
theorem dX12_doesBy_23 : decode cX12_doesBy 23 = .ok (.aload_n 0, 1) := by decide +kernel
theorem dX12_doesBy_24 : decode cX12_doesBy 24 = .ok (.iload_n 1, 1) := by decide +kernel
theorem dX12_doesBy_25 : decode cX12_doesBy 25 = .ok (.iconst 1, 1) := by decide +kernel
theorem dX12_doesBy_26 : decode cX12_doesBy 26 = .ok (.invokevirtual 287, 3) := by decide +kernel
theorem dX12_doesBy_29 : decode cX12_doesBy 29 = .ok (.imul, 1) := by decide +kernel
theorem dX12_doesBy_30 : decode cX12_doesBy 30 = .ok (.aload_n 0, 1) := by decide +kernel
theorem dX12_doesBy_31 : decode cX12_doesBy 31 = .ok (.iload_n 1, 1) := by decide +kernel
theorem dX12_doesBy_32 : decode cX12_doesBy 32 = .ok (.iload_n 2, 1) := by decide +kernel
theorem dX12_doesBy_33 : decode cX12_doesBy 33 = .ok (.invokevirtual 290, 3) := by decide +kernel
theorem dX12_doesBy_36 : decode cX12_doesBy 36 = .ok (.isub, 1) := by decide +kernel
theorem dX12_doesBy_37 : decode cX12_doesBy 37 = .ok (.istore 5, 2) := by decide +kernel
theorem dX12_doesBy_39 : decode cX12_doesBy 39 = .ok (.aload_n 0, 1) := by decide +kernel
theorem dX12_doesBy_40 : decode cX12_doesBy 40 = .ok (.getfield 64, 3) := by decide +kernel
theorem dX12_doesBy_43 : decode cX12_doesBy 43 = .ok (.iconst (-1), 1) := by decide +kernel
theorem dX12_doesBy_44 : decode cX12_doesBy 44 = .ok (.if_icmp .eq 87, 3) := by decide +kernel
theorem dX12_doesBy_47 : decode cX12_doesBy 47 = .ok (.aload_n 0, 1) := by decide +kernel
theorem dX12_doesBy_48 : decode cX12_doesBy 48 = .ok (.getfield 34, 3) := by decide +kernel
theorem dX12_doesBy_51 : decode cX12_doesBy 51 = .ok (.iconst 0, 1) := by decide +kernel
theorem dX12_doesBy_52 : decode cX12_doesBy 52 = .ok (.aload_n 0, 1) := by decide +kernel
theorem dX12_doesBy_53 : decode cX12_doesBy 53 = .ok (.iload_n 1, 1) := by decide +kernel
theorem dX12_doesBy_54 : decode cX12_doesBy 54 = .ok (.iconst 1, 1) := by decide +kernel
theorem dX12_doesBy_55 : decode cX12_doesBy 55 = .ok (.invokevirtual 287, 3) := by decide +kernel
theorem dX12_doesBy_58 : decode cX12_doesBy 58 = .ok (.iastore, 1) := by decide +kernel
theorem dX12_doesBy_59 : decode cX12_doesBy 59 = .ok (.aload_n 0, 1) := by decide +kernel
theorem dX12_doesBy_60 : decode cX12_doesBy 60 = .ok (.getfield 34, 3) := by decide +kernel
theorem dX12_doesBy_63 : decode cX12_doesBy 63 = .ok (.iconst 1, 1) := by decide +kernel
theorem dX12_doesBy_64 : decode cX12_doesBy 64 = .ok (.aload_n 0, 1) := by decide +kernel
theorem dX12_doesBy_65 : decode cX12_doesBy 65 = .ok (.iload_n 1, 1) := by decide +kernel
theorem dX12_doesBy_66 : decode cX12_doesBy 66 = .ok (.iconst 2, 1) := by decide +kernel
theorem dX12_doesBy_67 : decode cX12_doesBy 67 = .ok (.invokevirtual 287, 3) := by decide +kernel
theorem dX12_doesBy_70 : decode cX12_doesBy 70 = .ok (.iastore, 1) := by decide +kernel
theorem dX12_doesBy_71 : decode cX12_doesBy 71 = .ok (.aload_n 0, 1) := by decide +kernel
theorem dX12_doesBy_72 : decode cX12_doesBy 72 = .ok (.getfield 34, 3) := by decide +kernel
theorem dX12_doesBy_75 : decode cX12_doesBy 75 = .ok (.iconst 2, 1) := by decide +kernel
theorem dX12_doesBy_76 : decode cX12_doesBy 76 = .ok (.aload_n 0, 1) := by decide +kernel
theorem dX12_doesBy_77 : decode cX12_doesBy 77 = .ok (.iload_n 1, 1) := by decide +kernel
theorem dX12_doesBy_78 : decode cX12_doesBy 78 = .ok (.iload_n 2, 1) := by decide +kernel
theorem dX12_doesBy_79 : decode cX12_doesBy 79 = .ok (.invokevirtual 290, 3) := by decide +kernel
theorem dX12_doesBy_82 : decode cX12_doesBy 82 = .ok (.iastore, 1) := by decide +kernel
theorem dX12_doesBy_83 : decode cX12_doesBy 83 = .ok (.aload_n 0, 1) := by decide +kernel
theorem dX12_doesBy_84 : decode cX12_doesBy 84 = .ok (.getfield 34, 3) := by decide +kernel
theorem dX12_doesBy_87 : decode cX12_doesBy 87 = .ok (.iconst 3, 1) := by decide +kernel
theorem dX12_doesBy_88 : decode cX12_doesBy 88 = .ok (.iload 4, 2) := by decide +kernel
theorem dX12_doesBy_90 : decode cX12_doesBy 90 = .ok (.iastore, 1) := by decide +kernel
theorem dX12_doesBy_91 : decode cX12_doesBy 91 = .ok (.aload_n 0, 1) := by decide +kernel
theorem dX12_doesBy_92 : decode cX12_doesBy 92 = .ok (.getfield 34, 3) := by decide +kernel
theorem dX12_doesBy_95 : decode cX12_doesBy 95 = .ok (.iconst 4, 1) := by decide +kernel
theorem dX12_doesBy_96 : decode cX12_doesBy 96 = .ok (.aload_n 0, 1) := by decide +kernel
theorem dX12_doesBy_97 : decode cX12_doesBy 97 = .ok (.getfield 58, 3) := by decide +kernel
theorem dX12_doesBy_100 : decode cX12_doesBy 100 = .ok (.bipush 9, 2) := by decide +kernel
theorem dX12_doesBy_102 : decode cX12_doesBy 102 = .ok (.iload_n 2, 1) := by decide +kernel
theorem dX12_doesBy_103 : decode cX12_doesBy 103 = .ok (.iadd, 1) := by decide +kernel
theorem dX12_doesBy_104 : decode cX12_doesBy 104 = .ok (.iaload, 1) := by decide +kernel
theorem dX12_doesBy_105 : decode cX12_doesBy 105 = .ok (.iastore, 1) := by decide +kernel
theorem dX12_doesBy_106 : decode cX12_doesBy 106 = .ok (.aload_n 0, 1) := by decide +kernel
theorem dX12_doesBy_107 : decode cX12_doesBy 107 = .ok (.getfield 34, 3) := by decide +kernel
theorem dX12_doesBy_110 : decode cX12_doesBy 110 = .ok (.iconst 5, 1) := by decide +kernel
theorem dX12_doesBy_111 : decode cX12_doesBy 111 = .ok (.aload_n 0, 1) := by decide +kernel
theorem dX12_doesBy_112 : decode cX12_doesBy 112 = .ok (.getfield 58, 3) := by decide +kernel
theorem dX12_doesBy_115 : decode cX12_doesBy 115 = .ok (.bipush 32, 2) := by decide +kernel
theorem dX12_doesBy_117 : decode cX12_doesBy 117 = .ok (.iaload, 1) := by decide +kernel
theorem dX12_doesBy_118 : decode cX12_doesBy 118 = .ok (.iconst 4, 1) := by decide +kernel
theorem dX12_doesBy_119 : decode cX12_doesBy 119 = .ok (.irem, 1) := by decide +kernel
theorem dX12_doesBy_120 : decode cX12_doesBy 120 = .ok (.iastore, 1) := by decide +kernel
theorem dX12_doesBy_121 : decode cX12_doesBy 121 = .ok (.aload_n 0, 1) := by decide +kernel
theorem dX12_doesBy_122 : decode cX12_doesBy 122 = .ok (.aload_n 0, 1) := by decide +kernel
theorem dX12_doesBy_123 : decode cX12_doesBy 123 = .ok (.getfield 64, 3) := by decide +kernel
theorem dX12_doesBy_126 : decode cX12_doesBy 126 = .ok (.invokevirtual 293, 3) := by decide +kernel
theorem dX12_doesBy_129 : decode cX12_doesBy 129 = .ok (.istore 5, 2) := by decide +kernel
theorem dX12_doesBy_131 : decode cX12_doesBy 131 = .ok (.iconst 0, 1) := by decide +kernel
theorem dX12_doesBy_132 : decode cX12_doesBy 132 = .ok (.bipush 99, 2) := by decide +kernel
theorem dX12_doesBy_134 : decode cX12_doesBy 134 = .ok (.iload 5, 2) := by decide +kernel
theorem dX12_doesBy_136 : decode cX12_doesBy 136 = .ok (.invokestatic 279, 3) := by decide +kernel
theorem dX12_doesBy_139 : decode cX12_doesBy 139 = .ok (.invokestatic 296, 3) := by decide +kernel
theorem dX12_doesBy_142 : decode cX12_doesBy 142 = .ok (.iload_n 3, 1) := by decide +kernel
theorem dX12_doesBy_143 : decode cX12_doesBy 143 = .ok (.iconst 1, 1) := by decide +kernel
theorem dX12_doesBy_144 : decode cX12_doesBy 144 = .ok (.iadd, 1) := by decide +kernel
theorem dX12_doesBy_145 : decode cX12_doesBy 145 = .ok (.idiv, 1) := by decide +kernel
theorem dX12_doesBy_146 : decode cX12_doesBy 146 = .ok (.istore 5, 2) := by decide +kernel
theorem dX12_doesBy_148 : decode cX12_doesBy 148 = .ok (.aload_n 0, 1) := by decide +kernel
theorem dX12_doesBy_149 : decode cX12_doesBy 149 = .ok (.aload_n 0, 1) := by decide +kernel
theorem dX12_doesBy_150 : decode cX12_doesBy 150 = .ok (.getfield 58, 3) := by decide +kernel
theorem dX12_doesBy_153 : decode cX12_doesBy 153 = .ok (.bipush 32, 2) := by decide +kernel
theorem dX12_doesBy_155 : decode cX12_doesBy 155 = .ok (.iaload, 1) := by decide +kernel
theorem dX12_doesBy_156 : decode cX12_doesBy 156 = .ok (.invokevirtual 298, 3) := by decide +kernel
theorem dX12_doesBy_159 : decode cX12_doesBy 159 = .ok (.ifCond .eq 10, 3) := by decide +kernel
theorem dX12_doesBy_162 : decode cX12_doesBy 162 = .ok (.iload 5, 2) := by decide +kernel
theorem dX12_doesBy_164 : decode cX12_doesBy 164 = .ok (.iconst 2, 1) := by decide +kernel
theorem dX12_doesBy_165 : decode cX12_doesBy 165 = .ok (.idiv, 1) := by decide +kernel
theorem dX12_doesBy_166 : decode cX12_doesBy 166 = .ok (.goto 5, 3) := by decide +kernel
theorem dX12_doesBy_169 : decode cX12_doesBy 169 = .ok (.iload 5, 2) := by decide +kernel
theorem dX12_doesBy_171 : decode cX12_doesBy 171 = .ok (.ireturn, 1) := by decide +kernel
theorem dX12_doesNow_0 : decode cX12_doesNow 0 = .ok (.aload_n 0, 1) := by decide +kernel
theorem dX12_doesNow_1 : decode cX12_doesNow 1 = .ok (.iload_n 1, 1) := by decide +kernel
theorem dX12_doesNow_2 : decode cX12_doesNow 2 = .ok (.iload_n 2, 1) := by decide +kernel
theorem dX12_doesNow_3 : decode cX12_doesNow 3 = .ok (.iload_n 3, 1) := by decide +kernel
theorem dX12_doesNow_4 : decode cX12_doesNow 4 = .ok (.aload_n 0, 1) := by decide +kernel
theorem dX12_doesNow_5 : decode cX12_doesNow 5 = .ok (.getfield 58, 3) := by decide +kernel
theorem dX12_doesNow_8 : decode cX12_doesNow 8 = .ok (.iconst 0, 1) := by decide +kernel
theorem dX12_doesNow_9 : decode cX12_doesNow 9 = .ok (.iload_n 2, 1) := by decide +kernel
theorem dX12_doesNow_10 : decode cX12_doesNow 10 = .ok (.iadd, 1) := by decide +kernel
theorem dX12_doesNow_11 : decode cX12_doesNow 11 = .ok (.iaload, 1) := by decide +kernel
theorem dX12_doesNow_12 : decode cX12_doesNow 12 = .ok (.invokevirtual 301, 3) := by decide +kernel
theorem dX12_doesNow_15 : decode cX12_doesNow 15 = .ok (.ireturn, 1) := by decide +kernel
theorem dX12_buys_0 : decode cX12_buys 0 = .ok (.aload_n 0, 1) := by decide +kernel
theorem dX12_buys_1 : decode cX12_buys 1 = .ok (.getfield 256, 3) := by decide +kernel
theorem dX12_buys_4 : decode cX12_buys 4 = .ok (.ifCond .ne 5, 3) := by decide +kernel
theorem dX12_buys_7 : decode cX12_buys 7 = .ok (.iconst (-1), 1) := by decide +kernel
theorem dX12_buys_8 : decode cX12_buys 8 = .ok (.ireturn, 1) := by decide +kernel
theorem dX12_buys_9 : decode cX12_buys 9 = .ok (.iconst 0, 1) := by decide +kernel
theorem dX12_buys_10 : decode cX12_buys 10 = .ok (.istore_n 1, 1) := by decide +kernel
theorem dX12_buys_11 : decode cX12_buys 11 = .ok (.iconst 0, 1) := by decide +kernel
theorem dX12_buys_12 : decode cX12_buys 12 = .ok (.istore_n 2, 1) := by decide +kernel
theorem dX12_buys_13 : decode cX12_buys 13 = .ok (.iload_n 2, 1) := by decide +kernel
theorem dX12_buys_14 : decode cX12_buys 14 = .ok (.aload_n 0, 1) := by decide +kernel
theorem dX12_buys_15 : decode cX12_buys 15 = .ok (.getfield 259, 3) := by decide +kernel
theorem dX12_buys_18 : decode cX12_buys 18 = .ok (.if_icmp .ge 82, 3) := by decide +kernel
theorem dX12_buys_21 : decode cX12_buys 21 = .ok (.iconst 1, 1) := by decide +kernel
theorem dX12_buys_22 : decode cX12_buys 22 = .ok (.istore_n 3, 1) := by decide +kernel
theorem dX12_buys_23 : decode cX12_buys 23 = .ok (.iconst 0, 1) := by decide +kernel
theorem dX12_buys_24 : decode cX12_buys 24 = .ok (.istore 4, 2) := by decide +kernel
theorem dX12_buys_26 : decode cX12_buys 26 = .ok (.iload 4, 2) := by decide +kernel
theorem dX12_buys_28 : decode cX12_buys 28 = .ok (.aload_n 0, 1) := by decide +kernel
theorem dX12_buys_29 : decode cX12_buys 29 = .ok (.getfield 256, 3) := by decide +kernel
theorem dX12_buys_32 : decode cX12_buys 32 = .ok (.if_icmp .ge 48, 3) := by decide +kernel
theorem dX12_buys_35 : decode cX12_buys 35 = .ok (.iload_n 3, 1) := by decide +kernel
theorem dX12_buys_36 : decode cX12_buys 36 = .ok (.ifCond .eq 36, 3) := by decide +kernel
theorem dX12_buys_39 : decode cX12_buys 39 = .ok (.aload_n 0, 1) := by decide +kernel
theorem dX12_buys_40 : decode cX12_buys 40 = .ok (.iload_n 2, 1) := by decide +kernel
theorem dX12_buys_41 : decode cX12_buys 41 = .ok (.iload 4, 2) := by decide +kernel
theorem dX12_buys_43 : decode cX12_buys 43 = .ok (.invokevirtual 311, 3) := by decide +kernel
theorem dX12_buys_46 : decode cX12_buys 46 = .ok (.ifCond .eq 22, 3) := by decide +kernel
theorem dX12_buys_49 : decode cX12_buys 49 = .ok (.aload_n 0, 1) := by decide +kernel
theorem dX12_buys_50 : decode cX12_buys 50 = .ok (.iload_n 2, 1) := by decide +kernel
theorem dX12_buys_51 : decode cX12_buys 51 = .ok (.iload 4, 2) := by decide +kernel
theorem dX12_buys_53 : decode cX12_buys 53 = .ok (.iconst 0, 1) := by decide +kernel
theorem dX12_buys_54 : decode cX12_buys 54 = .ok (.invokevirtual 314, 3) := by decide +kernel
theorem dX12_buys_57 : decode cX12_buys 57 = .ok (.aload_n 0, 1) := by decide +kernel
theorem dX12_buys_58 : decode cX12_buys 58 = .ok (.iload_n 2, 1) := by decide +kernel
theorem dX12_buys_59 : decode cX12_buys 59 = .ok (.iload 4, 2) := by decide +kernel
theorem dX12_buys_61 : decode cX12_buys 61 = .ok (.iconst 2, 1) := by decide +kernel
theorem dX12_buys_62 : decode cX12_buys 62 = .ok (.invokevirtual 314, 3) := by decide +kernel
theorem dX12_buys_65 : decode cX12_buys 65 = .ok (.if_icmp .ge 7, 3) := by decide +kernel
theorem dX12_buys_68 : decode cX12_buys 68 = .ok (.iconst 1, 1) := by decide +kernel
theorem dX12_buys_69 : decode cX12_buys 69 = .ok (.goto 4, 3) := by decide +kernel
theorem dX12_buys_72 : decode cX12_buys 72 = .ok (.iconst 0, 1) := by decide +kernel
theorem dX12_buys_73 : decode cX12_buys 73 = .ok (.istore_n 3, 1) := by decide +kernel
theorem dX12_buys_74 : decode cX12_buys 74 = .ok (.iinc 4 1, 3) := by decide +kernel
theorem dX12_buys_77 : decode cX12_buys 77 = .ok (.goto (-51), 3) := by decide +kernel
theorem dX12_buys_80 : decode cX12_buys 80 = .ok (.iload_n 1, 1) := by decide +kernel
theorem dX12_buys_81 : decode cX12_buys 81 = .ok (.iload_n 3, 1) := by decide +kernel
theorem dX12_buys_82 : decode cX12_buys 82 = .ok (.ifCond .eq 9, 3) := by decide +kernel
theorem dX12_buys_85 : decode cX12_buys 85 = .ok (.iconst 1, 1) := by decide +kernel
theorem dX12_buys_86 : decode cX12_buys 86 = .ok (.iload_n 2, 1) := by decide +kernel
theorem dX12_buys_87 : decode cX12_buys 87 = .ok (.ishl, 1) := by decide +kernel
theorem dX12_buys_88 : decode cX12_buys 88 = .ok (.goto 4, 3) := by decide +kernel
theorem dX12_buys_91 : decode cX12_buys 91 = .ok (.iconst 0, 1) := by decide +kernel
theorem dX12_buys_92 : decode cX12_buys 92 = .ok (.ior, 1) := by decide +kernel
theorem dX12_buys_93 : decode cX12_buys 93 = .ok (.istore_n 1, 1) := by decide +kernel
theorem dX12_buys_94 : decode cX12_buys 94 = .ok (.iinc 2 1, 3) := by decide +kernel
theorem dX12_buys_97 : decode cX12_buys 97 = .ok (.goto (-84), 3) := by decide +kernel
theorem dX12_buys_100 : decode cX12_buys 100 = .ok (.iload_n 1, 1) := by decide +kernel
theorem dX12_buys_101 : decode cX12_buys 101 = .ok (.ireturn, 1) := by decide +kernel
theorem dX12_byteOf_0 : decode cX12_byteOf 0 = .ok (.iload 5, 2) := by decide +kernel
theorem dX12_byteOf_2 : decode cX12_byteOf 2 = .ok (.iconst 4, 1) := by decide +kernel
theorem dX12_byteOf_3 : decode cX12_byteOf 3 = .ok (.if_icmp .ge 7, 3) := by decide +kernel
theorem dX12_byteOf_6 : decode cX12_byteOf 6 = .ok (.iload_n 0, 1) := by decide +kernel
theorem dX12_byteOf_7 : decode cX12_byteOf 7 = .ok (.goto 38, 3) := by decide +kernel
theorem dX12_byteOf_10 : decode cX12_byteOf 10 = .ok (.iload 5, 2) := by decide +kernel
theorem dX12_byteOf_12 : decode cX12_byteOf 12 = .ok (.bipush 8, 2) := by decide +kernel
theorem dX12_byteOf_14 : decode cX12_byteOf 14 = .ok (.if_icmp .ge 7, 3) := by decide +kernel
theorem dX12_byteOf_17 : decode cX12_byteOf 17 = .ok (.iload_n 1, 1) := by decide +kernel
theorem dX12_byteOf_18 : decode cX12_byteOf 18 = .ok (.goto 27, 3) := by decide +kernel
theorem dX12_byteOf_21 : decode cX12_byteOf 21 = .ok (.iload 5, 2) := by decide +kernel
theorem dX12_byteOf_23 : decode cX12_byteOf 23 = .ok (.bipush 12, 2) := by decide +kernel
theorem dX12_byteOf_25 : decode cX12_byteOf 25 = .ok (.if_icmp .ge 7, 3) := by decide +kernel
theorem dX12_byteOf_28 : decode cX12_byteOf 28 = .ok (.iload_n 2, 1) := by decide +kernel
theorem dX12_byteOf_29 : decode cX12_byteOf 29 = .ok (.goto 16, 3) := by decide +kernel
theorem dX12_byteOf_32 : decode cX12_byteOf 32 = .ok (.iload 5, 2) := by decide +kernel
theorem dX12_byteOf_34 : decode cX12_byteOf 34 = .ok (.bipush 16, 2) := by decide +kernel
theorem dX12_byteOf_36 : decode cX12_byteOf 36 = .ok (.if_icmp .ge 7, 3) := by decide +kernel
theorem dX12_byteOf_39 : decode cX12_byteOf 39 = .ok (.iload_n 3, 1) := by decide +kernel
theorem dX12_byteOf_40 : decode cX12_byteOf 40 = .ok (.goto 5, 3) := by decide +kernel
theorem dX12_byteOf_43 : decode cX12_byteOf 43 = .ok (.iload 4, 2) := by decide +kernel
theorem dX12_byteOf_45 : decode cX12_byteOf 45 = .ok (.istore 6, 2) := by decide +kernel
theorem dX12_byteOf_47 : decode cX12_byteOf 47 = .ok (.iload 6, 2) := by decide +kernel
theorem dX12_byteOf_49 : decode cX12_byteOf 49 = .ok (.bipush 24, 2) := by decide +kernel
theorem dX12_byteOf_51 : decode cX12_byteOf 51 = .ok (.bipush 8, 2) := by decide +kernel
theorem dX12_byteOf_53 : decode cX12_byteOf 53 = .ok (.iload 5, 2) := by decide +kernel
theorem dX12_byteOf_55 : decode cX12_byteOf 55 = .ok (.iconst 4, 1) := by decide +kernel
theorem dX12_byteOf_56 : decode cX12_byteOf 56 = .ok (.irem, 1) := by decide +kernel
theorem dX12_byteOf_57 : decode cX12_byteOf 57 = .ok (.imul, 1) := by decide +kernel
theorem dX12_byteOf_58 : decode cX12_byteOf 58 = .ok (.isub, 1) := by decide +kernel
theorem dX12_byteOf_59 : decode cX12_byteOf 59 = .ok (.ishr, 1) := by decide +kernel
theorem dX12_byteOf_60 : decode cX12_byteOf 60 = .ok (.sipush 255, 3) := by decide +kernel
theorem dX12_byteOf_63 : decode cX12_byteOf 63 = .ok (.iand, 1) := by decide +kernel
theorem dX12_byteOf_64 : decode cX12_byteOf 64 = .ok (.ireturn, 1) := by decide +kernel
theorem dX12_canMend_0 : decode cX12_canMend 0 = .ok (.iload_n 2, 1) := by decide +kernel
theorem dX12_canMend_1 : decode cX12_canMend 1 = .ok (.ifCond .ne 21, 3) := by decide +kernel
theorem dX12_canMend_4 : decode cX12_canMend 4 = .ok (.aload_n 0, 1) := by decide +kernel
theorem dX12_canMend_5 : decode cX12_canMend 5 = .ok (.iload 5, 2) := by decide +kernel
theorem dX12_canMend_7 : decode cX12_canMend 7 = .ok (.putfield 356, 3) := by decide +kernel
theorem dX12_canMend_10 : decode cX12_canMend 10 = .ok (.iload_n 3, 1) := by decide +kernel
theorem dX12_canMend_11 : decode cX12_canMend 11 = .ok (.iload 4, 2) := by decide +kernel
theorem dX12_canMend_13 : decode cX12_canMend 13 = .ok (.if_icmp .gt 7, 3) := by decide +kernel
theorem dX12_canMend_16 : decode cX12_canMend 16 = .ok (.iconst 1, 1) := by decide +kernel
theorem dX12_canMend_17 : decode cX12_canMend 17 = .ok (.goto 4, 3) := by decide +kernel
theorem dX12_canMend_20 : decode cX12_canMend 20 = .ok (.iconst 0, 1) := by decide +kernel
theorem dX12_canMend_21 : decode cX12_canMend 21 = .ok (.ireturn, 1) := by decide +kernel
theorem dX12_canMend_22 : decode cX12_canMend 22 = .ok (.iconst 0, 1) := by decide +kernel
theorem dX12_canMend_23 : decode cX12_canMend 23 = .ok (.istore 6, 2) := by decide +kernel
theorem dX12_canMend_25 : decode cX12_canMend 25 = .ok (.iconst 0, 1) := by decide +kernel
theorem dX12_canMend_26 : decode cX12_canMend 26 = .ok (.istore 7, 2) := by decide +kernel
theorem dX12_canMend_28 : decode cX12_canMend 28 = .ok (.iload 7, 2) := by decide +kernel
theorem dX12_canMend_30 : decode cX12_canMend 30 = .ok (.aload_n 0, 1) := by decide +kernel
theorem dX12_canMend_31 : decode cX12_canMend 31 = .ok (.getfield 259, 3) := by decide +kernel
theorem dX12_canMend_34 : decode cX12_canMend 34 = .ok (.if_icmp .ge 91, 3) := by decide +kernel
theorem dX12_canMend_37 : decode cX12_canMend 37 = .ok (.iload 6, 2) := by decide +kernel
theorem dX12_canMend_39 : decode cX12_canMend 39 = .ok (.ifCond .ne 86, 3) := by decide +kernel
theorem dX12_canMend_42 : decode cX12_canMend 42 = .ok (.aload_n 0, 1) := by decide +kernel
theorem dX12_canMend_43 : decode cX12_canMend 43 = .ok (.getfield 74, 3) := by decide +kernel
theorem dX12_canMend_46 : decode cX12_canMend 46 = .ok (.iload 7, 2) := by decide +kernel
theorem dX12_canMend_48 : decode cX12_canMend 48 = .ok (.iaload, 1) := by decide +kernel
theorem dX12_canMend_49 : decode cX12_canMend 49 = .ok (.ifCond .le 70, 3) := by decide +kernel
theorem dX12_canMend_52 : decode cX12_canMend 52 = .ok (.aload_n 0, 1) := by decide +kernel
theorem dX12_canMend_53 : decode cX12_canMend 53 = .ok (.iload 7, 2) := by decide +kernel
theorem dX12_canMend_55 : decode cX12_canMend 55 = .ok (.iload_n 1, 1) := by decide +kernel
theorem dX12_canMend_56 : decode cX12_canMend 56 = .ok (.invokevirtual 311, 3) := by decide +kernel
theorem dX12_canMend_59 : decode cX12_canMend 59 = .ok (.ifCond .eq 60, 3) := by decide +kernel
theorem dX12_canMend_62 : decode cX12_canMend 62 = .ok (.aload_n 0, 1) := by decide +kernel
theorem dX12_canMend_63 : decode cX12_canMend 63 = .ok (.getfield 74, 3) := by decide +kernel
theorem dX12_canMend_66 : decode cX12_canMend 66 = .ok (.iload 7, 2) := by decide +kernel
theorem dX12_canMend_68 : decode cX12_canMend 68 = .ok (.dup2, 1) := by decide +kernel
theorem dX12_canMend_69 : decode cX12_canMend 69 = .ok (.iaload, 1) := by decide +kernel
theorem dX12_canMend_70 : decode cX12_canMend 70 = .ok (.iconst 1, 1) := by decide +kernel
theorem dX12_canMend_71 : decode cX12_canMend 71 = .ok (.isub, 1) := by decide +kernel
theorem dX12_canMend_72 : decode cX12_canMend 72 = .ok (.iastore, 1) := by decide +kernel
theorem dX12_canMend_73 : decode cX12_canMend 73 = .ok (.aload_n 0, 1) := by decide +kernel
theorem dX12_canMend_74 : decode cX12_canMend 74 = .ok (.iload_n 1, 1) := by decide +kernel
theorem dX12_canMend_75 : decode cX12_canMend 75 = .ok (.iload_n 2, 1) := by decide +kernel
theorem dX12_canMend_76 : decode cX12_canMend 76 = .ok (.iconst 1, 1) := by decide +kernel
theorem dX12_canMend_77 : decode cX12_canMend 77 = .ok (.isub, 1) := by decide +kernel
theorem dX12_canMend_78 : decode cX12_canMend 78 = .ok (.iconst 0, 1) := by decide +kernel
theorem dX12_canMend_79 : decode cX12_canMend 79 = .ok (.iload_n 3, 1) := by decide +kernel
theorem dX12_canMend_80 : decode cX12_canMend 80 = .ok (.aload_n 0, 1) := by decide +kernel
theorem dX12_canMend_81 : decode cX12_canMend 81 = .ok (.iload 7, 2) := by decide +kernel
theorem dX12_canMend_83 : decode cX12_canMend 83 = .ok (.iload_n 1, 1) := by decide +kernel
theorem dX12_canMend_84 : decode cX12_canMend 84 = .ok (.iconst 0, 1) := by decide +kernel
theorem dX12_canMend_85 : decode cX12_canMend 85 = .ok (.iload_n 3, 1) := by decide +kernel
theorem dX12_canMend_86 : decode cX12_canMend 86 = .ok (.invokevirtual 301, 3) := by decide +kernel
theorem dX12_canMend_89 : decode cX12_canMend 89 = .ok (.isub, 1) := by decide +kernel
theorem dX12_canMend_90 : decode cX12_canMend 90 = .ok (.invokestatic 296, 3) := by decide +kernel
theorem dX12_canMend_93 : decode cX12_canMend 93 = .ok (.iload 4, 2) := by decide +kernel
theorem dX12_canMend_95 : decode cX12_canMend 95 = .ok (.bipush 10, 2) := by decide +kernel
theorem dX12_canMend_97 : decode cX12_canMend 97 = .ok (.iload 5, 2) := by decide +kernel
theorem dX12_canMend_99 : decode cX12_canMend 99 = .ok (.imul, 1) := by decide +kernel
theorem dX12_canMend_100 : decode cX12_canMend 100 = .ok (.iload 7, 2) := by decide +kernel
theorem dX12_canMend_102 : decode cX12_canMend 102 = .ok (.iadd, 1) := by decide +kernel
theorem dX12_canMend_103 : decode cX12_canMend 103 = .ok (.invokevirtual 359, 3) := by decide +kernel
theorem dX12_canMend_106 : decode cX12_canMend 106 = .ok (.istore 6, 2) := by decide +kernel
theorem dX12_canMend_108 : decode cX12_canMend 108 = .ok (.aload_n 0, 1) := by decide +kernel
theorem dX12_canMend_109 : decode cX12_canMend 109 = .ok (.getfield 74, 3) := by decide +kernel
theorem dX12_canMend_112 : decode cX12_canMend 112 = .ok (.iload 7, 2) := by decide +kernel
theorem dX12_canMend_114 : decode cX12_canMend 114 = .ok (.dup2, 1) := by decide +kernel
theorem dX12_canMend_115 : decode cX12_canMend 115 = .ok (.iaload, 1) := by decide +kernel
theorem dX12_canMend_116 : decode cX12_canMend 116 = .ok (.iconst 1, 1) := by decide +kernel
theorem dX12_canMend_117 : decode cX12_canMend 117 = .ok (.iadd, 1) := by decide +kernel
theorem dX12_canMend_118 : decode cX12_canMend 118 = .ok (.iastore, 1) := by decide +kernel
theorem dX12_canMend_119 : decode cX12_canMend 119 = .ok (.iinc 7 1, 3) := by decide +kernel
theorem dX12_canMend_122 : decode cX12_canMend 122 = .ok (.goto (-94), 3) := by decide +kernel
theorem dX12_canMend_125 : decode cX12_canMend 125 = .ok (.iload 6, 2) := by decide +kernel
theorem dX12_canMend_127 : decode cX12_canMend 127 = .ok (.ireturn, 1) := by decide +kernel
theorem dX12_isSign_0 : decode cX12_isSign 0 = .ok (.iload_n 0, 1) := by decide +kernel
theorem dX12_isSign_1 : decode cX12_isSign 1 = .ok (.bipush 61, 2) := by decide +kernel
theorem dX12_isSign_3 : decode cX12_isSign 3 = .ok (.if_icmp .eq 15, 3) := by decide +kernel
theorem dX12_isSign_6 : decode cX12_isSign 6 = .ok (.iload_n 0, 1) := by decide +kernel
theorem dX12_isSign_7 : decode cX12_isSign 7 = .ok (.bipush 60, 2) := by decide +kernel
theorem dX12_isSign_9 : decode cX12_isSign 9 = .ok (.if_icmp .eq 9, 3) := by decide +kernel
theorem dX12_isSign_12 : decode cX12_isSign 12 = .ok (.iload_n 0, 1) := by decide +kernel
theorem dX12_isSign_13 : decode cX12_isSign 13 = .ok (.bipush 62, 2) := by decide +kernel
theorem dX12_isSign_15 : decode cX12_isSign 15 = .ok (.if_icmp .ne 7, 3) := by decide +kernel
theorem dX12_isSign_18 : decode cX12_isSign 18 = .ok (.iconst 1, 1) := by decide +kernel
theorem dX12_isSign_19 : decode cX12_isSign 19 = .ok (.goto 4, 3) := by decide +kernel
theorem dX12_isSign_22 : decode cX12_isSign 22 = .ok (.iconst 0, 1) := by decide +kernel
theorem dX12_isSign_23 : decode cX12_isSign 23 = .ok (.ireturn, 1) := by decide +kernel
theorem dX12_compare_0 : decode cX12_compare 0 = .ok (.aload_n 0, 1) := by decide +kernel
theorem dX12_compare_1 : decode cX12_compare 1 = .ok (.getfield 114, 3) := by decide +kernel
theorem dX12_compare_4 : decode cX12_compare 4 = .ok (.iconst (-1), 1) := by decide +kernel
theorem dX12_compare_5 : decode cX12_compare 5 = .ok (.if_icmp .ne 10, 3) := by decide +kernel
theorem dX12_compare_8 : decode cX12_compare 8 = .ok (.aload_n 0, 1) := by decide +kernel
theorem dX12_compare_9 : decode cX12_compare 9 = .ok (.invokevirtual 126, 3) := by decide +kernel
theorem dX12_compare_12 : decode cX12_compare 12 = .ok (.goto 4, 3) := by decide +kernel
theorem dX12_compare_15 : decode cX12_compare 15 = .ok (.iconst (-1), 1) := by decide +kernel
theorem dX12_compare_16 : decode cX12_compare 16 = .ok (.istore_n 1, 1) := by decide +kernel
theorem dX12_compare_17 : decode cX12_compare 17 = .ok (.iload_n 1, 1) := by decide +kernel
theorem dX12_compare_18 : decode cX12_compare 18 = .ok (.invokestatic 160, 3) := by decide +kernel
theorem dX12_compare_21 : decode cX12_compare 21 = .ok (.ifCond .ne 8, 3) := by decide +kernel
theorem dX12_compare_24 : decode cX12_compare 24 = .ok (.aload_n 0, 1) := by decide +kernel
theorem dX12_compare_25 : decode cX12_compare 25 = .ok (.invokevirtual 123, 3) := by decide +kernel
theorem dX12_compare_28 : decode cX12_compare 28 = .ok (.return_, 1) := by decide +kernel
theorem dX12_compare_29 : decode cX12_compare 29 = .ok (.aload_n 0, 1) := by decide +kernel
theorem dX12_compare_30 : decode cX12_compare 30 = .ok (.dup, 1) := by decide +kernel
theorem dX12_compare_31 : decode cX12_compare 31 = .ok (.getfield 107, 3) := by decide +kernel
theorem dX12_compare_34 : decode cX12_compare 34 = .ok (.iconst 1, 1) := by decide +kernel
theorem dX12_compare_35 : decode cX12_compare 35 = .ok (.iadd, 1) := by decide +kernel
theorem dX12_compare_36 : decode cX12_compare 36 = .ok (.putfield 107, 3) := by decide +kernel
theorem dX12_compare_39 : decode cX12_compare 39 = .ok (.aload_n 0, 1) := by decide +kernel
theorem dX12_compare_40 : decode cX12_compare 40 = .ok (.invokevirtual 147, 3) := by decide +kernel
theorem dX12_compare_43 : decode cX12_compare 43 = .ok (.aload_n 0, 1) := by decide +kernel
theorem dX12_compare_44 : decode cX12_compare 44 = .ok (.iload_n 1, 1) := by decide +kernel
theorem dX12_compare_45 : decode cX12_compare 45 = .ok (.bipush 61, 2) := by decide +kernel
theorem dX12_compare_47 : decode cX12_compare 47 = .ok (.if_icmp .ne 8, 3) := by decide +kernel
theorem dX12_compare_50 : decode cX12_compare 50 = .ok (.bipush 6, 2) := by decide +kernel
theorem dX12_compare_52 : decode cX12_compare 52 = .ok (.goto 16, 3) := by decide +kernel
theorem dX12_compare_55 : decode cX12_compare 55 = .ok (.iload_n 1, 1) := by decide +kernel
theorem dX12_compare_56 : decode cX12_compare 56 = .ok (.bipush 60, 2) := by decide +kernel
theorem dX12_compare_58 : decode cX12_compare 58 = .ok (.if_icmp .ne 8, 3) := by decide +kernel
theorem dX12_compare_61 : decode cX12_compare 61 = .ok (.bipush 7, 2) := by decide +kernel
theorem dX12_compare_63 : decode cX12_compare 63 = .ok (.goto 5, 3) := by decide +kernel
theorem dX12_compare_66 : decode cX12_compare 66 = .ok (.bipush 8, 2) := by decide +kernel
theorem dX12_compare_68 : decode cX12_compare 68 = .ok (.iconst 0, 1) := by decide +kernel
theorem dX12_compare_69 : decode cX12_compare 69 = .ok (.invokevirtual 136, 3) := by decide +kernel
theorem dX12_compare_72 : decode cX12_compare 72 = .ok (.return_, 1) := by decide +kernel
theorem dX12_goOnAnd_0 : decode cX12_goOnAnd 0 = .ok (.aload_n 0, 1) := by decide +kernel
theorem dX12_goOnAnd_1 : decode cX12_goOnAnd 1 = .ok (.getfield 114, 3) := by decide +kernel
theorem dX12_goOnAnd_4 : decode cX12_goOnAnd 4 = .ok (.iconst (-1), 1) := by decide +kernel
theorem dX12_goOnAnd_5 : decode cX12_goOnAnd 5 = .ok (.if_icmp .ne 36, 3) := by decide +kernel
theorem dX12_goOnAnd_8 : decode cX12_goOnAnd 8 = .ok (.aload_n 0, 1) := by decide +kernel
theorem dX12_goOnAnd_9 : decode cX12_goOnAnd 9 = .ok (.invokevirtual 126, 3) := by decide +kernel
theorem dX12_goOnAnd_12 : decode cX12_goOnAnd 12 = .ok (.bipush 38, 2) := by decide +kernel
theorem dX12_goOnAnd_14 : decode cX12_goOnAnd 14 = .ok (.if_icmp .ne 27, 3) := by decide +kernel
theorem dX12_goOnAnd_17 : decode cX12_goOnAnd 17 = .ok (.aload_n 0, 1) := by decide +kernel
theorem dX12_goOnAnd_18 : decode cX12_goOnAnd 18 = .ok (.dup, 1) := by decide +kernel
theorem dX12_goOnAnd_19 : decode cX12_goOnAnd 19 = .ok (.getfield 107, 3) := by decide +kernel
theorem dX12_goOnAnd_22 : decode cX12_goOnAnd 22 = .ok (.iconst 1, 1) := by decide +kernel
theorem dX12_goOnAnd_23 : decode cX12_goOnAnd 23 = .ok (.iadd, 1) := by decide +kernel
theorem dX12_goOnAnd_24 : decode cX12_goOnAnd 24 = .ok (.putfield 107, 3) := by decide +kernel
theorem dX12_goOnAnd_27 : decode cX12_goOnAnd 27 = .ok (.aload_n 0, 1) := by decide +kernel
theorem dX12_goOnAnd_28 : decode cX12_goOnAnd 28 = .ok (.invokevirtual 163, 3) := by decide +kernel
theorem dX12_goOnAnd_31 : decode cX12_goOnAnd 31 = .ok (.aload_n 0, 1) := by decide +kernel
theorem dX12_goOnAnd_32 : decode cX12_goOnAnd 32 = .ok (.bipush 10, 2) := by decide +kernel
theorem dX12_goOnAnd_34 : decode cX12_goOnAnd 34 = .ok (.iconst 0, 1) := by decide +kernel
theorem dX12_goOnAnd_35 : decode cX12_goOnAnd 35 = .ok (.invokevirtual 136, 3) := by decide +kernel
theorem dX12_goOnAnd_38 : decode cX12_goOnAnd 38 = .ok (.goto (-38), 3) := by decide +kernel
theorem dX12_goOnAnd_41 : decode cX12_goOnAnd 41 = .ok (.return_, 1) := by decide +kernel
theorem dX12_goOnOr_0 : decode cX12_goOnOr 0 = .ok (.aload_n 0, 1) := by decide +kernel
theorem dX12_goOnOr_1 : decode cX12_goOnOr 1 = .ok (.getfield 114, 3) := by decide +kernel
theorem dX12_goOnOr_4 : decode cX12_goOnOr 4 = .ok (.iconst (-1), 1) := by decide +kernel
theorem dX12_goOnOr_5 : decode cX12_goOnOr 5 = .ok (.if_icmp .ne 40, 3) := by decide +kernel
theorem dX12_goOnOr_8 : decode cX12_goOnOr 8 = .ok (.aload_n 0, 1) := by decide +kernel
theorem dX12_goOnOr_9 : decode cX12_goOnOr 9 = .ok (.invokevirtual 126, 3) := by decide +kernel
theorem dX12_goOnOr_12 : decode cX12_goOnOr 12 = .ok (.bipush 124, 2) := by decide +kernel
theorem dX12_goOnOr_14 : decode cX12_goOnOr 14 = .ok (.if_icmp .ne 31, 3) := by decide +kernel
theorem dX12_goOnOr_17 : decode cX12_goOnOr 17 = .ok (.aload_n 0, 1) := by decide +kernel
theorem dX12_goOnOr_18 : decode cX12_goOnOr 18 = .ok (.dup, 1) := by decide +kernel
theorem dX12_goOnOr_19 : decode cX12_goOnOr 19 = .ok (.getfield 107, 3) := by decide +kernel
theorem dX12_goOnOr_22 : decode cX12_goOnOr 22 = .ok (.iconst 1, 1) := by decide +kernel
theorem dX12_goOnOr_23 : decode cX12_goOnOr 23 = .ok (.iadd, 1) := by decide +kernel
theorem dX12_goOnOr_24 : decode cX12_goOnOr 24 = .ok (.putfield 107, 3) := by decide +kernel
theorem dX12_goOnOr_27 : decode cX12_goOnOr 27 = .ok (.aload_n 0, 1) := by decide +kernel
theorem dX12_goOnOr_28 : decode cX12_goOnOr 28 = .ok (.invokevirtual 163, 3) := by decide +kernel
theorem dX12_goOnOr_31 : decode cX12_goOnOr 31 = .ok (.aload_n 0, 1) := by decide +kernel
theorem dX12_goOnOr_32 : decode cX12_goOnOr 32 = .ok (.invokevirtual 172, 3) := by decide +kernel
theorem dX12_goOnOr_35 : decode cX12_goOnOr 35 = .ok (.aload_n 0, 1) := by decide +kernel
theorem dX12_goOnOr_36 : decode cX12_goOnOr 36 = .ok (.bipush 11, 2) := by decide +kernel
theorem dX12_goOnOr_38 : decode cX12_goOnOr 38 = .ok (.iconst 0, 1) := by decide +kernel
theorem dX12_goOnOr_39 : decode cX12_goOnOr 39 = .ok (.invokevirtual 136, 3) := by decide +kernel
theorem dX12_goOnOr_42 : decode cX12_goOnOr 42 = .ok (.goto (-42), 3) := by decide +kernel
theorem dX12_goOnOr_45 : decode cX12_goOnOr 45 = .ok (.return_, 1) := by decide +kernel
theorem dX12_condition_0 : decode cX12_condition 0 = .ok (.aload_n 0, 1) := by decide +kernel
theorem dX12_condition_1 : decode cX12_condition 1 = .ok (.invokevirtual 163, 3) := by decide +kernel
theorem dX12_condition_4 : decode cX12_condition 4 = .ok (.aload_n 0, 1) := by decide +kernel
theorem dX12_condition_5 : decode cX12_condition 5 = .ok (.invokevirtual 172, 3) := by decide +kernel
theorem dX12_condition_8 : decode cX12_condition 8 = .ok (.aload_n 0, 1) := by decide +kernel
theorem dX12_condition_9 : decode cX12_condition 9 = .ok (.invokevirtual 175, 3) := by decide +kernel
theorem dX12_condition_12 : decode cX12_condition 12 = .ok (.return_, 1) := by decide +kernel
theorem dX12_unit_0 : decode cX12_unit 0 = .ok (.aload_n 0, 1) := by decide +kernel
theorem dX12_unit_1 : decode cX12_unit 1 = .ok (.invokevirtual 126, 3) := by decide +kernel
theorem dX12_unit_4 : decode cX12_unit 4 = .ok (.istore_n 1, 1) := by decide +kernel
theorem dX12_unit_5 : decode cX12_unit 5 = .ok (.iload_n 1, 1) := by decide +kernel
theorem dX12_unit_6 : decode cX12_unit 6 = .ok (.bipush 33, 2) := by decide +kernel
theorem dX12_unit_8 : decode cX12_unit 8 = .ok (.if_icmp .ne 39, 3) := by decide +kernel
theorem dX12_unit_11 : decode cX12_unit 11 = .ok (.aload_n 0, 1) := by decide +kernel
theorem dX12_unit_12 : decode cX12_unit 12 = .ok (.invokevirtual 144, 3) := by decide +kernel
theorem dX12_unit_15 : decode cX12_unit 15 = .ok (.aload_n 0, 1) := by decide +kernel
theorem dX12_unit_16 : decode cX12_unit 16 = .ok (.getfield 114, 3) := by decide +kernel
theorem dX12_unit_19 : decode cX12_unit 19 = .ok (.iconst (-1), 1) := by decide +kernel
theorem dX12_unit_20 : decode cX12_unit 20 = .ok (.if_icmp .ne 74, 3) := by decide +kernel
theorem dX12_unit_23 : decode cX12_unit 23 = .ok (.aload_n 0, 1) := by decide +kernel
theorem dX12_unit_24 : decode cX12_unit 24 = .ok (.invokevirtual 163, 3) := by decide +kernel
theorem dX12_unit_27 : decode cX12_unit 27 = .ok (.aload_n 0, 1) := by decide +kernel
theorem dX12_unit_28 : decode cX12_unit 28 = .ok (.bipush 9, 2) := by decide +kernel
theorem dX12_unit_30 : decode cX12_unit 30 = .ok (.iconst 0, 1) := by decide +kernel
theorem dX12_unit_31 : decode cX12_unit 31 = .ok (.invokevirtual 136, 3) := by decide +kernel
theorem dX12_unit_34 : decode cX12_unit 34 = .ok (.aload_n 0, 1) := by decide +kernel
theorem dX12_unit_35 : decode cX12_unit 35 = .ok (.dup, 1) := by decide +kernel
theorem dX12_unit_36 : decode cX12_unit 36 = .ok (.getfield 120, 3) := by decide +kernel
theorem dX12_unit_39 : decode cX12_unit 39 = .ok (.iconst 1, 1) := by decide +kernel
theorem dX12_unit_40 : decode cX12_unit 40 = .ok (.isub, 1) := by decide +kernel
theorem dX12_unit_41 : decode cX12_unit 41 = .ok (.putfield 120, 3) := by decide +kernel
theorem dX12_unit_44 : decode cX12_unit 44 = .ok (.goto 50, 3) := by decide +kernel
theorem dX12_unit_47 : decode cX12_unit 47 = .ok (.iload_n 1, 1) := by decide +kernel
theorem dX12_unit_48 : decode cX12_unit 48 = .ok (.bipush 40, 2) := by decide +kernel
theorem dX12_unit_50 : decode cX12_unit 50 = .ok (.if_icmp .ne 28, 3) := by decide +kernel
theorem dX12_unit_53 : decode cX12_unit 53 = .ok (.aload_n 0, 1) := by decide +kernel
theorem dX12_unit_54 : decode cX12_unit 54 = .ok (.invokevirtual 144, 3) := by decide +kernel
theorem dX12_unit_57 : decode cX12_unit 57 = .ok (.aload_n 0, 1) := by decide +kernel
theorem dX12_unit_58 : decode cX12_unit 58 = .ok (.getfield 114, 3) := by decide +kernel
theorem dX12_unit_61 : decode cX12_unit 61 = .ok (.iconst (-1), 1) := by decide +kernel
theorem dX12_unit_62 : decode cX12_unit 62 = .ok (.if_icmp .ne 32, 3) := by decide +kernel
theorem dX12_unit_65 : decode cX12_unit 65 = .ok (.aload_n 0, 1) := by decide +kernel
theorem dX12_unit_66 : decode cX12_unit 66 = .ok (.invokevirtual 166, 3) := by decide +kernel
theorem dX12_unit_69 : decode cX12_unit 69 = .ok (.aload_n 0, 1) := by decide +kernel
theorem dX12_unit_70 : decode cX12_unit 70 = .ok (.bipush 41, 2) := by decide +kernel
theorem dX12_unit_72 : decode cX12_unit 72 = .ok (.invokevirtual 150, 3) := by decide +kernel
theorem dX12_unit_75 : decode cX12_unit 75 = .ok (.goto 19, 3) := by decide +kernel
theorem dX12_unit_78 : decode cX12_unit 78 = .ok (.aload_n 0, 1) := by decide +kernel
theorem dX12_unit_79 : decode cX12_unit 79 = .ok (.invokevirtual 147, 3) := by decide +kernel
theorem dX12_unit_82 : decode cX12_unit 82 = .ok (.aload_n 0, 1) := by decide +kernel
theorem dX12_unit_83 : decode cX12_unit 83 = .ok (.getfield 114, 3) := by decide +kernel
theorem dX12_unit_86 : decode cX12_unit 86 = .ok (.iconst (-1), 1) := by decide +kernel
theorem dX12_unit_87 : decode cX12_unit 87 = .ok (.if_icmp .ne 7, 3) := by decide +kernel
theorem dX12_unit_90 : decode cX12_unit 90 = .ok (.aload_n 0, 1) := by decide +kernel
theorem dX12_unit_91 : decode cX12_unit 91 = .ok (.invokevirtual 169, 3) := by decide +kernel
theorem dX12_unit_94 : decode cX12_unit 94 = .ok (.return_, 1) := by decide +kernel
theorem dX12_clause_0 : decode cX12_clause 0 = .ok (.sipush 140, 3) := by decide +kernel
theorem dX12_clause_3 : decode cX12_clause 3 = .ok (.aload_n 0, 1) := by decide +kernel
theorem dX12_clause_4 : decode cX12_clause 4 = .ok (.getfield 117, 3) := by decide +kernel
theorem dX12_clause_7 : decode cX12_clause 7 = .ok (.imul, 1) := by decide +kernel
theorem dX12_clause_8 : decode cX12_clause 8 = .ok (.aload_n 0, 1) := by decide +kernel
theorem dX12_clause_9 : decode cX12_clause 9 = .ok (.getfield 22, 3) := by decide +kernel
theorem dX12_clause_12 : decode cX12_clause 12 = .ok (.aload_n 0, 1) := by decide +kernel
theorem dX12_clause_13 : decode cX12_clause 13 = .ok (.getfield 117, 3) := by decide +kernel
theorem dX12_clause_16 : decode cX12_clause 16 = .ok (.iaload, 1) := by decide +kernel
theorem dX12_clause_17 : decode cX12_clause 17 = .ok (.iadd, 1) := by decide +kernel
theorem dX12_clause_18 : decode cX12_clause 18 = .ok (.istore_n 1, 1) := by decide +kernel
theorem dX12_clause_19 : decode cX12_clause 19 = .ok (.aload_n 0, 1) := by decide +kernel
theorem dX12_clause_20 : decode cX12_clause 20 = .ok (.getfield 114, 3) := by decide +kernel
theorem dX12_clause_23 : decode cX12_clause 23 = .ok (.iconst (-1), 1) := by decide +kernel
theorem dX12_clause_24 : decode cX12_clause 24 = .ok (.if_icmp .ne 16, 3) := by decide +kernel
theorem dX12_clause_27 : decode cX12_clause 27 = .ok (.aload_n 0, 1) := by decide +kernel
theorem dX12_clause_28 : decode cX12_clause 28 = .ok (.invokevirtual 126, 3) := by decide +kernel
theorem dX12_clause_31 : decode cX12_clause 31 = .ok (.bipush 121, 2) := by decide +kernel
theorem dX12_clause_33 : decode cX12_clause 33 = .ok (.if_icmp .eq 7, 3) := by decide +kernel
theorem dX12_clause_36 : decode cX12_clause 36 = .ok (.aload_n 0, 1) := by decide +kernel
theorem dX12_clause_37 : decode cX12_clause 37 = .ok (.invokevirtual 123, 3) := by decide +kernel
theorem dX12_clause_40 : decode cX12_clause 40 = .ok (.aload_n 0, 1) := by decide +kernel
theorem dX12_clause_41 : decode cX12_clause 41 = .ok (.dup, 1) := by decide +kernel
theorem dX12_clause_42 : decode cX12_clause 42 = .ok (.getfield 107, 3) := by decide +kernel
theorem dX12_clause_45 : decode cX12_clause 45 = .ok (.iconst 1, 1) := by decide +kernel
theorem dX12_clause_46 : decode cX12_clause 46 = .ok (.iadd, 1) := by decide +kernel
theorem dX12_clause_47 : decode cX12_clause 47 = .ok (.putfield 107, 3) := by decide +kernel
theorem dX12_clause_50 : decode cX12_clause 50 = .ok (.aload_n 0, 1) := by decide +kernel
theorem dX12_clause_51 : decode cX12_clause 51 = .ok (.getfield 114, 3) := by decide +kernel
theorem dX12_clause_54 : decode cX12_clause 54 = .ok (.iconst (-1), 1) := by decide +kernel
theorem dX12_clause_55 : decode cX12_clause 55 = .ok (.if_icmp .ne 16, 3) := by decide +kernel
theorem dX12_clause_58 : decode cX12_clause 58 = .ok (.aload_n 0, 1) := by decide +kernel
theorem dX12_clause_59 : decode cX12_clause 59 = .ok (.invokevirtual 126, 3) := by decide +kernel
theorem dX12_clause_62 : decode cX12_clause 62 = .ok (.bipush 58, 2) := by decide +kernel
theorem dX12_clause_64 : decode cX12_clause 64 = .ok (.if_icmp .eq 7, 3) := by decide +kernel
theorem dX12_clause_67 : decode cX12_clause 67 = .ok (.aload_n 0, 1) := by decide +kernel
theorem dX12_clause_68 : decode cX12_clause 68 = .ok (.invokevirtual 123, 3) := by decide +kernel
theorem dX12_clause_71 : decode cX12_clause 71 = .ok (.aload_n 0, 1) := by decide +kernel
theorem dX12_clause_72 : decode cX12_clause 72 = .ok (.dup, 1) := by decide +kernel
theorem dX12_clause_73 : decode cX12_clause 73 = .ok (.getfield 107, 3) := by decide +kernel
theorem dX12_clause_76 : decode cX12_clause 76 = .ok (.iconst 1, 1) := by decide +kernel
theorem dX12_clause_77 : decode cX12_clause 77 = .ok (.iadd, 1) := by decide +kernel
theorem dX12_clause_78 : decode cX12_clause 78 = .ok (.putfield 107, 3) := by decide +kernel
theorem dX12_clause_81 : decode cX12_clause 81 = .ok (.aload_n 0, 1) := by decide +kernel
theorem dX12_clause_82 : decode cX12_clause 82 = .ok (.getfield 114, 3) := by decide +kernel
theorem dX12_clause_85 : decode cX12_clause 85 = .ok (.iconst (-1), 1) := by decide +kernel
theorem dX12_clause_86 : decode cX12_clause 86 = .ok (.if_icmp .eq 4, 3) := by decide +kernel
theorem dX12_clause_89 : decode cX12_clause 89 = .ok (.return_, 1) := by decide +kernel
theorem dX12_clause_90 : decode cX12_clause 90 = .ok (.aload_n 0, 1) := by decide +kernel
theorem dX12_clause_91 : decode cX12_clause 91 = .ok (.getfield 25, 3) := by decide +kernel
theorem dX12_clause_94 : decode cX12_clause 94 = .ok (.iload_n 1, 1) := by decide +kernel
theorem dX12_clause_95 : decode cX12_clause 95 = .ok (.aload_n 0, 1) := by decide +kernel
theorem dX12_clause_96 : decode cX12_clause 96 = .ok (.getfield 19, 3) := by decide +kernel
theorem dX12_clause_99 : decode cX12_clause 99 = .ok (.aload_n 0, 1) := by decide +kernel
theorem dX12_clause_100 : decode cX12_clause 100 = .ok (.getfield 117, 3) := by decide +kernel
theorem dX12_clause_103 : decode cX12_clause 103 = .ok (.iaload, 1) := by decide +kernel
theorem dX12_clause_104 : decode cX12_clause 104 = .ok (.iastore, 1) := by decide +kernel
theorem dX12_clause_105 : decode cX12_clause 105 = .ok (.aload_n 0, 1) := by decide +kernel
theorem dX12_clause_106 : decode cX12_clause 106 = .ok (.invokevirtual 126, 3) := by decide +kernel
theorem dX12_clause_109 : decode cX12_clause 109 = .ok (.bipush 33, 2) := by decide +kernel
theorem dX12_clause_111 : decode cX12_clause 111 = .ok (.if_icmp .eq 12, 3) := by decide +kernel
theorem dX12_clause_114 : decode cX12_clause 114 = .ok (.aload_n 0, 1) := by decide +kernel
theorem dX12_clause_115 : decode cX12_clause 115 = .ok (.invokevirtual 126, 3) := by decide +kernel
theorem dX12_clause_118 : decode cX12_clause 118 = .ok (.bipush 40, 2) := by decide +kernel
theorem dX12_clause_120 : decode cX12_clause 120 = .ok (.if_icmp .ne 7, 3) := by decide +kernel
theorem dX12_clause_123 : decode cX12_clause 123 = .ok (.iconst 1, 1) := by decide +kernel
theorem dX12_clause_124 : decode cX12_clause 124 = .ok (.goto 4, 3) := by decide +kernel
theorem dX12_clause_127 : decode cX12_clause 127 = .ok (.iconst 0, 1) := by decide +kernel
theorem dX12_clause_128 : decode cX12_clause 128 = .ok (.istore_n 2, 1) := by decide +kernel
theorem dX12_clause_129 : decode cX12_clause 129 = .ok (.iload_n 2, 1) := by decide +kernel
theorem dX12_clause_130 : decode cX12_clause 130 = .ok (.ifCond .eq 10, 3) := by decide +kernel
theorem dX12_clause_133 : decode cX12_clause 133 = .ok (.aload_n 0, 1) := by decide +kernel
theorem dX12_clause_134 : decode cX12_clause 134 = .ok (.invokevirtual 166, 3) := by decide +kernel
theorem dX12_clause_137 : decode cX12_clause 137 = .ok (.goto 47, 3) := by decide +kernel
theorem dX12_clause_140 : decode cX12_clause 140 = .ok (.aload_n 0, 1) := by decide +kernel
theorem dX12_clause_141 : decode cX12_clause 141 = .ok (.invokevirtual 147, 3) := by decide +kernel
theorem dX12_clause_144 : decode cX12_clause 144 = .ok (.aload_n 0, 1) := by decide +kernel
theorem dX12_clause_145 : decode cX12_clause 145 = .ok (.getfield 114, 3) := by decide +kernel
theorem dX12_clause_148 : decode cX12_clause 148 = .ok (.iconst (-1), 1) := by decide +kernel
theorem dX12_clause_149 : decode cX12_clause 149 = .ok (.if_icmp .ne 17, 3) := by decide +kernel
theorem dX12_clause_152 : decode cX12_clause 152 = .ok (.aload_n 0, 1) := by decide +kernel
theorem dX12_clause_153 : decode cX12_clause 153 = .ok (.invokevirtual 126, 3) := by decide +kernel
theorem dX12_clause_156 : decode cX12_clause 156 = .ok (.invokestatic 160, 3) := by decide +kernel
theorem dX12_clause_159 : decode cX12_clause 159 = .ok (.ifCond .eq 7, 3) := by decide +kernel
theorem dX12_clause_162 : decode cX12_clause 162 = .ok (.iconst 1, 1) := by decide +kernel
theorem dX12_clause_163 : decode cX12_clause 163 = .ok (.goto 4, 3) := by decide +kernel
theorem dX12_clause_166 : decode cX12_clause 166 = .ok (.iconst 0, 1) := by decide +kernel
theorem dX12_clause_167 : decode cX12_clause 167 = .ok (.istore_n 2, 1) := by decide +kernel
theorem dX12_clause_168 : decode cX12_clause 168 = .ok (.iload_n 2, 1) := by decide +kernel
theorem dX12_clause_169 : decode cX12_clause 169 = .ok (.ifCond .eq 15, 3) := by decide +kernel
theorem dX12_clause_172 : decode cX12_clause 172 = .ok (.aload_n 0, 1) := by decide +kernel
theorem dX12_clause_173 : decode cX12_clause 173 = .ok (.invokevirtual 169, 3) := by decide +kernel
theorem dX12_clause_176 : decode cX12_clause 176 = .ok (.aload_n 0, 1) := by decide +kernel
theorem dX12_clause_177 : decode cX12_clause 177 = .ok (.invokevirtual 172, 3) := by decide +kernel
theorem dX12_clause_180 : decode cX12_clause 180 = .ok (.aload_n 0, 1) := by decide +kernel
theorem dX12_clause_181 : decode cX12_clause 181 = .ok (.invokevirtual 175, 3) := by decide +kernel
theorem dX12_clause_184 : decode cX12_clause 184 = .ok (.aload_n 0, 1) := by decide +kernel
theorem dX12_clause_185 : decode cX12_clause 185 = .ok (.getfield 28, 3) := by decide +kernel
theorem dX12_clause_188 : decode cX12_clause 188 = .ok (.iload_n 1, 1) := by decide +kernel
theorem dX12_clause_189 : decode cX12_clause 189 = .ok (.aload_n 0, 1) := by decide +kernel
theorem dX12_clause_190 : decode cX12_clause 190 = .ok (.getfield 25, 3) := by decide +kernel
theorem dX12_clause_193 : decode cX12_clause 193 = .ok (.iload_n 1, 1) := by decide +kernel
theorem dX12_clause_194 : decode cX12_clause 194 = .ok (.iaload, 1) := by decide +kernel
theorem dX12_clause_195 : decode cX12_clause 195 = .ok (.iastore, 1) := by decide +kernel
theorem dX12_clause_196 : decode cX12_clause 196 = .ok (.iload_n 2, 1) := by decide +kernel
theorem dX12_clause_197 : decode cX12_clause 197 = .ok (.ifCond .eq 54, 3) := by decide +kernel
theorem dX12_clause_200 : decode cX12_clause 200 = .ok (.aload_n 0, 1) := by decide +kernel
theorem dX12_clause_201 : decode cX12_clause 201 = .ok (.getfield 114, 3) := by decide +kernel
theorem dX12_clause_204 : decode cX12_clause 204 = .ok (.iconst (-1), 1) := by decide +kernel
theorem dX12_clause_205 : decode cX12_clause 205 = .ok (.if_icmp .ne 46, 3) := by decide +kernel
theorem dX12_clause_208 : decode cX12_clause 208 = .ok (.aload_n 0, 1) := by decide +kernel
theorem dX12_clause_209 : decode cX12_clause 209 = .ok (.invokevirtual 126, 3) := by decide +kernel
theorem dX12_clause_212 : decode cX12_clause 212 = .ok (.bipush 63, 2) := by decide +kernel
theorem dX12_clause_214 : decode cX12_clause 214 = .ok (.if_icmp .eq 8, 3) := by decide +kernel
theorem dX12_clause_217 : decode cX12_clause 217 = .ok (.aload_n 0, 1) := by decide +kernel
theorem dX12_clause_218 : decode cX12_clause 218 = .ok (.invokevirtual 123, 3) := by decide +kernel
theorem dX12_clause_221 : decode cX12_clause 221 = .ok (.return_, 1) := by decide +kernel
theorem dX12_clause_222 : decode cX12_clause 222 = .ok (.aload_n 0, 1) := by decide +kernel
theorem dX12_clause_223 : decode cX12_clause 223 = .ok (.dup, 1) := by decide +kernel
theorem dX12_clause_224 : decode cX12_clause 224 = .ok (.getfield 107, 3) := by decide +kernel
theorem dX12_clause_227 : decode cX12_clause 227 = .ok (.iconst 1, 1) := by decide +kernel
theorem dX12_clause_228 : decode cX12_clause 228 = .ok (.iadd, 1) := by decide +kernel
theorem dX12_clause_229 : decode cX12_clause 229 = .ok (.putfield 107, 3) := by decide +kernel
theorem dX12_clause_232 : decode cX12_clause 232 = .ok (.aload_n 0, 1) := by decide +kernel
theorem dX12_clause_233 : decode cX12_clause 233 = .ok (.getfield 28, 3) := by decide +kernel
theorem dX12_clause_236 : decode cX12_clause 236 = .ok (.iload_n 1, 1) := by decide +kernel
theorem dX12_clause_237 : decode cX12_clause 237 = .ok (.aload_n 0, 1) := by decide +kernel
theorem dX12_clause_238 : decode cX12_clause 238 = .ok (.getfield 19, 3) := by decide +kernel
theorem dX12_clause_241 : decode cX12_clause 241 = .ok (.aload_n 0, 1) := by decide +kernel
theorem dX12_clause_242 : decode cX12_clause 242 = .ok (.getfield 117, 3) := by decide +kernel
theorem dX12_clause_245 : decode cX12_clause 245 = .ok (.iaload, 1) := by decide +kernel
theorem dX12_clause_246 : decode cX12_clause 246 = .ok (.iastore, 1) := by decide +kernel
theorem dX12_clause_247 : decode cX12_clause 247 = .ok (.aload_n 0, 1) := by decide +kernel
theorem dX12_clause_248 : decode cX12_clause 248 = .ok (.invokevirtual 147, 3) := by decide +kernel
theorem dX12_clause_251 : decode cX12_clause 251 = .ok (.aload_n 0, 1) := by decide +kernel
theorem dX12_clause_252 : decode cX12_clause 252 = .ok (.getfield 31, 3) := by decide +kernel
theorem dX12_clause_255 : decode cX12_clause 255 = .ok (.iload_n 1, 1) := by decide +kernel
theorem dX12_clause_256 : decode cX12_clause 256 = .ok (.aload_n 0, 1) := by decide +kernel
theorem dX12_clause_257 : decode cX12_clause 257 = .ok (.getfield 19, 3) := by decide +kernel
theorem dX12_clause_260 : decode cX12_clause 260 = .ok (.aload_n 0, 1) := by decide +kernel
theorem dX12_clause_261 : decode cX12_clause 261 = .ok (.getfield 117, 3) := by decide +kernel
theorem dX12_clause_264 : decode cX12_clause 264 = .ok (.iaload, 1) := by decide +kernel
theorem dX12_clause_265 : decode cX12_clause 265 = .ok (.iastore, 1) := by decide +kernel
theorem dX12_clause_266 : decode cX12_clause 266 = .ok (.aload_n 0, 1) := by decide +kernel
theorem dX12_clause_267 : decode cX12_clause 267 = .ok (.getfield 22, 3) := by decide +kernel
theorem dX12_clause_270 : decode cX12_clause 270 = .ok (.aload_n 0, 1) := by decide +kernel
theorem dX12_clause_271 : decode cX12_clause 271 = .ok (.getfield 117, 3) := by decide +kernel
theorem dX12_clause_274 : decode cX12_clause 274 = .ok (.dup2, 1) := by decide +kernel
theorem dX12_clause_275 : decode cX12_clause 275 = .ok (.iaload, 1) := by decide +kernel
theorem dX12_clause_276 : decode cX12_clause 276 = .ok (.iconst 1, 1) := by decide +kernel
theorem dX12_clause_277 : decode cX12_clause 277 = .ok (.iadd, 1) := by decide +kernel
theorem dX12_clause_278 : decode cX12_clause 278 = .ok (.iastore, 1) := by decide +kernel
theorem dX12_clause_279 : decode cX12_clause 279 = .ok (.return_, 1) := by decide +kernel
theorem dX12_sumOf_0 : decode cX12_sumOf 0 = .ok (.iconst 0, 1) := by decide +kernel
theorem dX12_sumOf_1 : decode cX12_sumOf 1 = .ok (.istore_n 3, 1) := by decide +kernel
theorem dX12_sumOf_2 : decode cX12_sumOf 2 = .ok (.iconst 0, 1) := by decide +kernel
theorem dX12_sumOf_3 : decode cX12_sumOf 3 = .ok (.istore 4, 2) := by decide +kernel
theorem dX12_sumOf_5 : decode cX12_sumOf 5 = .ok (.iload 4, 2) := by decide +kernel
theorem dX12_sumOf_7 : decode cX12_sumOf 7 = .ok (.iload_n 2, 1) := by decide +kernel
theorem dX12_sumOf_8 : decode cX12_sumOf 8 = .ok (.if_icmp .ge 21, 3) := by decide +kernel
theorem dX12_sumOf_11 : decode cX12_sumOf 11 = .ok (.iload_n 3, 1) := by decide +kernel
theorem dX12_sumOf_12 : decode cX12_sumOf 12 = .ok (.aload_n 0, 1) := by decide +kernel
theorem dX12_sumOf_13 : decode cX12_sumOf 13 = .ok (.getfield 58, 3) := by decide +kernel
theorem dX12_sumOf_16 : decode cX12_sumOf 16 = .ok (.iload_n 1, 1) := by decide +kernel
theorem dX12_sumOf_17 : decode cX12_sumOf 17 = .ok (.iload 4, 2) := by decide +kernel
theorem dX12_sumOf_19 : decode cX12_sumOf 19 = .ok (.iadd, 1) := by decide +kernel
theorem dX12_sumOf_20 : decode cX12_sumOf 20 = .ok (.iaload, 1) := by decide +kernel
theorem dX12_sumOf_21 : decode cX12_sumOf 21 = .ok (.iadd, 1) := by decide +kernel
theorem dX12_sumOf_22 : decode cX12_sumOf 22 = .ok (.istore_n 3, 1) := by decide +kernel
theorem dX12_sumOf_23 : decode cX12_sumOf 23 = .ok (.iinc 4 1, 3) := by decide +kernel
theorem dX12_sumOf_26 : decode cX12_sumOf 26 = .ok (.goto (-21), 3) := by decide +kernel
theorem dX12_sumOf_29 : decode cX12_sumOf 29 = .ok (.iload_n 3, 1) := by decide +kernel
theorem dX12_sumOf_30 : decode cX12_sumOf 30 = .ok (.ireturn, 1) := by decide +kernel
