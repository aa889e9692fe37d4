theorem dX0_answer_0 : decode cX0_answer 0 = .ok (.iload_n 1, 1) := by decide +kernel
theorem dX0_answer_1 : decode cX0_answer 1 = .ok (.tableswitch 77 0 5 #[39, 44, 49, 54, 59, 64], 39) := by decide +kernel
theorem dX0_answer_40 : decode cX0_answer 40 = .ok (.aload_n 0, 1) := by decide +kernel
theorem dX0_answer_41 : decode cX0_answer 41 = .ok (.getfield 15, 3) := by decide +kernel
theorem dX0_answer_44 : decode cX0_answer 44 = .ok (.ireturn, 1) := by decide +kernel
theorem dX0_answer_45 : decode cX0_answer 45 = .ok (.aload_n 0, 1) := by decide +kernel
theorem dX0_answer_46 : decode cX0_answer 46 = .ok (.invokevirtual 37, 3) := by decide +kernel
theorem dX0_answer_49 : decode cX0_answer 49 = .ok (.ireturn, 1) := by decide +kernel
theorem dX0_answer_50 : decode cX0_answer 50 = .ok (.aload_n 0, 1) := by decide +kernel
theorem dX0_answer_51 : decode cX0_answer 51 = .ok (.getfield 18, 3) := by decide +kernel
theorem dX0_answer_54 : decode cX0_answer 54 = .ok (.ireturn, 1) := by decide +kernel
theorem dX0_answer_55 : decode cX0_answer 55 = .ok (.aload_n 0, 1) := by decide +kernel
theorem dX0_answer_56 : decode cX0_answer 56 = .ok (.getfield 21, 3) := by decide +kernel
theorem dX0_answer_59 : decode cX0_answer 59 = .ok (.ireturn, 1) := by decide +kernel
theorem dX0_answer_60 : decode cX0_answer 60 = .ok (.aload_n 0, 1) := by decide +kernel
theorem dX0_answer_61 : decode cX0_answer 61 = .ok (.getfield 24, 3) := by decide +kernel
theorem dX0_answer_64 : decode cX0_answer 64 = .ok (.ireturn, 1) := by decide +kernel
theorem dX0_answer_65 : decode cX0_answer 65 = .ok (.aload_n 0, 1) := by decide +kernel
theorem dX0_answer_66 : decode cX0_answer 66 = .ok (.getfield 27, 3) := by decide +kernel
theorem dX0_answer_69 : decode cX0_answer 69 = .ok (.ifCond .eq 7, 3) := by decide +kernel
theorem dX0_answer_72 : decode cX0_answer 72 = .ok (.iconst 1, 1) := by decide +kernel
theorem dX0_answer_73 : decode cX0_answer 73 = .ok (.goto 4, 3) := by decide +kernel
theorem dX0_answer_76 : decode cX0_answer 76 = .ok (.iconst 0, 1) := by decide +kernel
theorem dX0_answer_77 : decode cX0_answer 77 = .ok (.ireturn, 1) := by decide +kernel
theorem dX0_answer_78 : decode cX0_answer 78 = .ok (.iconst (-1), 1) := by decide +kernel
theorem dX0_answer_79 : decode cX0_answer 79 = .ok (.ireturn, 1) := by decide +kernel
theorem dX0_copyFrom_0 : decode cX0_copyFrom 0 = .ok (.aload_n 0, 1) := by decide +kernel
theorem dX0_copyFrom_1 : decode cX0_copyFrom 1 = .ok (.aload_n 1, 1) := by decide +kernel
theorem dX0_copyFrom_2 : decode cX0_copyFrom 2 = .ok (.getfield 9, 3) := by decide +kernel
theorem dX0_copyFrom_5 : decode cX0_copyFrom 5 = .ok (.putfield 9, 3) := by decide +kernel
theorem dX0_copyFrom_8 : decode cX0_copyFrom 8 = .ok (.aload_n 0, 1) := by decide +kernel
theorem dX0_copyFrom_9 : decode cX0_copyFrom 9 = .ok (.aload_n 1, 1) := by decide +kernel
theorem dX0_copyFrom_10 : decode cX0_copyFrom 10 = .ok (.getfield 15, 3) := by decide +kernel
theorem dX0_copyFrom_13 : decode cX0_copyFrom 13 = .ok (.putfield 15, 3) := by decide +kernel
theorem dX0_copyFrom_16 : decode cX0_copyFrom 16 = .ok (.aload_n 0, 1) := by decide +kernel
theorem dX0_copyFrom_17 : decode cX0_copyFrom 17 = .ok (.aload_n 1, 1) := by decide +kernel
theorem dX0_copyFrom_18 : decode cX0_copyFrom 18 = .ok (.getfield 27, 3) := by decide +kernel
theorem dX0_copyFrom_21 : decode cX0_copyFrom 21 = .ok (.putfield 27, 3) := by decide +kernel
theorem dX0_copyFrom_24 : decode cX0_copyFrom 24 = .ok (.aload_n 0, 1) := by decide +kernel
theorem dX0_copyFrom_25 : decode cX0_copyFrom 25 = .ok (.iconst 0, 1) := by decide +kernel
theorem dX0_copyFrom_26 : decode cX0_copyFrom 26 = .ok (.putfield 21, 3) := by decide +kernel
theorem dX0_copyFrom_29 : decode cX0_copyFrom 29 = .ok (.return_, 1) := by decide +kernel
theorem dX0_init_0 : decode cX0_init 0 = .ok (.aload_n 0, 1) := by decide +kernel
theorem dX0_init_1 : decode cX0_init 1 = .ok (.invokespecial 3, 3) := by decide +kernel
theorem dX0_init_4 : decode cX0_init 4 = .ok (.aload_n 0, 1) := by decide +kernel
theorem dX0_init_5 : decode cX0_init 5 = .ok (.iconst 1, 1) := by decide +kernel
theorem dX0_init_6 : decode cX0_init 6 = .ok (.putfield 9, 3) := by decide +kernel
theorem dX0_init_9 : decode cX0_init 9 = .ok (.aload_n 0, 1) := by decide +kernel
theorem dX0_init_10 : decode cX0_init 10 = .ok (.iconst 0, 1) := by decide +kernel
theorem dX0_init_11 : decode cX0_init 11 = .ok (.putfield 15, 3) := by decide +kernel
theorem dX0_init_14 : decode cX0_init 14 = .ok (.aload_n 0, 1) := by decide +kernel
theorem dX0_init_15 : decode cX0_init 15 = .ok (.iconst 0, 1) := by decide +kernel
theorem dX0_init_16 : decode cX0_init 16 = .ok (.putfield 18, 3) := by decide +kernel
theorem dX0_init_19 : decode cX0_init 19 = .ok (.aload_n 0, 1) := by decide +kernel
theorem dX0_init_20 : decode cX0_init 20 = .ok (.iconst 0, 1) := by decide +kernel
theorem dX0_init_21 : decode cX0_init 21 = .ok (.putfield 21, 3) := by decide +kernel
theorem dX0_init_24 : decode cX0_init 24 = .ok (.aload_n 0, 1) := by decide +kernel
theorem dX0_init_25 : decode cX0_init 25 = .ok (.iconst 0, 1) := by decide +kernel
theorem dX0_init_26 : decode cX0_init 26 = .ok (.putfield 24, 3) := by decide +kernel
theorem dX0_init_29 : decode cX0_init 29 = .ok (.aload_n 0, 1) := by decide +kernel
theorem dX0_init_30 : decode cX0_init 30 = .ok (.iconst 0, 1) := by decide +kernel
theorem dX0_init_31 : decode cX0_init 31 = .ok (.putfield 27, 3) := by decide +kernel
theorem dX0_init_34 : decode cX0_init 34 = .ok (.return_, 1) := by decide +kernel
theorem dX0_lacks_0 : decode cX0_lacks 0 = .ok (.iconst 0, 1) := by decide +kernel
theorem dX0_lacks_1 : decode cX0_lacks 1 = .ok (.aload_n 0, 1) := by decide +kernel
theorem dX0_lacks_2 : decode cX0_lacks 2 = .ok (.getfield 9, 3) := by decide +kernel
theorem dX0_lacks_5 : decode cX0_lacks 5 = .ok (.aload_n 0, 1) := by decide +kernel
theorem dX0_lacks_6 : decode cX0_lacks 6 = .ok (.getfield 18, 3) := by decide +kernel
theorem dX0_lacks_9 : decode cX0_lacks 9 = .ok (.imul, 1) := by decide +kernel
theorem dX0_lacks_10 : decode cX0_lacks 10 = .ok (.aload_n 0, 1) := by decide +kernel
theorem dX0_lacks_11 : decode cX0_lacks 11 = .ok (.getfield 15, 3) := by decide +kernel
theorem dX0_lacks_14 : decode cX0_lacks 14 = .ok (.isub, 1) := by decide +kernel
theorem dX0_lacks_15 : decode cX0_lacks 15 = .ok (.invokestatic 31, 3) := by decide +kernel
theorem dX0_lacks_18 : decode cX0_lacks 18 = .ok (.ireturn, 1) := by decide +kernel
theorem dX0_pressure_0 : decode cX0_pressure 0 = .ok (.aload_n 0, 1) := by decide +kernel
theorem dX0_pressure_1 : decode cX0_pressure 1 = .ok (.getfield 9, 3) := by decide +kernel
theorem dX0_pressure_4 : decode cX0_pressure 4 = .ok (.iconst 1, 1) := by decide +kernel
theorem dX0_pressure_5 : decode cX0_pressure 5 = .ok (.if_icmp .ge 7, 3) := by decide +kernel
theorem dX0_pressure_8 : decode cX0_pressure 8 = .ok (.iconst 0, 1) := by decide +kernel
theorem dX0_pressure_9 : decode cX0_pressure 9 = .ok (.goto 12, 3) := by decide +kernel
theorem dX0_pressure_12 : decode cX0_pressure 12 = .ok (.aload_n 0, 1) := by decide +kernel
theorem dX0_pressure_13 : decode cX0_pressure 13 = .ok (.getfield 15, 3) := by decide +kernel
theorem dX0_pressure_16 : decode cX0_pressure 16 = .ok (.aload_n 0, 1) := by decide +kernel
theorem dX0_pressure_17 : decode cX0_pressure 17 = .ok (.getfield 9, 3) := by decide +kernel
theorem dX0_pressure_20 : decode cX0_pressure 20 = .ok (.idiv, 1) := by decide +kernel
theorem dX0_pressure_21 : decode cX0_pressure 21 = .ok (.ireturn, 1) := by decide +kernel
theorem dX1_begin_0 : decode cX1_begin 0 = .ok (.aload_n 0, 1) := by decide +kernel
theorem dX1_begin_1 : decode cX1_begin 1 = .ok (.iconst 0, 1) := by decide +kernel
theorem dX1_begin_2 : decode cX1_begin 2 = .ok (.putfield 9, 3) := by decide +kernel
theorem dX1_begin_5 : decode cX1_begin 5 = .ok (.aload_n 0, 1) := by decide +kernel
theorem dX1_begin_6 : decode cX1_begin 6 = .ok (.iconst 0, 1) := by decide +kernel
theorem dX1_begin_7 : decode cX1_begin 7 = .ok (.putfield 15, 3) := by decide +kernel
theorem dX1_begin_10 : decode cX1_begin 10 = .ok (.iconst 0, 1) := by decide +kernel
theorem dX1_begin_11 : decode cX1_begin 11 = .ok (.istore_n 2, 1) := by decide +kernel
theorem dX1_begin_12 : decode cX1_begin 12 = .ok (.iload_n 2, 1) := by decide +kernel
theorem dX1_begin_13 : decode cX1_begin 13 = .ok (.bipush 6, 2) := by decide +kernel
theorem dX1_begin_15 : decode cX1_begin 15 = .ok (.if_icmp .ge 16, 3) := by decide +kernel
theorem dX1_begin_18 : decode cX1_begin 18 = .ok (.aload_n 0, 1) := by decide +kernel
theorem dX1_begin_19 : decode cX1_begin 19 = .ok (.getfield 18, 3) := by decide +kernel
theorem dX1_begin_22 : decode cX1_begin 22 = .ok (.iload_n 2, 1) := by decide +kernel
theorem dX1_begin_23 : decode cX1_begin 23 = .ok (.iconst 0, 1) := by decide +kernel
theorem dX1_begin_24 : decode cX1_begin 24 = .ok (.bastore, 1) := by decide +kernel
theorem dX1_begin_25 : decode cX1_begin 25 = .ok (.iinc 2 1, 3) := by decide +kernel
theorem dX1_begin_28 : decode cX1_begin 28 = .ok (.goto (-16), 3) := by decide +kernel
theorem dX1_begin_31 : decode cX1_begin 31 = .ok (.aload_n 1, 1) := by decide +kernel
theorem dX1_begin_32 : decode cX1_begin 32 = .ok (.invokevirtual 40, 3) := by decide +kernel
theorem dX1_begin_35 : decode cX1_begin 35 = .ok (.return_, 1) := by decide +kernel
theorem dX1_blame_0 : decode cX1_blame 0 = .ok (.aload_n 0, 1) := by decide +kernel
theorem dX1_blame_1 : decode cX1_blame 1 = .ok (.iconst 1, 1) := by decide +kernel
theorem dX1_blame_2 : decode cX1_blame 2 = .ok (.bipush 8, 2) := by decide +kernel
theorem dX1_blame_4 : decode cX1_blame 4 = .ok (.iload_n 1, 1) := by decide +kernel
theorem dX1_blame_5 : decode cX1_blame 5 = .ok (.imul, 1) := by decide +kernel
theorem dX1_blame_6 : decode cX1_blame 6 = .ok (.iadd, 1) := by decide +kernel
theorem dX1_blame_7 : decode cX1_blame 7 = .ok (.iload_n 2, 1) := by decide +kernel
theorem dX1_blame_8 : decode cX1_blame 8 = .ok (.iadd, 1) := by decide +kernel
theorem dX1_blame_9 : decode cX1_blame 9 = .ok (.putfield 15, 3) := by decide +kernel
theorem dX1_blame_12 : decode cX1_blame 12 = .ok (.return_, 1) := by decide +kernel
theorem dX1_init_0 : decode cX1_init 0 = .ok (.aload_n 0, 1) := by decide +kernel
theorem dX1_init_1 : decode cX1_init 1 = .ok (.invokespecial 3, 3) := by decide +kernel
theorem dX1_init_4 : decode cX1_init 4 = .ok (.aload_n 0, 1) := by decide +kernel
theorem dX1_init_5 : decode cX1_init 5 = .ok (.iconst 0, 1) := by decide +kernel
theorem dX1_init_6 : decode cX1_init 6 = .ok (.putfield 9, 3) := by decide +kernel
theorem dX1_init_9 : decode cX1_init 9 = .ok (.aload_n 0, 1) := by decide +kernel
theorem dX1_init_10 : decode cX1_init 10 = .ok (.iconst 0, 1) := by decide +kernel
theorem dX1_init_11 : decode cX1_init 11 = .ok (.putfield 15, 3) := by decide +kernel
theorem dX1_init_14 : decode cX1_init 14 = .ok (.aload_n 0, 1) := by decide +kernel
theorem dX1_init_15 : decode cX1_init 15 = .ok (.bipush 6, 2) := by decide +kernel
theorem dX1_init_17 : decode cX1_init 17 = .ok (.newarray .boolean, 2) := by decide +kernel
theorem dX1_init_19 : decode cX1_init 19 = .ok (.putfield 18, 3) := by decide +kernel
theorem dX1_init_22 : decode cX1_init 22 = .ok (.aload_n 0, 1) := by decide +kernel
theorem dX1_init_23 : decode cX1_init 23 = .ok (.aload_n 1, 1) := by decide +kernel
theorem dX1_init_24 : decode cX1_init 24 = .ok (.putfield 22, 3) := by decide +kernel
theorem dX1_init_27 : decode cX1_init 27 = .ok (.return_, 1) := by decide +kernel
theorem dX1_isAtEnd_0 : decode cX1_isAtEnd 0 = .ok (.aload_n 0, 1) := by decide +kernel
theorem dX1_isAtEnd_1 : decode cX1_isAtEnd 1 = .ok (.invokevirtual 45, 3) := by decide +kernel
theorem dX1_isAtEnd_4 : decode cX1_isAtEnd 4 = .ok (.aload_n 0, 1) := by decide +kernel
theorem dX1_isAtEnd_5 : decode cX1_isAtEnd 5 = .ok (.getfield 22, 3) := by decide +kernel
theorem dX1_isAtEnd_8 : decode cX1_isAtEnd 8 = .ok (.aload_n 0, 1) := by decide +kernel
theorem dX1_isAtEnd_9 : decode cX1_isAtEnd 9 = .ok (.getfield 9, 3) := by decide +kernel
theorem dX1_isAtEnd_12 : decode cX1_isAtEnd 12 = .ok (.invokevirtual 48, 3) := by decide +kernel
theorem dX1_isAtEnd_15 : decode cX1_isAtEnd 15 = .ok (.iconst (-1), 1) := by decide +kernel
theorem dX1_isAtEnd_16 : decode cX1_isAtEnd 16 = .ok (.if_icmp .ne 7, 3) := by decide +kernel
theorem dX1_isAtEnd_19 : decode cX1_isAtEnd 19 = .ok (.iconst 1, 1) := by decide +kernel
theorem dX1_isAtEnd_20 : decode cX1_isAtEnd 20 = .ok (.goto 4, 3) := by decide +kernel
theorem dX1_isAtEnd_23 : decode cX1_isAtEnd 23 = .ok (.iconst 0, 1) := by decide +kernel
theorem dX1_isAtEnd_24 : decode cX1_isAtEnd 24 = .ok (.ireturn, 1) := by decide +kernel
theorem dX1_isBetween_0 : decode cX1_isBetween 0 = .ok (.iload_n 0, 1) := by decide +kernel
theorem dX1_isBetween_1 : decode cX1_isBetween 1 = .ok (.iload_n 1, 1) := by decide +kernel
theorem dX1_isBetween_2 : decode cX1_isBetween 2 = .ok (.if_icmp .lt 12, 3) := by decide +kernel
theorem dX1_isBetween_5 : decode cX1_isBetween 5 = .ok (.iload_n 0, 1) := by decide +kernel
theorem dX1_isBetween_6 : decode cX1_isBetween 6 = .ok (.iload_n 2, 1) := by decide +kernel
theorem dX1_isBetween_7 : decode cX1_isBetween 7 = .ok (.if_icmp .gt 7, 3) := by decide +kernel
theorem dX1_isBetween_10 : decode cX1_isBetween 10 = .ok (.iconst 1, 1) := by decide +kernel
theorem dX1_isBetween_11 : decode cX1_isBetween 11 = .ok (.goto 4, 3) := by decide +kernel
theorem dX1_isBetween_14 : decode cX1_isBetween 14 = .ok (.iconst 0, 1) := by decide +kernel
theorem dX1_isBetween_15 : decode cX1_isBetween 15 = .ok (.ireturn, 1) := by decide +kernel
theorem dX1_isWord_0 : decode cX1_isWord 0 = .ok (.aload_n 1, 1) := by decide +kernel
theorem dX1_isWord_1 : decode cX1_isWord 1 = .ok (.invokevirtual 108, 3) := by decide +kernel
theorem dX1_isWord_4 : decode cX1_isWord 4 = .ok (.aload_n 0, 1) := by decide +kernel
theorem dX1_isWord_5 : decode cX1_isWord 5 = .ok (.getfield 9, 3) := by decide +kernel
theorem dX1_isWord_8 : decode cX1_isWord 8 = .ok (.iload_n 2, 1) := by decide +kernel
theorem dX1_isWord_9 : decode cX1_isWord 9 = .ok (.isub, 1) := by decide +kernel
theorem dX1_isWord_10 : decode cX1_isWord 10 = .ok (.if_icmp .eq 5, 3) := by decide +kernel
theorem dX1_isWord_13 : decode cX1_isWord 13 = .ok (.iconst 0, 1) := by decide +kernel
theorem dX1_isWord_14 : decode cX1_isWord 14 = .ok (.ireturn, 1) := by decide +kernel
theorem dX1_isWord_15 : decode cX1_isWord 15 = .ok (.iconst 0, 1) := by decide +kernel
theorem dX1_isWord_16 : decode cX1_isWord 16 = .ok (.istore_n 3, 1) := by decide +kernel
theorem dX1_isWord_17 : decode cX1_isWord 17 = .ok (.iload_n 3, 1) := by decide +kernel
theorem dX1_isWord_18 : decode cX1_isWord 18 = .ok (.aload_n 1, 1) := by decide +kernel
theorem dX1_isWord_19 : decode cX1_isWord 19 = .ok (.invokevirtual 108, 3) := by decide +kernel
theorem dX1_isWord_22 : decode cX1_isWord 22 = .ok (.if_icmp .ge 29, 3) := by decide +kernel
theorem dX1_isWord_25 : decode cX1_isWord 25 = .ok (.aload_n 1, 1) := by decide +kernel
theorem dX1_isWord_26 : decode cX1_isWord 26 = .ok (.iload_n 3, 1) := by decide +kernel
theorem dX1_isWord_27 : decode cX1_isWord 27 = .ok (.invokevirtual 113, 3) := by decide +kernel
theorem dX1_isWord_30 : decode cX1_isWord 30 = .ok (.aload_n 0, 1) := by decide +kernel
theorem dX1_isWord_31 : decode cX1_isWord 31 = .ok (.getfield 22, 3) := by decide +kernel
theorem dX1_isWord_34 : decode cX1_isWord 34 = .ok (.iload_n 2, 1) := by decide +kernel
theorem dX1_isWord_35 : decode cX1_isWord 35 = .ok (.iload_n 3, 1) := by decide +kernel
theorem dX1_isWord_36 : decode cX1_isWord 36 = .ok (.iadd, 1) := by decide +kernel
theorem dX1_isWord_37 : decode cX1_isWord 37 = .ok (.invokevirtual 48, 3) := by decide +kernel
theorem dX1_isWord_40 : decode cX1_isWord 40 = .ok (.if_icmp .eq 5, 3) := by decide +kernel
theorem dX1_isWord_43 : decode cX1_isWord 43 = .ok (.iconst 0, 1) := by decide +kernel
theorem dX1_isWord_44 : decode cX1_isWord 44 = .ok (.ireturn, 1) := by decide +kernel
theorem dX1_isWord_45 : decode cX1_isWord 45 = .ok (.iinc 3 1, 3) := by decide +kernel
theorem dX1_isWord_48 : decode cX1_isWord 48 = .ok (.goto (-31), 3) := by decide +kernel
theorem dX1_isWord_51 : decode cX1_isWord 51 = .ok (.iconst 1, 1) := by decide +kernel
theorem dX1_isWord_52 : decode cX1_isWord 52 = .ok (.ireturn, 1) := by decide +kernel
theorem dX1_readClause_0 : decode cX1_readClause 0 = .ok (.aload_n 0, 1) := by decide +kernel
theorem dX1_readClause_1 : decode cX1_readClause 1 = .ok (.invokevirtual 45, 3) := by decide +kernel
theorem dX1_readClause_4 : decode cX1_readClause 4 = .ok (.aload_n 0, 1) := by decide +kernel
theorem dX1_readClause_5 : decode cX1_readClause 5 = .ok (.getfield 9, 3) := by decide +kernel
theorem dX1_readClause_8 : decode cX1_readClause 8 = .ok (.istore_n 2, 1) := by decide +kernel
theorem dX1_readClause_9 : decode cX1_readClause 9 = .ok (.aload_n 0, 1) := by decide +kernel
theorem dX1_readClause_10 : decode cX1_readClause 10 = .ok (.invokevirtual 57, 3) := by decide +kernel
theorem dX1_readClause_13 : decode cX1_readClause 13 = .ok (.istore_n 3, 1) := by decide +kernel
theorem dX1_readClause_14 : decode cX1_readClause 14 = .ok (.iload_n 3, 1) := by decide +kernel
theorem dX1_readClause_15 : decode cX1_readClause 15 = .ok (.ifCond .lt 9, 3) := by decide +kernel
theorem dX1_readClause_18 : decode cX1_readClause 18 = .ok (.iload_n 3, 1) := by decide +kernel
theorem dX1_readClause_19 : decode cX1_readClause 19 = .ok (.bipush 6, 2) := by decide +kernel
theorem dX1_readClause_21 : decode cX1_readClause 21 = .ok (.if_icmp .lt 12, 3) := by decide +kernel
theorem dX1_readClause_24 : decode cX1_readClause 24 = .ok (.aload_n 0, 1) := by decide +kernel
theorem dX1_readClause_25 : decode cX1_readClause 25 = .ok (.iload_n 2, 1) := by decide +kernel
theorem dX1_readClause_26 : decode cX1_readClause 26 = .ok (.iconst 0, 1) := by decide +kernel
theorem dX1_readClause_27 : decode cX1_readClause 27 = .ok (.invokevirtual 53, 3) := by decide +kernel
theorem dX1_readClause_30 : decode cX1_readClause 30 = .ok (.goto 62, 3) := by decide +kernel
theorem dX1_readClause_33 : decode cX1_readClause 33 = .ok (.iload_n 3, 1) := by decide +kernel
theorem dX1_readClause_34 : decode cX1_readClause 34 = .ok (.ifCond .ne 15, 3) := by decide +kernel
theorem dX1_readClause_37 : decode cX1_readClause 37 = .ok (.aload_n 1, 1) := by decide +kernel
theorem dX1_readClause_38 : decode cX1_readClause 38 = .ok (.getfield 61, 3) := by decide +kernel
theorem dX1_readClause_41 : decode cX1_readClause 41 = .ok (.bipush 8, 2) := by decide +kernel
theorem dX1_readClause_43 : decode cX1_readClause 43 = .ok (.if_icmp .lt 24, 3) := by decide +kernel
theorem dX1_readClause_46 : decode cX1_readClause 46 = .ok (.goto 12, 3) := by decide +kernel
theorem dX1_readClause_49 : decode cX1_readClause 49 = .ok (.aload_n 0, 1) := by decide +kernel
theorem dX1_readClause_50 : decode cX1_readClause 50 = .ok (.getfield 18, 3) := by decide +kernel
theorem dX1_readClause_53 : decode cX1_readClause 53 = .ok (.iload_n 3, 1) := by decide +kernel
theorem dX1_readClause_54 : decode cX1_readClause 54 = .ok (.baload, 1) := by decide +kernel
theorem dX1_readClause_55 : decode cX1_readClause 55 = .ok (.ifCond .eq 12, 3) := by decide +kernel
theorem dX1_readClause_58 : decode cX1_readClause 58 = .ok (.aload_n 0, 1) := by decide +kernel
theorem dX1_readClause_59 : decode cX1_readClause 59 = .ok (.iload_n 2, 1) := by decide +kernel
theorem dX1_readClause_60 : decode cX1_readClause 60 = .ok (.iconst 2, 1) := by decide +kernel
theorem dX1_readClause_61 : decode cX1_readClause 61 = .ok (.invokevirtual 53, 3) := by decide +kernel
theorem dX1_readClause_64 : decode cX1_readClause 64 = .ok (.goto 28, 3) := by decide +kernel
theorem dX1_readClause_67 : decode cX1_readClause 67 = .ok (.iload_n 3, 1) := by decide +kernel
theorem dX1_readClause_68 : decode cX1_readClause 68 = .ok (.ifCond .ne 11, 3) := by decide +kernel
theorem dX1_readClause_71 : decode cX1_readClause 71 = .ok (.aload_n 0, 1) := by decide +kernel
theorem dX1_readClause_72 : decode cX1_readClause 72 = .ok (.aload_n 1, 1) := by decide +kernel
theorem dX1_readClause_73 : decode cX1_readClause 73 = .ok (.invokevirtual 64, 3) := by decide +kernel
theorem dX1_readClause_76 : decode cX1_readClause 76 = .ok (.goto 16, 3) := by decide +kernel
theorem dX1_readClause_79 : decode cX1_readClause 79 = .ok (.aload_n 0, 1) := by decide +kernel
theorem dX1_readClause_80 : decode cX1_readClause 80 = .ok (.getfield 18, 3) := by decide +kernel
theorem dX1_readClause_83 : decode cX1_readClause 83 = .ok (.iload_n 3, 1) := by decide +kernel
theorem dX1_readClause_84 : decode cX1_readClause 84 = .ok (.iconst 1, 1) := by decide +kernel
theorem dX1_readClause_85 : decode cX1_readClause 85 = .ok (.bastore, 1) := by decide +kernel
theorem dX1_readClause_86 : decode cX1_readClause 86 = .ok (.aload_n 0, 1) := by decide +kernel
theorem dX1_readClause_87 : decode cX1_readClause 87 = .ok (.iload_n 3, 1) := by decide +kernel
theorem dX1_readClause_88 : decode cX1_readClause 88 = .ok (.aload_n 1, 1) := by decide +kernel
theorem dX1_readClause_89 : decode cX1_readClause 89 = .ok (.invokevirtual 67, 3) := by decide +kernel
theorem dX1_readClause_92 : decode cX1_readClause 92 = .ok (.return_, 1) := by decide +kernel
theorem dX1_readFlow_0 : decode cX1_readFlow 0 = .ok (.aload_n 0, 1) := by decide +kernel
theorem dX1_readFlow_1 : decode cX1_readFlow 1 = .ok (.aload_n 1, 1) := by decide +kernel
theorem dX1_readFlow_2 : decode cX1_readFlow 2 = .ok (.invokevirtual 71, 3) := by decide +kernel
theorem dX1_readFlow_5 : decode cX1_readFlow 5 = .ok (.sipush 400, 3) := by decide +kernel
theorem dX1_readFlow_8 : decode cX1_readFlow 8 = .ok (.invokevirtual 74, 3) := by decide +kernel
theorem dX1_readFlow_11 : decode cX1_readFlow 11 = .ok (.istore_n 2, 1) := by decide +kernel
theorem dX1_readFlow_12 : decode cX1_readFlow 12 = .ok (.aload_n 0, 1) := by decide +kernel
theorem dX1_readFlow_13 : decode cX1_readFlow 13 = .ok (.getfield 15, 3) := by decide +kernel
theorem dX1_readFlow_16 : decode cX1_readFlow 16 = .ok (.ifCond .ne 14, 3) := by decide +kernel
theorem dX1_readFlow_19 : decode cX1_readFlow 19 = .ok (.aload_n 0, 1) := by decide +kernel
theorem dX1_readFlow_20 : decode cX1_readFlow 20 = .ok (.iconst 0, 1) := by decide +kernel
theorem dX1_readFlow_21 : decode cX1_readFlow 21 = .ok (.sipush 500, 3) := by decide +kernel
theorem dX1_readFlow_24 : decode cX1_readFlow 24 = .ok (.invokevirtual 74, 3) := by decide +kernel
theorem dX1_readFlow_27 : decode cX1_readFlow 27 = .ok (.goto 4, 3) := by decide +kernel
theorem dX1_readFlow_30 : decode cX1_readFlow 30 = .ok (.iconst 0, 1) := by decide +kernel
theorem dX1_readFlow_31 : decode cX1_readFlow 31 = .ok (.istore_n 3, 1) := by decide +kernel
theorem dX1_readFlow_32 : decode cX1_readFlow 32 = .ok (.aload_n 0, 1) := by decide +kernel
theorem dX1_readFlow_33 : decode cX1_readFlow 33 = .ok (.getfield 15, 3) := by decide +kernel
theorem dX1_readFlow_36 : decode cX1_readFlow 36 = .ok (.ifCond .ne 9, 3) := by decide +kernel
theorem dX1_readFlow_39 : decode cX1_readFlow 39 = .ok (.aload_n 1, 1) := by decide +kernel
theorem dX1_readFlow_40 : decode cX1_readFlow 40 = .ok (.iload_n 2, 1) := by decide +kernel
theorem dX1_readFlow_41 : decode cX1_readFlow 41 = .ok (.iload_n 3, 1) := by decide +kernel
theorem dX1_readFlow_42 : decode cX1_readFlow 42 = .ok (.invokevirtual 78, 3) := by decide +kernel
theorem dX1_readFlow_45 : decode cX1_readFlow 45 = .ok (.return_, 1) := by decide +kernel
theorem dX1_readInto_0 : decode cX1_readInto 0 = .ok (.aload_n 0, 1) := by decide +kernel
theorem dX1_readInto_1 : decode cX1_readInto 1 = .ok (.aload_n 1, 1) := by decide +kernel
theorem dX1_readInto_2 : decode cX1_readInto 2 = .ok (.invokevirtual 26, 3) := by decide +kernel
theorem dX1_readInto_5 : decode cX1_readInto 5 = .ok (.iconst 0, 1) := by decide +kernel
theorem dX1_readInto_6 : decode cX1_readInto 6 = .ok (.istore_n 2, 1) := by decide +kernel
theorem dX1_readInto_7 : decode cX1_readInto 7 = .ok (.aload_n 0, 1) := by decide +kernel
theorem dX1_readInto_8 : decode cX1_readInto 8 = .ok (.invokevirtual 30, 3) := by decide +kernel
theorem dX1_readInto_11 : decode cX1_readInto 11 = .ok (.ifCond .ne 7, 3) := by decide +kernel
theorem dX1_readInto_14 : decode cX1_readInto 14 = .ok (.iconst 1, 1) := by decide +kernel
theorem dX1_readInto_15 : decode cX1_readInto 15 = .ok (.goto 4, 3) := by decide +kernel
theorem dX1_readInto_18 : decode cX1_readInto 18 = .ok (.iconst 0, 1) := by decide +kernel
theorem dX1_readInto_19 : decode cX1_readInto 19 = .ok (.istore_n 3, 1) := by decide +kernel
theorem dX1_readInto_20 : decode cX1_readInto 20 = .ok (.iconst 0, 1) := by decide +kernel
theorem dX1_readInto_21 : decode cX1_readInto 21 = .ok (.istore 4, 2) := by decide +kernel
theorem dX1_readInto_23 : decode cX1_readInto 23 = .ok (.iload 4, 2) := by decide +kernel
theorem dX1_readInto_25 : decode cX1_readInto 25 = .ok (.sipush 200, 3) := by decide +kernel
theorem dX1_readInto_28 : decode cX1_readInto 28 = .ok (.if_icmp .ge 48, 3) := by decide +kernel
theorem dX1_readInto_31 : decode cX1_readInto 31 = .ok (.iload_n 3, 1) := by decide +kernel
theorem dX1_readInto_32 : decode cX1_readInto 32 = .ok (.ifCond .eq 44, 3) := by decide +kernel
theorem dX1_readInto_35 : decode cX1_readInto 35 = .ok (.aload_n 0, 1) := by decide +kernel
theorem dX1_readInto_36 : decode cX1_readInto 36 = .ok (.aload_n 1, 1) := by decide +kernel
theorem dX1_readInto_37 : decode cX1_readInto 37 = .ok (.invokevirtual 34, 3) := by decide +kernel
theorem dX1_readInto_40 : decode cX1_readInto 40 = .ok (.iinc 2 1, 3) := by decide +kernel
theorem dX1_readInto_43 : decode cX1_readInto 43 = .ok (.aload_n 0, 1) := by decide +kernel
theorem dX1_readInto_44 : decode cX1_readInto 44 = .ok (.getfield 15, 3) := by decide +kernel
theorem dX1_readInto_47 : decode cX1_readInto 47 = .ok (.ifCond .ne 21, 3) := by decide +kernel
theorem dX1_readInto_50 : decode cX1_readInto 50 = .ok (.aload_n 0, 1) := by decide +kernel
theorem dX1_readInto_51 : decode cX1_readInto 51 = .ok (.invokevirtual 30, 3) := by decide +kernel
theorem dX1_readInto_54 : decode cX1_readInto 54 = .ok (.ifCond .ne 14, 3) := by decide +kernel
theorem dX1_readInto_57 : decode cX1_readInto 57 = .ok (.aload_n 0, 1) := by decide +kernel
theorem dX1_readInto_58 : decode cX1_readInto 58 = .ok (.invokevirtual 37, 3) := by decide +kernel
theorem dX1_readInto_61 : decode cX1_readInto 61 = .ok (.ifCond .eq 7, 3) := by decide +kernel
theorem dX1_readInto_64 : decode cX1_readInto 64 = .ok (.iconst 1, 1) := by decide +kernel
theorem dX1_readInto_65 : decode cX1_readInto 65 = .ok (.goto 4, 3) := by decide +kernel
theorem dX1_readInto_68 : decode cX1_readInto 68 = .ok (.iconst 0, 1) := by decide +kernel
theorem dX1_readInto_69 : decode cX1_readInto 69 = .ok (.istore_n 3, 1) := by decide +kernel
theorem dX1_readInto_70 : decode cX1_readInto 70 = .ok (.iinc 4 1, 3) := by decide +kernel
theorem dX1_readInto_73 : decode cX1_readInto 73 = .ok (.goto (-50), 3) := by decide +kernel
theorem dX1_readInto_76 : decode cX1_readInto 76 = .ok (.aload_n 0, 1) := by decide +kernel
theorem dX1_readInto_77 : decode cX1_readInto 77 = .ok (.getfield 15, 3) := by decide +kernel
theorem dX1_readInto_80 : decode cX1_readInto 80 = .ok (.ifCond .ne 7, 3) := by decide +kernel
theorem dX1_readInto_83 : decode cX1_readInto 83 = .ok (.iload_n 2, 1) := by decide +kernel
theorem dX1_readInto_84 : decode cX1_readInto 84 = .ok (.goto 10, 3) := by decide +kernel
theorem dX1_readInto_87 : decode cX1_readInto 87 = .ok (.bipush (-2), 2) := by decide +kernel
theorem dX1_readInto_89 : decode cX1_readInto 89 = .ok (.aload_n 0, 1) := by decide +kernel
theorem dX1_readInto_90 : decode cX1_readInto 90 = .ok (.getfield 15, 3) := by decide +kernel
theorem dX1_readInto_93 : decode cX1_readInto 93 = .ok (.isub, 1) := by decide +kernel
theorem dX1_readInto_94 : decode cX1_readInto 94 = .ok (.ireturn, 1) := by decide +kernel
theorem dX1_readNumber_0 : decode cX1_readNumber 0 = .ok (.aload_n 0, 1) := by decide +kernel
theorem dX1_readNumber_1 : decode cX1_readNumber 1 = .ok (.invokevirtual 45, 3) := by decide +kernel
theorem dX1_readNumber_4 : decode cX1_readNumber 4 = .ok (.aload_n 0, 1) := by decide +kernel
theorem dX1_readNumber_5 : decode cX1_readNumber 5 = .ok (.getfield 9, 3) := by decide +kernel
theorem dX1_readNumber_8 : decode cX1_readNumber 8 = .ok (.istore_n 3, 1) := by decide +kernel
theorem dX1_readNumber_9 : decode cX1_readNumber 9 = .ok (.iconst 0, 1) := by decide +kernel
theorem dX1_readNumber_10 : decode cX1_readNumber 10 = .ok (.istore 4, 2) := by decide +kernel
theorem dX1_readNumber_12 : decode cX1_readNumber 12 = .ok (.iconst 0, 1) := by decide +kernel
theorem dX1_readNumber_13 : decode cX1_readNumber 13 = .ok (.istore 5, 2) := by decide +kernel
theorem dX1_readNumber_15 : decode cX1_readNumber 15 = .ok (.iload 5, 2) := by decide +kernel
theorem dX1_readNumber_17 : decode cX1_readNumber 17 = .ok (.sipush 200, 3) := by decide +kernel
theorem dX1_readNumber_20 : decode cX1_readNumber 20 = .ok (.if_icmp .ge 73, 3) := by decide +kernel
theorem dX1_readNumber_23 : decode cX1_readNumber 23 = .ok (.aload_n 0, 1) := by decide +kernel
theorem dX1_readNumber_24 : decode cX1_readNumber 24 = .ok (.getfield 22, 3) := by decide +kernel
theorem dX1_readNumber_27 : decode cX1_readNumber 27 = .ok (.aload_n 0, 1) := by decide +kernel
theorem dX1_readNumber_28 : decode cX1_readNumber 28 = .ok (.getfield 9, 3) := by decide +kernel
theorem dX1_readNumber_31 : decode cX1_readNumber 31 = .ok (.invokevirtual 48, 3) := by decide +kernel
theorem dX1_readNumber_34 : decode cX1_readNumber 34 = .ok (.bipush 48, 2) := by decide +kernel
theorem dX1_readNumber_36 : decode cX1_readNumber 36 = .ok (.bipush 57, 2) := by decide +kernel
theorem dX1_readNumber_38 : decode cX1_readNumber 38 = .ok (.invokestatic 96, 3) := by decide +kernel
theorem dX1_readNumber_41 : decode cX1_readNumber 41 = .ok (.ifCond .eq 52, 3) := by decide +kernel
theorem dX1_readNumber_44 : decode cX1_readNumber 44 = .ok (.iload 5, 2) := by decide +kernel
theorem dX1_readNumber_46 : decode cX1_readNumber 46 = .ok (.iconst 3, 1) := by decide +kernel
theorem dX1_readNumber_47 : decode cX1_readNumber 47 = .ok (.if_icmp .ge 26, 3) := by decide +kernel
theorem dX1_readNumber_50 : decode cX1_readNumber 50 = .ok (.iload 4, 2) := by decide +kernel
theorem dX1_readNumber_52 : decode cX1_readNumber 52 = .ok (.bipush 10, 2) := by decide +kernel
theorem dX1_readNumber_54 : decode cX1_readNumber 54 = .ok (.imul, 1) := by decide +kernel
theorem dX1_readNumber_55 : decode cX1_readNumber 55 = .ok (.aload_n 0, 1) := by decide +kernel
theorem dX1_readNumber_56 : decode cX1_readNumber 56 = .ok (.getfield 22, 3) := by decide +kernel
theorem dX1_readNumber_59 : decode cX1_readNumber 59 = .ok (.aload_n 0, 1) := by decide +kernel
theorem dX1_readNumber_60 : decode cX1_readNumber 60 = .ok (.getfield 9, 3) := by decide +kernel
theorem dX1_readNumber_63 : decode cX1_readNumber 63 = .ok (.invokevirtual 48, 3) := by decide +kernel
theorem dX1_readNumber_66 : decode cX1_readNumber 66 = .ok (.iadd, 1) := by decide +kernel
theorem dX1_readNumber_67 : decode cX1_readNumber 67 = .ok (.bipush 48, 2) := by decide +kernel
theorem dX1_readNumber_69 : decode cX1_readNumber 69 = .ok (.isub, 1) := by decide +kernel
theorem dX1_readNumber_70 : decode cX1_readNumber 70 = .ok (.goto 5, 3) := by decide +kernel
theorem dX1_readNumber_73 : decode cX1_readNumber 73 = .ok (.iload 4, 2) := by decide +kernel
theorem dX1_readNumber_75 : decode cX1_readNumber 75 = .ok (.istore 4, 2) := by decide +kernel
theorem dX1_readNumber_77 : decode cX1_readNumber 77 = .ok (.aload_n 0, 1) := by decide +kernel
theorem dX1_readNumber_78 : decode cX1_readNumber 78 = .ok (.dup, 1) := by decide +kernel
theorem dX1_readNumber_79 : decode cX1_readNumber 79 = .ok (.getfield 9, 3) := by decide +kernel
theorem dX1_readNumber_82 : decode cX1_readNumber 82 = .ok (.iconst 1, 1) := by decide +kernel
theorem dX1_readNumber_83 : decode cX1_readNumber 83 = .ok (.iadd, 1) := by decide +kernel
theorem dX1_readNumber_84 : decode cX1_readNumber 84 = .ok (.putfield 9, 3) := by decide +kernel
theorem dX1_readNumber_87 : decode cX1_readNumber 87 = .ok (.iinc 5 1, 3) := by decide +kernel
theorem dX1_readNumber_90 : decode cX1_readNumber 90 = .ok (.goto (-75), 3) := by decide +kernel
theorem dX1_readNumber_93 : decode cX1_readNumber 93 = .ok (.aload_n 0, 1) := by decide +kernel
theorem dX1_readNumber_94 : decode cX1_readNumber 94 = .ok (.getfield 9, 3) := by decide +kernel
theorem dX1_readNumber_97 : decode cX1_readNumber 97 = .ok (.iload_n 3, 1) := by decide +kernel
theorem dX1_readNumber_98 : decode cX1_readNumber 98 = .ok (.if_icmp .ne 12, 3) := by decide +kernel
theorem dX1_readNumber_101 : decode cX1_readNumber 101 = .ok (.aload_n 0, 1) := by decide +kernel
theorem dX1_readNumber_102 : decode cX1_readNumber 102 = .ok (.iload_n 3, 1) := by decide +kernel
theorem dX1_readNumber_103 : decode cX1_readNumber 103 = .ok (.iconst 0, 1) := by decide +kernel
theorem dX1_readNumber_104 : decode cX1_readNumber 104 = .ok (.invokevirtual 53, 3) := by decide +kernel
theorem dX1_readNumber_107 : decode cX1_readNumber 107 = .ok (.goto 29, 3) := by decide +kernel
theorem dX1_readNumber_110 : decode cX1_readNumber 110 = .ok (.aload_n 0, 1) := by decide +kernel
theorem dX1_readNumber_111 : decode cX1_readNumber 111 = .ok (.getfield 9, 3) := by decide +kernel
theorem dX1_readNumber_114 : decode cX1_readNumber 114 = .ok (.iload_n 3, 1) := by decide +kernel
theorem dX1_readNumber_115 : decode cX1_readNumber 115 = .ok (.isub, 1) := by decide +kernel
theorem dX1_readNumber_116 : decode cX1_readNumber 116 = .ok (.iconst 3, 1) := by decide +kernel
theorem dX1_readNumber_117 : decode cX1_readNumber 117 = .ok (.if_icmp .gt 13, 3) := by decide +kernel
theorem dX1_readNumber_120 : decode cX1_readNumber 120 = .ok (.iload 4, 2) := by decide +kernel
theorem dX1_readNumber_122 : decode cX1_readNumber 122 = .ok (.iload_n 1, 1) := by decide +kernel
theorem dX1_readNumber_123 : decode cX1_readNumber 123 = .ok (.iload_n 2, 1) := by decide +kernel
theorem dX1_readNumber_124 : decode cX1_readNumber 124 = .ok (.invokestatic 125, 3) := by decide +kernel
theorem dX1_readNumber_127 : decode cX1_readNumber 127 = .ok (.ifCond .ne 9, 3) := by decide +kernel
theorem dX1_readNumber_130 : decode cX1_readNumber 130 = .ok (.aload_n 0, 1) := by decide +kernel
theorem dX1_readNumber_131 : decode cX1_readNumber 131 = .ok (.iload_n 3, 1) := by decide +kernel
theorem dX1_readNumber_132 : decode cX1_readNumber 132 = .ok (.iconst 1, 1) := by decide +kernel
theorem dX1_readNumber_133 : decode cX1_readNumber 133 = .ok (.invokevirtual 53, 3) := by decide +kernel
theorem dX1_readNumber_136 : decode cX1_readNumber 136 = .ok (.iload 4, 2) := by decide +kernel
theorem dX1_readNumber_138 : decode cX1_readNumber 138 = .ok (.ireturn, 1) := by decide +kernel
theorem dX1_readSetting_0 : decode cX1_readSetting 0 = .ok (.iload_n 1, 1) := by decide +kernel
theorem dX1_readSetting_1 : decode cX1_readSetting 1 = .ok (.tableswitch 89 1 4 #[31, 45, 59, 74], 31) := by decide +kernel
theorem dX1_readSetting_32 : decode cX1_readSetting 32 = .ok (.aload_n 2, 1) := by decide +kernel
theorem dX1_readSetting_33 : decode cX1_readSetting 33 = .ok (.aload_n 0, 1) := by decide +kernel
theorem dX1_readSetting_34 : decode cX1_readSetting 34 = .ok (.iconst 0, 1) := by decide +kernel
theorem dX1_readSetting_35 : decode cX1_readSetting 35 = .ok (.bipush 100, 2) := by decide +kernel
theorem dX1_readSetting_37 : decode cX1_readSetting 37 = .ok (.invokevirtual 74, 3) := by decide +kernel
theorem dX1_readSetting_40 : decode cX1_readSetting 40 = .ok (.putfield 81, 3) := by decide +kernel
theorem dX1_readSetting_43 : decode cX1_readSetting 43 = .ok (.goto 59, 3) := by decide +kernel
theorem dX1_readSetting_46 : decode cX1_readSetting 46 = .ok (.aload_n 2, 1) := by decide +kernel
theorem dX1_readSetting_47 : decode cX1_readSetting 47 = .ok (.aload_n 0, 1) := by decide +kernel
theorem dX1_readSetting_48 : decode cX1_readSetting 48 = .ok (.iconst 1, 1) := by decide +kernel
theorem dX1_readSetting_49 : decode cX1_readSetting 49 = .ok (.bipush 100, 2) := by decide +kernel
theorem dX1_readSetting_51 : decode cX1_readSetting 51 = .ok (.invokevirtual 74, 3) := by decide +kernel
theorem dX1_readSetting_54 : decode cX1_readSetting 54 = .ok (.putfield 84, 3) := by decide +kernel
theorem dX1_readSetting_57 : decode cX1_readSetting 57 = .ok (.goto 45, 3) := by decide +kernel
theorem dX1_readSetting_60 : decode cX1_readSetting 60 = .ok (.aload_n 2, 1) := by decide +kernel
theorem dX1_readSetting_61 : decode cX1_readSetting 61 = .ok (.aload_n 0, 1) := by decide +kernel
theorem dX1_readSetting_62 : decode cX1_readSetting 62 = .ok (.iconst 0, 1) := by decide +kernel
theorem dX1_readSetting_63 : decode cX1_readSetting 63 = .ok (.sipush 200, 3) := by decide +kernel
theorem dX1_readSetting_66 : decode cX1_readSetting 66 = .ok (.invokevirtual 74, 3) := by decide +kernel
theorem dX1_readSetting_69 : decode cX1_readSetting 69 = .ok (.putfield 87, 3) := by decide +kernel
theorem dX1_readSetting_72 : decode cX1_readSetting 72 = .ok (.goto 30, 3) := by decide +kernel
theorem dX1_readSetting_75 : decode cX1_readSetting 75 = .ok (.aload_n 2, 1) := by decide +kernel
theorem dX1_readSetting_76 : decode cX1_readSetting 76 = .ok (.aload_n 0, 1) := by decide +kernel
theorem dX1_readSetting_77 : decode cX1_readSetting 77 = .ok (.iconst 0, 1) := by decide +kernel
theorem dX1_readSetting_78 : decode cX1_readSetting 78 = .ok (.sipush 500, 3) := by decide +kernel
theorem dX1_readSetting_81 : decode cX1_readSetting 81 = .ok (.invokevirtual 74, 3) := by decide +kernel
theorem dX1_readSetting_84 : decode cX1_readSetting 84 = .ok (.putfield 90, 3) := by decide +kernel
theorem dX1_readSetting_87 : decode cX1_readSetting 87 = .ok (.goto 15, 3) := by decide +kernel
theorem dX1_readSetting_90 : decode cX1_readSetting 90 = .ok (.aload_n 2, 1) := by decide +kernel
theorem dX1_readSetting_91 : decode cX1_readSetting 91 = .ok (.aload_n 0, 1) := by decide +kernel
theorem dX1_readSetting_92 : decode cX1_readSetting 92 = .ok (.iconst 1, 1) := by decide +kernel
theorem dX1_readSetting_93 : decode cX1_readSetting 93 = .ok (.sipush 500, 3) := by decide +kernel
theorem dX1_readSetting_96 : decode cX1_readSetting 96 = .ok (.invokevirtual 74, 3) := by decide +kernel
theorem dX1_readSetting_99 : decode cX1_readSetting 99 = .ok (.putfield 93, 3) := by decide +kernel
theorem dX1_readSetting_102 : decode cX1_readSetting 102 = .ok (.return_, 1) := by decide +kernel
theorem dX1_readWord_0 : decode cX1_readWord 0 = .ok (.aload_n 0, 1) := by decide +kernel
theorem dX1_readWord_1 : decode cX1_readWord 1 = .ok (.getfield 9, 3) := by decide +kernel
theorem dX1_readWord_4 : decode cX1_readWord 4 = .ok (.istore_n 1, 1) := by decide +kernel
theorem dX1_readWord_5 : decode cX1_readWord 5 = .ok (.iconst 0, 1) := by decide +kernel
theorem dX1_readWord_6 : decode cX1_readWord 6 = .ok (.istore_n 2, 1) := by decide +kernel
theorem dX1_readWord_7 : decode cX1_readWord 7 = .ok (.iload_n 2, 1) := by decide +kernel
theorem dX1_readWord_8 : decode cX1_readWord 8 = .ok (.sipush 200, 3) := by decide +kernel
theorem dX1_readWord_11 : decode cX1_readWord 11 = .ok (.if_icmp .ge 40, 3) := by decide +kernel
theorem dX1_readWord_14 : decode cX1_readWord 14 = .ok (.aload_n 0, 1) := by decide +kernel
theorem dX1_readWord_15 : decode cX1_readWord 15 = .ok (.getfield 22, 3) := by decide +kernel
theorem dX1_readWord_18 : decode cX1_readWord 18 = .ok (.aload_n 0, 1) := by decide +kernel
theorem dX1_readWord_19 : decode cX1_readWord 19 = .ok (.getfield 9, 3) := by decide +kernel
theorem dX1_readWord_22 : decode cX1_readWord 22 = .ok (.invokevirtual 48, 3) := by decide +kernel
theorem dX1_readWord_25 : decode cX1_readWord 25 = .ok (.bipush 97, 2) := by decide +kernel
theorem dX1_readWord_27 : decode cX1_readWord 27 = .ok (.bipush 122, 2) := by decide +kernel
theorem dX1_readWord_29 : decode cX1_readWord 29 = .ok (.invokestatic 96, 3) := by decide +kernel
theorem dX1_readWord_32 : decode cX1_readWord 32 = .ok (.ifCond .eq 19, 3) := by decide +kernel
theorem dX1_readWord_35 : decode cX1_readWord 35 = .ok (.aload_n 0, 1) := by decide +kernel
theorem dX1_readWord_36 : decode cX1_readWord 36 = .ok (.dup, 1) := by decide +kernel
theorem dX1_readWord_37 : decode cX1_readWord 37 = .ok (.getfield 9, 3) := by decide +kernel
theorem dX1_readWord_40 : decode cX1_readWord 40 = .ok (.iconst 1, 1) := by decide +kernel
theorem dX1_readWord_41 : decode cX1_readWord 41 = .ok (.iadd, 1) := by decide +kernel
theorem dX1_readWord_42 : decode cX1_readWord 42 = .ok (.putfield 9, 3) := by decide +kernel
theorem dX1_readWord_45 : decode cX1_readWord 45 = .ok (.iinc 2 1, 3) := by decide +kernel
theorem dX1_readWord_48 : decode cX1_readWord 48 = .ok (.goto (-41), 3) := by decide +kernel
theorem dX1_readWord_51 : decode cX1_readWord 51 = .ok (.iconst 0, 1) := by decide +kernel
theorem dX1_readWord_52 : decode cX1_readWord 52 = .ok (.istore_n 2, 1) := by decide +kernel
theorem dX1_readWord_53 : decode cX1_readWord 53 = .ok (.iload_n 2, 1) := by decide +kernel
theorem dX1_readWord_54 : decode cX1_readWord 54 = .ok (.bipush 6, 2) := by decide +kernel
theorem dX1_readWord_56 : decode cX1_readWord 56 = .ok (.if_icmp .ge 23, 3) := by decide +kernel
theorem dX1_readWord_59 : decode cX1_readWord 59 = .ok (.aload_n 0, 1) := by decide +kernel
theorem dX1_readWord_60 : decode cX1_readWord 60 = .ok (.iload_n 2, 1) := by decide +kernel
theorem dX1_readWord_61 : decode cX1_readWord 61 = .ok (.invokestatic 100, 3) := by decide +kernel
theorem dX1_readWord_64 : decode cX1_readWord 64 = .ok (.iload_n 1, 1) := by decide +kernel
theorem dX1_readWord_65 : decode cX1_readWord 65 = .ok (.invokevirtual 104, 3) := by decide +kernel
theorem dX1_readWord_68 : decode cX1_readWord 68 = .ok (.ifCond .eq 5, 3) := by decide +kernel
theorem dX1_readWord_71 : decode cX1_readWord 71 = .ok (.iload_n 2, 1) := by decide +kernel
theorem dX1_readWord_72 : decode cX1_readWord 72 = .ok (.ireturn, 1) := by decide +kernel
theorem dX1_readWord_73 : decode cX1_readWord 73 = .ok (.iinc 2 1, 3) := by decide +kernel
theorem dX1_readWord_76 : decode cX1_readWord 76 = .ok (.goto (-23), 3) := by decide +kernel
theorem dX1_readWord_79 : decode cX1_readWord 79 = .ok (.iconst (-1), 1) := by decide +kernel
theorem dX1_readWord_80 : decode cX1_readWord 80 = .ok (.ireturn, 1) := by decide +kernel
theorem dX1_skipBlanks_0 : decode cX1_skipBlanks 0 = .ok (.iconst 0, 1) := by decide +kernel
theorem dX1_skipBlanks_1 : decode cX1_skipBlanks 1 = .ok (.istore_n 1, 1) := by decide +kernel
theorem dX1_skipBlanks_2 : decode cX1_skipBlanks 2 = .ok (.iload_n 1, 1) := by decide +kernel
theorem dX1_skipBlanks_3 : decode cX1_skipBlanks 3 = .ok (.sipush 200, 3) := by decide +kernel
theorem dX1_skipBlanks_6 : decode cX1_skipBlanks 6 = .ok (.if_icmp .ge 35, 3) := by decide +kernel
theorem dX1_skipBlanks_9 : decode cX1_skipBlanks 9 = .ok (.aload_n 0, 1) := by decide +kernel
theorem dX1_skipBlanks_10 : decode cX1_skipBlanks 10 = .ok (.getfield 22, 3) := by decide +kernel
theorem dX1_skipBlanks_13 : decode cX1_skipBlanks 13 = .ok (.aload_n 0, 1) := by decide +kernel
theorem dX1_skipBlanks_14 : decode cX1_skipBlanks 14 = .ok (.getfield 9, 3) := by decide +kernel
theorem dX1_skipBlanks_17 : decode cX1_skipBlanks 17 = .ok (.invokevirtual 48, 3) := by decide +kernel
theorem dX1_skipBlanks_20 : decode cX1_skipBlanks 20 = .ok (.bipush 32, 2) := by decide +kernel
theorem dX1_skipBlanks_22 : decode cX1_skipBlanks 22 = .ok (.if_icmp .ne 19, 3) := by decide +kernel
theorem dX1_skipBlanks_25 : decode cX1_skipBlanks 25 = .ok (.aload_n 0, 1) := by decide +kernel
theorem dX1_skipBlanks_26 : decode cX1_skipBlanks 26 = .ok (.dup, 1) := by decide +kernel
theorem dX1_skipBlanks_27 : decode cX1_skipBlanks 27 = .ok (.getfield 9, 3) := by decide +kernel
theorem dX1_skipBlanks_30 : decode cX1_skipBlanks 30 = .ok (.iconst 1, 1) := by decide +kernel
theorem dX1_skipBlanks_31 : decode cX1_skipBlanks 31 = .ok (.iadd, 1) := by decide +kernel
theorem dX1_skipBlanks_32 : decode cX1_skipBlanks 32 = .ok (.putfield 9, 3) := by decide +kernel
theorem dX1_skipBlanks_35 : decode cX1_skipBlanks 35 = .ok (.iinc 1 1, 3) := by decide +kernel
theorem dX1_skipBlanks_38 : decode cX1_skipBlanks 38 = .ok (.goto (-36), 3) := by decide +kernel
theorem dX1_skipBlanks_41 : decode cX1_skipBlanks 41 = .ok (.return_, 1) := by decide +kernel
theorem dX1_takesSemicolon_0 : decode cX1_takesSemicolon 0 = .ok (.aload_n 0, 1) := by decide +kernel
theorem dX1_takesSemicolon_1 : decode cX1_takesSemicolon 1 = .ok (.getfield 22, 3) := by decide +kernel
theorem dX1_takesSemicolon_4 : decode cX1_takesSemicolon 4 = .ok (.aload_n 0, 1) := by decide +kernel
theorem dX1_takesSemicolon_5 : decode cX1_takesSemicolon 5 = .ok (.getfield 9, 3) := by decide +kernel
theorem dX1_takesSemicolon_8 : decode cX1_takesSemicolon 8 = .ok (.invokevirtual 48, 3) := by decide +kernel
theorem dX1_takesSemicolon_11 : decode cX1_takesSemicolon 11 = .ok (.bipush 59, 2) := by decide +kernel
theorem dX1_takesSemicolon_13 : decode cX1_takesSemicolon 13 = .ok (.if_icmp .eq 14, 3) := by decide +kernel
theorem dX1_takesSemicolon_16 : decode cX1_takesSemicolon 16 = .ok (.aload_n 0, 1) := by decide +kernel
theorem dX1_takesSemicolon_17 : decode cX1_takesSemicolon 17 = .ok (.aload_n 0, 1) := by decide +kernel
theorem dX1_takesSemicolon_18 : decode cX1_takesSemicolon 18 = .ok (.getfield 9, 3) := by decide +kernel
theorem dX1_takesSemicolon_21 : decode cX1_takesSemicolon 21 = .ok (.iconst 0, 1) := by decide +kernel
theorem dX1_takesSemicolon_22 : decode cX1_takesSemicolon 22 = .ok (.invokevirtual 53, 3) := by decide +kernel
theorem dX1_takesSemicolon_25 : decode cX1_takesSemicolon 25 = .ok (.iconst 0, 1) := by decide +kernel
theorem dX1_takesSemicolon_26 : decode cX1_takesSemicolon 26 = .ok (.ireturn, 1) := by decide +kernel
theorem dX1_takesSemicolon_27 : decode cX1_takesSemicolon 27 = .ok (.aload_n 0, 1) := by decide +kernel
theorem dX1_takesSemicolon_28 : decode cX1_takesSemicolon 28 = .ok (.dup, 1) := by decide +kernel
theorem dX1_takesSemicolon_29 : decode cX1_takesSemicolon 29 = .ok (.getfield 9, 3) := by decide +kernel
theorem dX1_takesSemicolon_32 : decode cX1_takesSemicolon 32 = .ok (.iconst 1, 1) := by decide +kernel
theorem dX1_takesSemicolon_33 : decode cX1_takesSemicolon 33 = .ok (.iadd, 1) := by decide +kernel
theorem dX1_takesSemicolon_34 : decode cX1_takesSemicolon 34 = .ok (.putfield 9, 3) := by decide +kernel
theorem dX1_takesSemicolon_37 : decode cX1_takesSemicolon 37 = .ok (.iconst 1, 1) := by decide +kernel
theorem dX1_takesSemicolon_38 : decode cX1_takesSemicolon 38 = .ok (.ireturn, 1) := by decide +kernel
theorem dX1_wordText_0 : decode cX1_wordText 0 = .ok (.iload_n 0, 1) := by decide +kernel
theorem dX1_wordText_1 : decode cX1_wordText 1 = .ok (.tableswitch 50 0 4 #[35, 38, 41, 44, 47], 35) := by decide +kernel
theorem dX1_wordText_36 : decode cX1_wordText 36 = .ok (.ldc 117, 2) := by decide +kernel
theorem dX1_wordText_38 : decode cX1_wordText 38 = .ok (.areturn, 1) := by decide +kernel
theorem dX1_wordText_39 : decode cX1_wordText 39 = .ok (.ldc 119, 2) := by decide +kernel
theorem dX1_wordText_41 : decode cX1_wordText 41 = .ok (.areturn, 1) := by decide +kernel
theorem dX1_wordText_42 : decode cX1_wordText 42 = .ok (.ldc 120, 2) := by decide +kernel
theorem dX1_wordText_44 : decode cX1_wordText 44 = .ok (.areturn, 1) := by decide +kernel
theorem dX1_wordText_45 : decode cX1_wordText 45 = .ok (.ldc 121, 2) := by decide +kernel
theorem dX1_wordText_47 : decode cX1_wordText 47 = .ok (.areturn, 1) := by decide +kernel
theorem dX1_wordText_48 : decode cX1_wordText 48 = .ok (.ldc 122, 2) := by decide +kernel
theorem dX1_wordText_50 : decode cX1_wordText 50 = .ok (.areturn, 1) := by decide +kernel
theorem dX1_wordText_51 : decode cX1_wordText 51 = .ok (.ldc 123, 2) := by decide +kernel
theorem dX1_wordText_53 : decode cX1_wordText 53 = .ok (.areturn, 1) := by decide +kernel
theorem dX2_answer_0 : decode cX2_answer 0 = .ok (.iload_n 1, 1) := by decide +kernel
theorem dX2_answer_1 : decode cX2_answer 1 = .ok (.tableswitch 99 0 7 #[47, 52, 57, 62, 67, 84, 89, 94], 47) := by decide +kernel
theorem dX2_answer_48 : decode cX2_answer 48 = .ok (.aload_n 0, 1) := by decide +kernel
theorem dX2_answer_49 : decode cX2_answer 49 = .ok (.getfield 24, 3) := by decide +kernel
theorem dX2_answer_52 : decode cX2_answer 52 = .ok (.ireturn, 1) := by decide +kernel
theorem dX2_answer_53 : decode cX2_answer 53 = .ok (.aload_n 0, 1) := by decide +kernel
theorem dX2_answer_54 : decode cX2_answer 54 = .ok (.getfield 15, 3) := by decide +kernel
theorem dX2_answer_57 : decode cX2_answer 57 = .ok (.ireturn, 1) := by decide +kernel
theorem dX2_answer_58 : decode cX2_answer 58 = .ok (.aload_n 0, 1) := by decide +kernel
theorem dX2_answer_59 : decode cX2_answer 59 = .ok (.invokevirtual 48, 3) := by decide +kernel
theorem dX2_answer_62 : decode cX2_answer 62 = .ok (.ireturn, 1) := by decide +kernel
theorem dX2_answer_63 : decode cX2_answer 63 = .ok (.aload_n 0, 1) := by decide +kernel
theorem dX2_answer_64 : decode cX2_answer 64 = .ok (.getfield 21, 3) := by decide +kernel
theorem dX2_answer_67 : decode cX2_answer 67 = .ok (.ireturn, 1) := by decide +kernel
theorem dX2_answer_68 : decode cX2_answer 68 = .ok (.aload_n 0, 1) := by decide +kernel
theorem dX2_answer_69 : decode cX2_answer 69 = .ok (.getfield 24, 3) := by decide +kernel
theorem dX2_answer_72 : decode cX2_answer 72 = .ok (.iconst 1, 1) := by decide +kernel
theorem dX2_answer_73 : decode cX2_answer 73 = .ok (.if_icmp .ne 10, 3) := by decide +kernel
theorem dX2_answer_76 : decode cX2_answer 76 = .ok (.aload_n 0, 1) := by decide +kernel
theorem dX2_answer_77 : decode cX2_answer 77 = .ok (.getfield 27, 3) := by decide +kernel
theorem dX2_answer_80 : decode cX2_answer 80 = .ok (.goto 4, 3) := by decide +kernel
theorem dX2_answer_83 : decode cX2_answer 83 = .ok (.iconst (-1), 1) := by decide +kernel
theorem dX2_answer_84 : decode cX2_answer 84 = .ok (.ireturn, 1) := by decide +kernel
theorem dX2_answer_85 : decode cX2_answer 85 = .ok (.aload_n 0, 1) := by decide +kernel
theorem dX2_answer_86 : decode cX2_answer 86 = .ok (.getfield 30, 3) := by decide +kernel
theorem dX2_answer_89 : decode cX2_answer 89 = .ok (.ireturn, 1) := by decide +kernel
theorem dX2_answer_90 : decode cX2_answer 90 = .ok (.aload_n 0, 1) := by decide +kernel
theorem dX2_answer_91 : decode cX2_answer 91 = .ok (.getfield 33, 3) := by decide +kernel
theorem dX2_answer_94 : decode cX2_answer 94 = .ok (.ireturn, 1) := by decide +kernel
theorem dX2_answer_95 : decode cX2_answer 95 = .ok (.aload_n 0, 1) := by decide +kernel
theorem dX2_answer_96 : decode cX2_answer 96 = .ok (.getfield 36, 3) := by decide +kernel
theorem dX2_answer_99 : decode cX2_answer 99 = .ok (.ireturn, 1) := by decide +kernel
theorem dX2_answer_100 : decode cX2_answer 100 = .ok (.iconst (-1), 1) := by decide +kernel
theorem dX2_answer_101 : decode cX2_answer 101 = .ok (.ireturn, 1) := by decide +kernel
theorem dX2_comeWith_0 : decode cX2_comeWith 0 = .ok (.aload_n 0, 1) := by decide +kernel
theorem dX2_comeWith_1 : decode cX2_comeWith 1 = .ok (.iload_n 1, 1) := by decide +kernel
theorem dX2_comeWith_2 : decode cX2_comeWith 2 = .ok (.putfield 9, 3) := by decide +kernel
theorem dX2_comeWith_5 : decode cX2_comeWith 5 = .ok (.aload_n 0, 1) := by decide +kernel
theorem dX2_comeWith_6 : decode cX2_comeWith 6 = .ok (.iload_n 2, 1) := by decide +kernel
theorem dX2_comeWith_7 : decode cX2_comeWith 7 = .ok (.putfield 15, 3) := by decide +kernel
theorem dX2_comeWith_10 : decode cX2_comeWith 10 = .ok (.aload_n 0, 1) := by decide +kernel
theorem dX2_comeWith_11 : decode cX2_comeWith 11 = .ok (.iload_n 3, 1) := by decide +kernel
theorem dX2_comeWith_12 : decode cX2_comeWith 12 = .ok (.putfield 18, 3) := by decide +kernel
theorem dX2_comeWith_15 : decode cX2_comeWith 15 = .ok (.aload_n 0, 1) := by decide +kernel
theorem dX2_comeWith_16 : decode cX2_comeWith 16 = .ok (.iload 4, 2) := by decide +kernel
theorem dX2_comeWith_18 : decode cX2_comeWith 18 = .ok (.putfield 21, 3) := by decide +kernel
theorem dX2_comeWith_21 : decode cX2_comeWith 21 = .ok (.aload_n 0, 1) := by decide +kernel
theorem dX2_comeWith_22 : decode cX2_comeWith 22 = .ok (.iconst 0, 1) := by decide +kernel
theorem dX2_comeWith_23 : decode cX2_comeWith 23 = .ok (.putfield 36, 3) := by decide +kernel
theorem dX2_comeWith_26 : decode cX2_comeWith 26 = .ok (.return_, 1) := by decide +kernel
theorem dX2_init_0 : decode cX2_init 0 = .ok (.aload_n 0, 1) := by decide +kernel
theorem dX2_init_1 : decode cX2_init 1 = .ok (.invokespecial 3, 3) := by decide +kernel
theorem dX2_init_4 : decode cX2_init 4 = .ok (.aload_n 0, 1) := by decide +kernel
theorem dX2_init_5 : decode cX2_init 5 = .ok (.iconst 1, 1) := by decide +kernel
theorem dX2_init_6 : decode cX2_init 6 = .ok (.putfield 9, 3) := by decide +kernel
theorem dX2_init_9 : decode cX2_init 9 = .ok (.aload_n 0, 1) := by decide +kernel
theorem dX2_init_10 : decode cX2_init 10 = .ok (.iconst 0, 1) := by decide +kernel
theorem dX2_init_11 : decode cX2_init 11 = .ok (.putfield 15, 3) := by decide +kernel
theorem dX2_init_14 : decode cX2_init 14 = .ok (.aload_n 0, 1) := by decide +kernel
theorem dX2_init_15 : decode cX2_init 15 = .ok (.iconst 1, 1) := by decide +kernel
theorem dX2_init_16 : decode cX2_init 16 = .ok (.putfield 18, 3) := by decide +kernel
theorem dX2_init_19 : decode cX2_init 19 = .ok (.aload_n 0, 1) := by decide +kernel
theorem dX2_init_20 : decode cX2_init 20 = .ok (.iconst 0, 1) := by decide +kernel
theorem dX2_init_21 : decode cX2_init 21 = .ok (.putfield 21, 3) := by decide +kernel
theorem dX2_init_24 : decode cX2_init 24 = .ok (.aload_n 0, 1) := by decide +kernel
theorem dX2_init_25 : decode cX2_init 25 = .ok (.iconst 0, 1) := by decide +kernel
theorem dX2_init_26 : decode cX2_init 26 = .ok (.putfield 24, 3) := by decide +kernel
theorem dX2_init_29 : decode cX2_init 29 = .ok (.aload_n 0, 1) := by decide +kernel
theorem dX2_init_30 : decode cX2_init 30 = .ok (.iconst 0, 1) := by decide +kernel
theorem dX2_init_31 : decode cX2_init 31 = .ok (.putfield 27, 3) := by decide +kernel
theorem dX2_init_34 : decode cX2_init 34 = .ok (.aload_n 0, 1) := by decide +kernel
theorem dX2_init_35 : decode cX2_init 35 = .ok (.iconst (-1), 1) := by decide +kernel
theorem dX2_init_36 : decode cX2_init 36 = .ok (.putfield 30, 3) := by decide +kernel
theorem dX2_init_39 : decode cX2_init 39 = .ok (.aload_n 0, 1) := by decide +kernel
theorem dX2_init_40 : decode cX2_init 40 = .ok (.iconst (-1), 1) := by decide +kernel
theorem dX2_init_41 : decode cX2_init 41 = .ok (.putfield 33, 3) := by decide +kernel
theorem dX2_init_44 : decode cX2_init 44 = .ok (.aload_n 0, 1) := by decide +kernel
theorem dX2_init_45 : decode cX2_init 45 = .ok (.iconst 0, 1) := by decide +kernel
theorem dX2_init_46 : decode cX2_init 46 = .ok (.putfield 36, 3) := by decide +kernel
theorem dX2_init_49 : decode cX2_init 49 = .ok (.aload_n 0, 1) := by decide +kernel
theorem dX2_init_50 : decode cX2_init 50 = .ok (.iconst 0, 1) := by decide +kernel
theorem dX2_init_51 : decode cX2_init 51 = .ok (.putfield 39, 3) := by decide +kernel
theorem dX2_init_54 : decode cX2_init 54 = .ok (.return_, 1) := by decide +kernel
theorem dX2_isHere_0 : decode cX2_isHere 0 = .ok (.aload_n 0, 1) := by decide +kernel
theorem dX2_isHere_1 : decode cX2_isHere 1 = .ok (.getfield 24, 3) := by decide +kernel
theorem dX2_isHere_4 : decode cX2_isHere 4 = .ok (.ifCond .eq 11, 3) := by decide +kernel
theorem dX2_isHere_7 : decode cX2_isHere 7 = .ok (.aload_n 0, 1) := by decide +kernel
theorem dX2_isHere_8 : decode cX2_isHere 8 = .ok (.getfield 24, 3) := by decide +kernel
theorem dX2_isHere_11 : decode cX2_isHere 11 = .ok (.iconst 1, 1) := by decide +kernel
theorem dX2_isHere_12 : decode cX2_isHere 12 = .ok (.if_icmp .ne 7, 3) := by decide +kernel
theorem dX2_isHere_15 : decode cX2_isHere 15 = .ok (.iconst 1, 1) := by decide +kernel
theorem dX2_isHere_16 : decode cX2_isHere 16 = .ok (.goto 4, 3) := by decide +kernel
theorem dX2_isHere_19 : decode cX2_isHere 19 = .ok (.iconst 0, 1) := by decide +kernel
theorem dX2_isHere_20 : decode cX2_isHere 20 = .ok (.ireturn, 1) := by decide +kernel
theorem dX2_lacks_0 : decode cX2_lacks 0 = .ok (.iconst 0, 1) := by decide +kernel
theorem dX2_lacks_1 : decode cX2_lacks 1 = .ok (.aload_n 0, 1) := by decide +kernel
theorem dX2_lacks_2 : decode cX2_lacks 2 = .ok (.getfield 9, 3) := by decide +kernel
theorem dX2_lacks_5 : decode cX2_lacks 5 = .ok (.aload_n 0, 1) := by decide +kernel
theorem dX2_lacks_6 : decode cX2_lacks 6 = .ok (.getfield 18, 3) := by decide +kernel
theorem dX2_lacks_9 : decode cX2_lacks 9 = .ok (.imul, 1) := by decide +kernel
theorem dX2_lacks_10 : decode cX2_lacks 10 = .ok (.aload_n 0, 1) := by decide +kernel
theorem dX2_lacks_11 : decode cX2_lacks 11 = .ok (.getfield 15, 3) := by decide +kernel
theorem dX2_lacks_14 : decode cX2_lacks 14 = .ok (.isub, 1) := by decide +kernel
theorem dX2_lacks_15 : decode cX2_lacks 15 = .ok (.invokestatic 43, 3) := by decide +kernel
theorem dX2_lacks_18 : decode cX2_lacks 18 = .ok (.ireturn, 1) := by decide +kernel
theorem dX2_pressure_0 : decode cX2_pressure 0 = .ok (.aload_n 0, 1) := by decide +kernel
theorem dX2_pressure_1 : decode cX2_pressure 1 = .ok (.getfield 9, 3) := by decide +kernel
theorem dX2_pressure_4 : decode cX2_pressure 4 = .ok (.iconst 1, 1) := by decide +kernel
theorem dX2_pressure_5 : decode cX2_pressure 5 = .ok (.if_icmp .ge 7, 3) := by decide +kernel
theorem dX2_pressure_8 : decode cX2_pressure 8 = .ok (.iconst 0, 1) := by decide +kernel
theorem dX2_pressure_9 : decode cX2_pressure 9 = .ok (.goto 12, 3) := by decide +kernel
theorem dX2_pressure_12 : decode cX2_pressure 12 = .ok (.aload_n 0, 1) := by decide +kernel
theorem dX2_pressure_13 : decode cX2_pressure 13 = .ok (.getfield 15, 3) := by decide +kernel
theorem dX2_pressure_16 : decode cX2_pressure 16 = .ok (.aload_n 0, 1) := by decide +kernel
theorem dX2_pressure_17 : decode cX2_pressure 17 = .ok (.getfield 9, 3) := by decide +kernel
theorem dX2_pressure_20 : decode cX2_pressure 20 = .ok (.idiv, 1) := by decide +kernel
theorem dX2_pressure_21 : decode cX2_pressure 21 = .ok (.ireturn, 1) := by decide +kernel
theorem dX3_allGas_0 : decode cX3_allGas 0 = .ok (.aload_n 0, 1) := by decide +kernel
theorem dX3_allGas_1 : decode cX3_allGas 1 = .ok (.getfield 7, 3) := by decide +kernel
theorem dX3_allGas_4 : decode cX3_allGas 4 = .ok (.aload_n 0, 1) := by decide +kernel
theorem dX3_allGas_5 : decode cX3_allGas 5 = .ok (.getfield 13, 3) := by decide +kernel
theorem dX3_allGas_8 : decode cX3_allGas 8 = .ok (.iadd, 1) := by decide +kernel
theorem dX3_allGas_9 : decode cX3_allGas 9 = .ok (.aload_n 0, 1) := by decide +kernel
theorem dX3_allGas_10 : decode cX3_allGas 10 = .ok (.getfield 22, 3) := by decide +kernel
theorem dX3_allGas_13 : decode cX3_allGas 13 = .ok (.iadd, 1) := by decide +kernel
theorem dX3_allGas_14 : decode cX3_allGas 14 = .ok (.ireturn, 1) := by decide +kernel
theorem dX3_init_0 : decode cX3_init 0 = .ok (.aload_n 0, 1) := by decide +kernel
theorem dX3_init_1 : decode cX3_init 1 = .ok (.invokespecial 1, 3) := by decide +kernel
theorem dX3_init_4 : decode cX3_init 4 = .ok (.aload_n 0, 1) := by decide +kernel
theorem dX3_init_5 : decode cX3_init 5 = .ok (.iconst 0, 1) := by decide +kernel
theorem dX3_init_6 : decode cX3_init 6 = .ok (.putfield 7, 3) := by decide +kernel
theorem dX3_init_9 : decode cX3_init 9 = .ok (.aload_n 0, 1) := by decide +kernel
theorem dX3_init_10 : decode cX3_init 10 = .ok (.iconst 0, 1) := by decide +kernel
theorem dX3_init_11 : decode cX3_init 11 = .ok (.putfield 13, 3) := by decide +kernel
theorem dX3_init_14 : decode cX3_init 14 = .ok (.aload_n 0, 1) := by decide +kernel
theorem dX3_init_15 : decode cX3_init 15 = .ok (.iconst 0, 1) := by decide +kernel
theorem dX3_init_16 : decode cX3_init 16 = .ok (.putfield 16, 3) := by decide +kernel
theorem dX3_init_19 : decode cX3_init 19 = .ok (.aload_n 0, 1) := by decide +kernel
theorem dX3_init_20 : decode cX3_init 20 = .ok (.iconst 0, 1) := by decide +kernel
theorem dX3_init_21 : decode cX3_init 21 = .ok (.putfield 19, 3) := by decide +kernel
theorem dX3_init_24 : decode cX3_init 24 = .ok (.aload_n 0, 1) := by decide +kernel
theorem dX3_init_25 : decode cX3_init 25 = .ok (.iconst 0, 1) := by decide +kernel
theorem dX3_init_26 : decode cX3_init 26 = .ok (.putfield 22, 3) := by decide +kernel
theorem dX3_init_29 : decode cX3_init 29 = .ok (.return_, 1) := by decide +kernel
theorem dX3_press_0 : decode cX3_press 0 = .ok (.aload_n 0, 1) := by decide +kernel
theorem dX3_press_1 : decode cX3_press 1 = .ok (.dup, 1) := by decide +kernel
theorem dX3_press_2 : decode cX3_press 2 = .ok (.getfield 13, 3) := by decide +kernel
theorem dX3_press_5 : decode cX3_press 5 = .ok (.iload_n 1, 1) := by decide +kernel
theorem dX3_press_6 : decode cX3_press 6 = .ok (.iadd, 1) := by decide +kernel
theorem dX3_press_7 : decode cX3_press 7 = .ok (.putfield 13, 3) := by decide +kernel
theorem dX3_press_10 : decode cX3_press 10 = .ok (.aload_n 0, 1) := by decide +kernel
theorem dX3_press_11 : decode cX3_press 11 = .ok (.dup, 1) := by decide +kernel
theorem dX3_press_12 : decode cX3_press 12 = .ok (.getfield 16, 3) := by decide +kernel
theorem dX3_press_15 : decode cX3_press 15 = .ok (.iload_n 1, 1) := by decide +kernel
theorem dX3_press_16 : decode cX3_press 16 = .ok (.iload_n 2, 1) := by decide +kernel
theorem dX3_press_17 : decode cX3_press 17 = .ok (.imul, 1) := by decide +kernel
theorem dX3_press_18 : decode cX3_press 18 = .ok (.iadd, 1) := by decide +kernel
theorem dX3_press_19 : decode cX3_press 19 = .ok (.putfield 16, 3) := by decide +kernel
theorem dX3_press_22 : decode cX3_press 22 = .ok (.return_, 1) := by decide +kernel
theorem dX4_answer_0 : decode cX4_answer 0 = .ok (.iload_n 1, 1) := by decide +kernel
theorem dX4_answer_1 : decode cX4_answer 1 = .ok (.ifCond .lt 17, 3) := by decide +kernel
theorem dX4_answer_4 : decode cX4_answer 4 = .ok (.iload_n 1, 1) := by decide +kernel
theorem dX4_answer_5 : decode cX4_answer 5 = .ok (.aload_n 0, 1) := by decide +kernel
theorem dX4_answer_6 : decode cX4_answer 6 = .ok (.getfield 53, 3) := by decide +kernel
theorem dX4_answer_9 : decode cX4_answer 9 = .ok (.if_icmp .ge 9, 3) := by decide +kernel
theorem dX4_answer_12 : decode cX4_answer 12 = .ok (.iload_n 1, 1) := by decide +kernel
theorem dX4_answer_13 : decode cX4_answer 13 = .ok (.bipush 6, 2) := by decide +kernel
theorem dX4_answer_15 : decode cX4_answer 15 = .ok (.if_icmp .lt 5, 3) := by decide +kernel
theorem dX4_answer_18 : decode cX4_answer 18 = .ok (.iconst (-1), 1) := by decide +kernel
theorem dX4_answer_19 : decode cX4_answer 19 = .ok (.ireturn, 1) := by decide +kernel
theorem dX4_answer_20 : decode cX4_answer 20 = .ok (.iload_n 2, 1) := by decide +kernel
theorem dX4_answer_21 : decode cX4_answer 21 = .ok (.lookupswitch 41 #[(0, 27), (1, 34)], 27) := by decide +kernel
theorem dX4_answer_48 : decode cX4_answer 48 = .ok (.aload_n 0, 1) := by decide +kernel
theorem dX4_answer_49 : decode cX4_answer 49 = .ok (.getfield 44, 3) := by decide +kernel
theorem dX4_answer_52 : decode cX4_answer 52 = .ok (.iload_n 1, 1) := by decide +kernel
theorem dX4_answer_53 : decode cX4_answer 53 = .ok (.iaload, 1) := by decide +kernel
theorem dX4_answer_54 : decode cX4_answer 54 = .ok (.ireturn, 1) := by decide +kernel
theorem dX4_answer_55 : decode cX4_answer 55 = .ok (.aload_n 0, 1) := by decide +kernel
theorem dX4_answer_56 : decode cX4_answer 56 = .ok (.getfield 47, 3) := by decide +kernel
theorem dX4_answer_59 : decode cX4_answer 59 = .ok (.iload_n 1, 1) := by decide +kernel
theorem dX4_answer_60 : decode cX4_answer 60 = .ok (.iaload, 1) := by decide +kernel
theorem dX4_answer_61 : decode cX4_answer 61 = .ok (.ireturn, 1) := by decide +kernel
theorem dX4_answer_62 : decode cX4_answer 62 = .ok (.iconst (-1), 1) := by decide +kernel
theorem dX4_answer_63 : decode cX4_answer 63 = .ok (.ireturn, 1) := by decide +kernel
theorem dX4_copyBanks_0 : decode cX4_copyBanks 0 = .ok (.aload_n 0, 1) := by decide +kernel
theorem dX4_copyBanks_1 : decode cX4_copyBanks 1 = .ok (.iconst 0, 1) := by decide +kernel
theorem dX4_copyBanks_2 : decode cX4_copyBanks 2 = .ok (.putfield 24, 3) := by decide +kernel
theorem dX4_copyBanks_5 : decode cX4_copyBanks 5 = .ok (.iconst 0, 1) := by decide +kernel
theorem dX4_copyBanks_6 : decode cX4_copyBanks 6 = .ok (.istore_n 3, 1) := by decide +kernel
theorem dX4_copyBanks_7 : decode cX4_copyBanks 7 = .ok (.iload_n 3, 1) := by decide +kernel
theorem dX4_copyBanks_8 : decode cX4_copyBanks 8 = .ok (.iload_n 2, 1) := by decide +kernel
theorem dX4_copyBanks_9 : decode cX4_copyBanks 9 = .ok (.if_icmp .ge 45, 3) := by decide +kernel
theorem dX4_copyBanks_12 : decode cX4_copyBanks 12 = .ok (.iload_n 3, 1) := by decide +kernel
theorem dX4_copyBanks_13 : decode cX4_copyBanks 13 = .ok (.iconst 4, 1) := by decide +kernel
theorem dX4_copyBanks_14 : decode cX4_copyBanks 14 = .ok (.if_icmp .ge 40, 3) := by decide +kernel
theorem dX4_copyBanks_17 : decode cX4_copyBanks 17 = .ok (.iload_n 3, 1) := by decide +kernel
theorem dX4_copyBanks_18 : decode cX4_copyBanks 18 = .ok (.aload_n 1, 1) := by decide +kernel
theorem dX4_copyBanks_19 : decode cX4_copyBanks 19 = .ok (.arraylength, 1) := by decide +kernel
theorem dX4_copyBanks_20 : decode cX4_copyBanks 20 = .ok (.if_icmp .ge 34, 3) := by decide +kernel
theorem dX4_copyBanks_23 : decode cX4_copyBanks 23 = .ok (.aload_n 1, 1) := by decide +kernel
theorem dX4_copyBanks_24 : decode cX4_copyBanks 24 = .ok (.iload_n 3, 1) := by decide +kernel
theorem dX4_copyBanks_25 : decode cX4_copyBanks 25 = .ok (.aaload, 1) := by decide +kernel
theorem dX4_copyBanks_26 : decode cX4_copyBanks 26 = .ok (.ifnull 22, 3) := by decide +kernel
theorem dX4_copyBanks_29 : decode cX4_copyBanks 29 = .ok (.aload_n 0, 1) := by decide +kernel
theorem dX4_copyBanks_30 : decode cX4_copyBanks 30 = .ok (.getfield 20, 3) := by decide +kernel
theorem dX4_copyBanks_33 : decode cX4_copyBanks 33 = .ok (.iload_n 3, 1) := by decide +kernel
theorem dX4_copyBanks_34 : decode cX4_copyBanks 34 = .ok (.aaload, 1) := by decide +kernel
theorem dX4_copyBanks_35 : decode cX4_copyBanks 35 = .ok (.aload_n 1, 1) := by decide +kernel
theorem dX4_copyBanks_36 : decode cX4_copyBanks 36 = .ok (.iload_n 3, 1) := by decide +kernel
theorem dX4_copyBanks_37 : decode cX4_copyBanks 37 = .ok (.aaload, 1) := by decide +kernel
theorem dX4_copyBanks_38 : decode cX4_copyBanks 38 = .ok (.invokevirtual 60, 3) := by decide +kernel
theorem dX4_copyBanks_41 : decode cX4_copyBanks 41 = .ok (.aload_n 0, 1) := by decide +kernel
theorem dX4_copyBanks_42 : decode cX4_copyBanks 42 = .ok (.iload_n 3, 1) := by decide +kernel
theorem dX4_copyBanks_43 : decode cX4_copyBanks 43 = .ok (.iconst 1, 1) := by decide +kernel
theorem dX4_copyBanks_44 : decode cX4_copyBanks 44 = .ok (.iadd, 1) := by decide +kernel
theorem dX4_copyBanks_45 : decode cX4_copyBanks 45 = .ok (.putfield 24, 3) := by decide +kernel
theorem dX4_copyBanks_48 : decode cX4_copyBanks 48 = .ok (.iinc 3 1, 3) := by decide +kernel
theorem dX4_copyBanks_51 : decode cX4_copyBanks 51 = .ok (.goto (-44), 3) := by decide +kernel
theorem dX4_copyBanks_54 : decode cX4_copyBanks 54 = .ok (.return_, 1) := by decide +kernel
theorem dX4_drawAndGoOn_0 : decode cX4_drawAndGoOn 0 = .ok (.aload_n 0, 1) := by decide +kernel
theorem dX4_drawAndGoOn_1 : decode cX4_drawAndGoOn 1 = .ok (.getfield 12, 3) := by decide +kernel
theorem dX4_drawAndGoOn_4 : decode cX4_drawAndGoOn 4 = .ok (.getfield 101, 3) := by decide +kernel
theorem dX4_drawAndGoOn_7 : decode cX4_drawAndGoOn 7 = .ok (.istore 4, 2) := by decide +kernel
theorem dX4_drawAndGoOn_9 : decode cX4_drawAndGoOn 9 = .ok (.aload_n 1, 1) := by decide +kernel
theorem dX4_drawAndGoOn_10 : decode cX4_drawAndGoOn 10 = .ok (.aload_n 0, 1) := by decide +kernel
theorem dX4_drawAndGoOn_11 : decode cX4_drawAndGoOn 11 = .ok (.getfield 20, 3) := by decide +kernel
theorem dX4_drawAndGoOn_14 : decode cX4_drawAndGoOn 14 = .ok (.iload_n 2, 1) := by decide +kernel
theorem dX4_drawAndGoOn_15 : decode cX4_drawAndGoOn 15 = .ok (.aaload, 1) := by decide +kernel
theorem dX4_drawAndGoOn_16 : decode cX4_drawAndGoOn 16 = .ok (.aload_n 0, 1) := by decide +kernel
theorem dX4_drawAndGoOn_17 : decode cX4_drawAndGoOn 17 = .ok (.getfield 12, 3) := by decide +kernel
theorem dX4_drawAndGoOn_20 : decode cX4_drawAndGoOn 20 = .ok (.invokevirtual 104, 3) := by decide +kernel
theorem dX4_drawAndGoOn_23 : decode cX4_drawAndGoOn 23 = .ok (.istore 5, 2) := by decide +kernel
theorem dX4_drawAndGoOn_25 : decode cX4_drawAndGoOn 25 = .ok (.aload_n 0, 1) := by decide +kernel
theorem dX4_drawAndGoOn_26 : decode cX4_drawAndGoOn 26 = .ok (.getfield 37, 3) := by decide +kernel
theorem dX4_drawAndGoOn_29 : decode cX4_drawAndGoOn 29 = .ok (.iload_n 3, 1) := by decide +kernel
theorem dX4_drawAndGoOn_30 : decode cX4_drawAndGoOn 30 = .ok (.iload_n 2, 1) := by decide +kernel
theorem dX4_drawAndGoOn_31 : decode cX4_drawAndGoOn 31 = .ok (.iastore, 1) := by decide +kernel
theorem dX4_drawAndGoOn_32 : decode cX4_drawAndGoOn 32 = .ok (.aload_n 0, 1) := by decide +kernel
theorem dX4_drawAndGoOn_33 : decode cX4_drawAndGoOn 33 = .ok (.getfield 41, 3) := by decide +kernel
theorem dX4_drawAndGoOn_36 : decode cX4_drawAndGoOn 36 = .ok (.iload_n 3, 1) := by decide +kernel
theorem dX4_drawAndGoOn_37 : decode cX4_drawAndGoOn 37 = .ok (.iload 5, 2) := by decide +kernel
theorem dX4_drawAndGoOn_39 : decode cX4_drawAndGoOn 39 = .ok (.iastore, 1) := by decide +kernel
theorem dX4_drawAndGoOn_40 : decode cX4_drawAndGoOn 40 = .ok (.aload_n 1, 1) := by decide +kernel
theorem dX4_drawAndGoOn_41 : decode cX4_drawAndGoOn 41 = .ok (.aload_n 0, 1) := by decide +kernel
theorem dX4_drawAndGoOn_42 : decode cX4_drawAndGoOn 42 = .ok (.getfield 20, 3) := by decide +kernel
theorem dX4_drawAndGoOn_45 : decode cX4_drawAndGoOn 45 = .ok (.iload_n 2, 1) := by decide +kernel
theorem dX4_drawAndGoOn_46 : decode cX4_drawAndGoOn 46 = .ok (.aaload, 1) := by decide +kernel
theorem dX4_drawAndGoOn_47 : decode cX4_drawAndGoOn 47 = .ok (.aload_n 0, 1) := by decide +kernel
theorem dX4_drawAndGoOn_48 : decode cX4_drawAndGoOn 48 = .ok (.getfield 12, 3) := by decide +kernel
theorem dX4_drawAndGoOn_51 : decode cX4_drawAndGoOn 51 = .ok (.iload 5, 2) := by decide +kernel
theorem dX4_drawAndGoOn_53 : decode cX4_drawAndGoOn 53 = .ok (.invokevirtual 108, 3) := by decide +kernel
theorem dX4_drawAndGoOn_56 : decode cX4_drawAndGoOn 56 = .ok (.aload_n 1, 1) := by decide +kernel
theorem dX4_drawAndGoOn_57 : decode cX4_drawAndGoOn 57 = .ok (.aload_n 0, 1) := by decide +kernel
theorem dX4_drawAndGoOn_58 : decode cX4_drawAndGoOn 58 = .ok (.getfield 12, 3) := by decide +kernel
theorem dX4_drawAndGoOn_61 : decode cX4_drawAndGoOn 61 = .ok (.aload_n 0, 1) := by decide +kernel
theorem dX4_drawAndGoOn_62 : decode cX4_drawAndGoOn 62 = .ok (.getfield 28, 3) := by decide +kernel
theorem dX4_drawAndGoOn_65 : decode cX4_drawAndGoOn 65 = .ok (.invokevirtual 112, 3) := by decide +kernel
theorem dX4_drawAndGoOn_68 : decode cX4_drawAndGoOn 68 = .ok (.aload_n 0, 1) := by decide +kernel
theorem dX4_drawAndGoOn_69 : decode cX4_drawAndGoOn 69 = .ok (.aload_n 1, 1) := by decide +kernel
theorem dX4_drawAndGoOn_70 : decode cX4_drawAndGoOn 70 = .ok (.iload_n 3, 1) := by decide +kernel
theorem dX4_drawAndGoOn_71 : decode cX4_drawAndGoOn 71 = .ok (.iconst 1, 1) := by decide +kernel
theorem dX4_drawAndGoOn_72 : decode cX4_drawAndGoOn 72 = .ok (.iadd, 1) := by decide +kernel
theorem dX4_drawAndGoOn_73 : decode cX4_drawAndGoOn 73 = .ok (.invokevirtual 76, 3) := by decide +kernel
theorem dX4_drawAndGoOn_76 : decode cX4_drawAndGoOn 76 = .ok (.aload_n 1, 1) := by decide +kernel
theorem dX4_drawAndGoOn_77 : decode cX4_drawAndGoOn 77 = .ok (.aload_n 0, 1) := by decide +kernel
theorem dX4_drawAndGoOn_78 : decode cX4_drawAndGoOn 78 = .ok (.getfield 20, 3) := by decide +kernel
theorem dX4_drawAndGoOn_81 : decode cX4_drawAndGoOn 81 = .ok (.iload_n 2, 1) := by decide +kernel
theorem dX4_drawAndGoOn_82 : decode cX4_drawAndGoOn 82 = .ok (.aaload, 1) := by decide +kernel
theorem dX4_drawAndGoOn_83 : decode cX4_drawAndGoOn 83 = .ok (.aload_n 0, 1) := by decide +kernel
theorem dX4_drawAndGoOn_84 : decode cX4_drawAndGoOn 84 = .ok (.getfield 12, 3) := by decide +kernel
theorem dX4_drawAndGoOn_87 : decode cX4_drawAndGoOn 87 = .ok (.iload 5, 2) := by decide +kernel
theorem dX4_drawAndGoOn_89 : decode cX4_drawAndGoOn 89 = .ok (.ineg, 1) := by decide +kernel
theorem dX4_drawAndGoOn_90 : decode cX4_drawAndGoOn 90 = .ok (.invokevirtual 108, 3) := by decide +kernel
theorem dX4_drawAndGoOn_93 : decode cX4_drawAndGoOn 93 = .ok (.aload_n 0, 1) := by decide +kernel
theorem dX4_drawAndGoOn_94 : decode cX4_drawAndGoOn 94 = .ok (.getfield 12, 3) := by decide +kernel
theorem dX4_drawAndGoOn_97 : decode cX4_drawAndGoOn 97 = .ok (.iload 4, 2) := by decide +kernel
theorem dX4_drawAndGoOn_99 : decode cX4_drawAndGoOn 99 = .ok (.putfield 101, 3) := by decide +kernel
theorem dX4_drawAndGoOn_102 : decode cX4_drawAndGoOn 102 = .ok (.return_, 1) := by decide +kernel
theorem dX4_init_0 : decode cX4_init 0 = .ok (.aload_n 0, 1) := by decide +kernel
theorem dX4_init_1 : decode cX4_init 1 = .ok (.invokespecial 3, 3) := by decide +kernel
theorem dX4_init_4 : decode cX4_init 4 = .ok (.aload_n 0, 1) := by decide +kernel
theorem dX4_init_5 : decode cX4_init 5 = .ok (.new 9, 3) := by decide +kernel
theorem dX4_init_8 : decode cX4_init 8 = .ok (.dup, 1) := by decide +kernel
theorem dX4_init_9 : decode cX4_init 9 = .ok (.invokespecial 11, 3) := by decide +kernel
theorem dX4_init_12 : decode cX4_init 12 = .ok (.putfield 12, 3) := by decide +kernel
theorem dX4_init_15 : decode cX4_init 15 = .ok (.aload_n 0, 1) := by decide +kernel
theorem dX4_init_16 : decode cX4_init 16 = .ok (.iconst 4, 1) := by decide +kernel
theorem dX4_init_17 : decode cX4_init 17 = .ok (.anewarray 18, 3) := by decide +kernel
theorem dX4_init_20 : decode cX4_init 20 = .ok (.putfield 20, 3) := by decide +kernel
theorem dX4_init_23 : decode cX4_init 23 = .ok (.aload_n 0, 1) := by decide +kernel
theorem dX4_init_24 : decode cX4_init 24 = .ok (.iconst 0, 1) := by decide +kernel
theorem dX4_init_25 : decode cX4_init 25 = .ok (.putfield 24, 3) := by decide +kernel
theorem dX4_init_28 : decode cX4_init 28 = .ok (.aload_n 0, 1) := by decide +kernel
theorem dX4_init_29 : decode cX4_init 29 = .ok (.iconst 0, 1) := by decide +kernel
theorem dX4_init_30 : decode cX4_init 30 = .ok (.putfield 28, 3) := by decide +kernel
theorem dX4_init_33 : decode cX4_init 33 = .ok (.aload_n 0, 1) := by decide +kernel
theorem dX4_init_34 : decode cX4_init 34 = .ok (.iconst 0, 1) := by decide +kernel
theorem dX4_init_35 : decode cX4_init 35 = .ok (.putfield 31, 3) := by decide +kernel
theorem dX4_init_38 : decode cX4_init 38 = .ok (.aload_n 0, 1) := by decide +kernel
theorem dX4_init_39 : decode cX4_init 39 = .ok (.iconst 0, 1) := by decide +kernel
theorem dX4_init_40 : decode cX4_init 40 = .ok (.putfield 34, 3) := by decide +kernel
theorem dX4_init_43 : decode cX4_init 43 = .ok (.aload_n 0, 1) := by decide +kernel
theorem dX4_init_44 : decode cX4_init 44 = .ok (.bipush 6, 2) := by decide +kernel
theorem dX4_init_46 : decode cX4_init 46 = .ok (.newarray .int, 2) := by decide +kernel
theorem dX4_init_48 : decode cX4_init 48 = .ok (.putfield 37, 3) := by decide +kernel
theorem dX4_init_51 : decode cX4_init 51 = .ok (.aload_n 0, 1) := by decide +kernel
theorem dX4_init_52 : decode cX4_init 52 = .ok (.bipush 6, 2) := by decide +kernel
theorem dX4_init_54 : decode cX4_init 54 = .ok (.newarray .int, 2) := by decide +kernel
theorem dX4_init_56 : decode cX4_init 56 = .ok (.putfield 41, 3) := by decide +kernel
theorem dX4_init_59 : decode cX4_init 59 = .ok (.aload_n 0, 1) := by decide +kernel
theorem dX4_init_60 : decode cX4_init 60 = .ok (.bipush 6, 2) := by decide +kernel
theorem dX4_init_62 : decode cX4_init 62 = .ok (.newarray .int, 2) := by decide +kernel
theorem dX4_init_64 : decode cX4_init 64 = .ok (.putfield 44, 3) := by decide +kernel
theorem dX4_init_67 : decode cX4_init 67 = .ok (.aload_n 0, 1) := by decide +kernel
theorem dX4_init_68 : decode cX4_init 68 = .ok (.bipush 6, 2) := by decide +kernel
theorem dX4_init_70 : decode cX4_init 70 = .ok (.newarray .int, 2) := by decide +kernel
theorem dX4_init_72 : decode cX4_init 72 = .ok (.putfield 47, 3) := by decide +kernel
theorem dX4_init_75 : decode cX4_init 75 = .ok (.aload_n 0, 1) := by decide +kernel
theorem dX4_init_76 : decode cX4_init 76 = .ok (.iconst 4, 1) := by decide +kernel
theorem dX4_init_77 : decode cX4_init 77 = .ok (.newarray .int, 2) := by decide +kernel
theorem dX4_init_79 : decode cX4_init 79 = .ok (.putfield 50, 3) := by decide +kernel
theorem dX4_init_82 : decode cX4_init 82 = .ok (.aload_n 0, 1) := by decide +kernel
theorem dX4_init_83 : decode cX4_init 83 = .ok (.iconst 0, 1) := by decide +kernel
theorem dX4_init_84 : decode cX4_init 84 = .ok (.putfield 53, 3) := by decide +kernel
theorem dX4_init_87 : decode cX4_init 87 = .ok (.aload_n 0, 1) := by decide +kernel
theorem dX4_init_88 : decode cX4_init 88 = .ok (.iconst (-1), 1) := by decide +kernel
theorem dX4_init_89 : decode cX4_init 89 = .ok (.putfield 56, 3) := by decide +kernel
theorem dX4_init_92 : decode cX4_init 92 = .ok (.iconst 0, 1) := by decide +kernel
theorem dX4_init_93 : decode cX4_init 93 = .ok (.istore_n 1, 1) := by decide +kernel
theorem dX4_init_94 : decode cX4_init 94 = .ok (.iload_n 1, 1) := by decide +kernel
theorem dX4_init_95 : decode cX4_init 95 = .ok (.iconst 4, 1) := by decide +kernel
theorem dX4_init_96 : decode cX4_init 96 = .ok (.if_icmp .ge 22, 3) := by decide +kernel
theorem dX4_init_99 : decode cX4_init 99 = .ok (.aload_n 0, 1) := by decide +kernel
theorem dX4_init_100 : decode cX4_init 100 = .ok (.getfield 20, 3) := by decide +kernel
theorem dX4_init_103 : decode cX4_init 103 = .ok (.iload_n 1, 1) := by decide +kernel
theorem dX4_init_104 : decode cX4_init 104 = .ok (.new 18, 3) := by decide +kernel
theorem dX4_init_107 : decode cX4_init 107 = .ok (.dup, 1) := by decide +kernel
theorem dX4_init_108 : decode cX4_init 108 = .ok (.invokespecial 59, 3) := by decide +kernel
theorem dX4_init_111 : decode cX4_init 111 = .ok (.aastore, 1) := by decide +kernel
theorem dX4_init_112 : decode cX4_init 112 = .ok (.iinc 1 1, 3) := by decide +kernel
theorem dX4_init_115 : decode cX4_init 115 = .ok (.goto (-21), 3) := by decide +kernel
theorem dX4_init_118 : decode cX4_init 118 = .ok (.return_, 1) := by decide +kernel
theorem dX4_isBetter_0 : decode cX4_isBetter 0 = .ok (.iload_n 1, 1) := by decide +kernel
theorem dX4_isBetter_1 : decode cX4_isBetter 1 = .ok (.aload_n 0, 1) := by decide +kernel
theorem dX4_isBetter_2 : decode cX4_isBetter 2 = .ok (.getfield 56, 3) := by decide +kernel
theorem dX4_isBetter_5 : decode cX4_isBetter 5 = .ok (.if_icmp .eq 17, 3) := by decide +kernel
theorem dX4_isBetter_8 : decode cX4_isBetter 8 = .ok (.iload_n 1, 1) := by decide +kernel
theorem dX4_isBetter_9 : decode cX4_isBetter 9 = .ok (.aload_n 0, 1) := by decide +kernel
theorem dX4_isBetter_10 : decode cX4_isBetter 10 = .ok (.getfield 56, 3) := by decide +kernel
theorem dX4_isBetter_13 : decode cX4_isBetter 13 = .ok (.if_icmp .le 7, 3) := by decide +kernel
theorem dX4_isBetter_16 : decode cX4_isBetter 16 = .ok (.iconst 1, 1) := by decide +kernel
theorem dX4_isBetter_17 : decode cX4_isBetter 17 = .ok (.goto 4, 3) := by decide +kernel
theorem dX4_isBetter_20 : decode cX4_isBetter 20 = .ok (.iconst 0, 1) := by decide +kernel
theorem dX4_isBetter_21 : decode cX4_isBetter 21 = .ok (.ireturn, 1) := by decide +kernel
theorem dX4_isBetter_22 : decode cX4_isBetter 22 = .ok (.aload_n 0, 1) := by decide +kernel
theorem dX4_isBetter_23 : decode cX4_isBetter 23 = .ok (.getfield 24, 3) := by decide +kernel
theorem dX4_isBetter_26 : decode cX4_isBetter 26 = .ok (.iconst 4, 1) := by decide +kernel
theorem dX4_isBetter_27 : decode cX4_isBetter 27 = .ok (.invokestatic 64, 3) := by decide +kernel
theorem dX4_isBetter_30 : decode cX4_isBetter 30 = .ok (.iconst 1, 1) := by decide +kernel
theorem dX4_isBetter_31 : decode cX4_isBetter 31 = .ok (.isub, 1) := by decide +kernel
theorem dX4_isBetter_32 : decode cX4_isBetter 32 = .ok (.istore_n 2, 1) := by decide +kernel
theorem dX4_isBetter_33 : decode cX4_isBetter 33 = .ok (.iload_n 2, 1) := by decide +kernel
theorem dX4_isBetter_34 : decode cX4_isBetter 34 = .ok (.ifCond .lt 51, 3) := by decide +kernel
theorem dX4_isBetter_37 : decode cX4_isBetter 37 = .ok (.aload_n 0, 1) := by decide +kernel
theorem dX4_isBetter_38 : decode cX4_isBetter 38 = .ok (.getfield 20, 3) := by decide +kernel
theorem dX4_isBetter_41 : decode cX4_isBetter 41 = .ok (.iload_n 2, 1) := by decide +kernel
theorem dX4_isBetter_42 : decode cX4_isBetter 42 = .ok (.aaload, 1) := by decide +kernel
theorem dX4_isBetter_43 : decode cX4_isBetter 43 = .ok (.getfield 116, 3) := by decide +kernel
theorem dX4_isBetter_46 : decode cX4_isBetter 46 = .ok (.aload_n 0, 1) := by decide +kernel
theorem dX4_isBetter_47 : decode cX4_isBetter 47 = .ok (.getfield 50, 3) := by decide +kernel
theorem dX4_isBetter_50 : decode cX4_isBetter 50 = .ok (.iload_n 2, 1) := by decide +kernel
theorem dX4_isBetter_51 : decode cX4_isBetter 51 = .ok (.iaload, 1) := by decide +kernel
theorem dX4_isBetter_52 : decode cX4_isBetter 52 = .ok (.if_icmp .eq 27, 3) := by decide +kernel
theorem dX4_isBetter_55 : decode cX4_isBetter 55 = .ok (.aload_n 0, 1) := by decide +kernel
theorem dX4_isBetter_56 : decode cX4_isBetter 56 = .ok (.getfield 20, 3) := by decide +kernel
theorem dX4_isBetter_59 : decode cX4_isBetter 59 = .ok (.iload_n 2, 1) := by decide +kernel
theorem dX4_isBetter_60 : decode cX4_isBetter 60 = .ok (.aaload, 1) := by decide +kernel
theorem dX4_isBetter_61 : decode cX4_isBetter 61 = .ok (.getfield 116, 3) := by decide +kernel
theorem dX4_isBetter_64 : decode cX4_isBetter 64 = .ok (.aload_n 0, 1) := by decide +kernel
theorem dX4_isBetter_65 : decode cX4_isBetter 65 = .ok (.getfield 50, 3) := by decide +kernel
theorem dX4_isBetter_68 : decode cX4_isBetter 68 = .ok (.iload_n 2, 1) := by decide +kernel
theorem dX4_isBetter_69 : decode cX4_isBetter 69 = .ok (.iaload, 1) := by decide +kernel
theorem dX4_isBetter_70 : decode cX4_isBetter 70 = .ok (.if_icmp .ge 7, 3) := by decide +kernel
theorem dX4_isBetter_73 : decode cX4_isBetter 73 = .ok (.iconst 1, 1) := by decide +kernel
theorem dX4_isBetter_74 : decode cX4_isBetter 74 = .ok (.goto 4, 3) := by decide +kernel
theorem dX4_isBetter_77 : decode cX4_isBetter 77 = .ok (.iconst 0, 1) := by decide +kernel
theorem dX4_isBetter_78 : decode cX4_isBetter 78 = .ok (.ireturn, 1) := by decide +kernel
theorem dX4_isBetter_79 : decode cX4_isBetter 79 = .ok (.iinc 2 (-1), 3) := by decide +kernel
theorem dX4_isBetter_82 : decode cX4_isBetter 82 = .ok (.goto (-49), 3) := by decide +kernel
theorem dX4_isBetter_85 : decode cX4_isBetter 85 = .ok (.iconst 0, 1) := by decide +kernel
theorem dX4_isBetter_86 : decode cX4_isBetter 86 = .ok (.ireturn, 1) := by decide +kernel
theorem dX4_keepRow_0 : decode cX4_keepRow 0 = .ok (.aload_n 0, 1) := by decide +kernel
theorem dX4_keepRow_1 : decode cX4_keepRow 1 = .ok (.aload_n 0, 1) := by decide +kernel
theorem dX4_keepRow_2 : decode cX4_keepRow 2 = .ok (.getfield 12, 3) := by decide +kernel
theorem dX4_keepRow_5 : decode cX4_keepRow 5 = .ok (.getfield 80, 3) := by decide +kernel
theorem dX4_keepRow_8 : decode cX4_keepRow 8 = .ok (.putfield 56, 3) := by decide +kernel
theorem dX4_keepRow_11 : decode cX4_keepRow 11 = .ok (.iconst 0, 1) := by decide +kernel
theorem dX4_keepRow_12 : decode cX4_keepRow 12 = .ok (.istore_n 1, 1) := by decide +kernel
theorem dX4_keepRow_13 : decode cX4_keepRow 13 = .ok (.iload_n 1, 1) := by decide +kernel
theorem dX4_keepRow_14 : decode cX4_keepRow 14 = .ok (.bipush 6, 2) := by decide +kernel
theorem dX4_keepRow_16 : decode cX4_keepRow 16 = .ok (.if_icmp .ge 33, 3) := by decide +kernel
theorem dX4_keepRow_19 : decode cX4_keepRow 19 = .ok (.aload_n 0, 1) := by decide +kernel
theorem dX4_keepRow_20 : decode cX4_keepRow 20 = .ok (.getfield 44, 3) := by decide +kernel
theorem dX4_keepRow_23 : decode cX4_keepRow 23 = .ok (.iload_n 1, 1) := by decide +kernel
theorem dX4_keepRow_24 : decode cX4_keepRow 24 = .ok (.aload_n 0, 1) := by decide +kernel
theorem dX4_keepRow_25 : decode cX4_keepRow 25 = .ok (.getfield 37, 3) := by decide +kernel
theorem dX4_keepRow_28 : decode cX4_keepRow 28 = .ok (.iload_n 1, 1) := by decide +kernel
theorem dX4_keepRow_29 : decode cX4_keepRow 29 = .ok (.iaload, 1) := by decide +kernel
theorem dX4_keepRow_30 : decode cX4_keepRow 30 = .ok (.iastore, 1) := by decide +kernel
theorem dX4_keepRow_31 : decode cX4_keepRow 31 = .ok (.aload_n 0, 1) := by decide +kernel
theorem dX4_keepRow_32 : decode cX4_keepRow 32 = .ok (.getfield 47, 3) := by decide +kernel
theorem dX4_keepRow_35 : decode cX4_keepRow 35 = .ok (.iload_n 1, 1) := by decide +kernel
theorem dX4_keepRow_36 : decode cX4_keepRow 36 = .ok (.aload_n 0, 1) := by decide +kernel
theorem dX4_keepRow_37 : decode cX4_keepRow 37 = .ok (.getfield 41, 3) := by decide +kernel
theorem dX4_keepRow_40 : decode cX4_keepRow 40 = .ok (.iload_n 1, 1) := by decide +kernel
theorem dX4_keepRow_41 : decode cX4_keepRow 41 = .ok (.iaload, 1) := by decide +kernel
theorem dX4_keepRow_42 : decode cX4_keepRow 42 = .ok (.iastore, 1) := by decide +kernel
theorem dX4_keepRow_43 : decode cX4_keepRow 43 = .ok (.iinc 1 1, 3) := by decide +kernel
theorem dX4_keepRow_46 : decode cX4_keepRow 46 = .ok (.goto (-33), 3) := by decide +kernel
theorem dX4_keepRow_49 : decode cX4_keepRow 49 = .ok (.iconst 0, 1) := by decide +kernel
theorem dX4_keepRow_50 : decode cX4_keepRow 50 = .ok (.istore_n 1, 1) := by decide +kernel
theorem dX4_keepRow_51 : decode cX4_keepRow 51 = .ok (.iload_n 1, 1) := by decide +kernel
theorem dX4_keepRow_52 : decode cX4_keepRow 52 = .ok (.iconst 4, 1) := by decide +kernel
theorem dX4_keepRow_53 : decode cX4_keepRow 53 = .ok (.if_icmp .ge 24, 3) := by decide +kernel
theorem dX4_keepRow_56 : decode cX4_keepRow 56 = .ok (.aload_n 0, 1) := by decide +kernel
theorem dX4_keepRow_57 : decode cX4_keepRow 57 = .ok (.getfield 50, 3) := by decide +kernel
theorem dX4_keepRow_60 : decode cX4_keepRow 60 = .ok (.iload_n 1, 1) := by decide +kernel
theorem dX4_keepRow_61 : decode cX4_keepRow 61 = .ok (.aload_n 0, 1) := by decide +kernel
theorem dX4_keepRow_62 : decode cX4_keepRow 62 = .ok (.getfield 20, 3) := by decide +kernel
theorem dX4_keepRow_65 : decode cX4_keepRow 65 = .ok (.iload_n 1, 1) := by decide +kernel
theorem dX4_keepRow_66 : decode cX4_keepRow 66 = .ok (.aaload, 1) := by decide +kernel
theorem dX4_keepRow_67 : decode cX4_keepRow 67 = .ok (.getfield 116, 3) := by decide +kernel
theorem dX4_keepRow_70 : decode cX4_keepRow 70 = .ok (.iastore, 1) := by decide +kernel
theorem dX4_keepRow_71 : decode cX4_keepRow 71 = .ok (.iinc 1 1, 3) := by decide +kernel
theorem dX4_keepRow_74 : decode cX4_keepRow 74 = .ok (.goto (-23), 3) := by decide +kernel
theorem dX4_keepRow_77 : decode cX4_keepRow 77 = .ok (.return_, 1) := by decide +kernel
theorem dX4_plan_0 : decode cX4_plan 0 = .ok (.aload_n 0, 1) := by decide +kernel
theorem dX4_plan_1 : decode cX4_plan 1 = .ok (.iload_n 2, 1) := by decide +kernel
theorem dX4_plan_2 : decode cX4_plan 2 = .ok (.putfield 28, 3) := by decide +kernel
theorem dX4_plan_5 : decode cX4_plan 5 = .ok (.aload_n 0, 1) := by decide +kernel
theorem dX4_plan_6 : decode cX4_plan 6 = .ok (.iload_n 3, 1) := by decide +kernel
theorem dX4_plan_7 : decode cX4_plan 7 = .ok (.bipush 6, 2) := by decide +kernel
theorem dX4_plan_9 : decode cX4_plan 9 = .ok (.invokestatic 64, 3) := by decide +kernel
theorem dX4_plan_12 : decode cX4_plan 12 = .ok (.putfield 31, 3) := by decide +kernel
theorem dX4_plan_15 : decode cX4_plan 15 = .ok (.aload_n 0, 1) := by decide +kernel
theorem dX4_plan_16 : decode cX4_plan 16 = .ok (.aload_n 1, 1) := by decide +kernel
theorem dX4_plan_17 : decode cX4_plan 17 = .ok (.invokevirtual 70, 3) := by decide +kernel
theorem dX4_plan_20 : decode cX4_plan 20 = .ok (.putfield 34, 3) := by decide +kernel
theorem dX4_plan_23 : decode cX4_plan 23 = .ok (.aload_n 0, 1) := by decide +kernel
theorem dX4_plan_24 : decode cX4_plan 24 = .ok (.aload_n 0, 1) := by decide +kernel
theorem dX4_plan_25 : decode cX4_plan 25 = .ok (.getfield 31, 3) := by decide +kernel
theorem dX4_plan_28 : decode cX4_plan 28 = .ok (.putfield 53, 3) := by decide +kernel
theorem dX4_plan_31 : decode cX4_plan 31 = .ok (.aload_n 0, 1) := by decide +kernel
theorem dX4_plan_32 : decode cX4_plan 32 = .ok (.iconst (-1), 1) := by decide +kernel
theorem dX4_plan_33 : decode cX4_plan 33 = .ok (.putfield 56, 3) := by decide +kernel
theorem dX4_plan_36 : decode cX4_plan 36 = .ok (.aload_n 0, 1) := by decide +kernel
theorem dX4_plan_37 : decode cX4_plan 37 = .ok (.aload_n 1, 1) := by decide +kernel
theorem dX4_plan_38 : decode cX4_plan 38 = .ok (.iconst 0, 1) := by decide +kernel
theorem dX4_plan_39 : decode cX4_plan 39 = .ok (.invokevirtual 76, 3) := by decide +kernel
theorem dX4_plan_42 : decode cX4_plan 42 = .ok (.aload_n 0, 1) := by decide +kernel
theorem dX4_plan_43 : decode cX4_plan 43 = .ok (.getfield 56, 3) := by decide +kernel
theorem dX4_plan_46 : decode cX4_plan 46 = .ok (.ireturn, 1) := by decide +kernel
theorem dX4_search_0 : decode cX4_search 0 = .ok (.aload_n 0, 1) := by decide +kernel
theorem dX4_search_1 : decode cX4_search 1 = .ok (.getfield 12, 3) := by decide +kernel
theorem dX4_search_4 : decode cX4_search 4 = .ok (.getfield 80, 3) := by decide +kernel
theorem dX4_search_7 : decode cX4_search 7 = .ok (.aload_n 0, 1) := by decide +kernel
theorem dX4_search_8 : decode cX4_search 8 = .ok (.getfield 12, 3) := by decide +kernel
theorem dX4_search_11 : decode cX4_search 11 = .ok (.invokevirtual 83, 3) := by decide +kernel
theorem dX4_search_14 : decode cX4_search 14 = .ok (.aload_n 0, 1) := by decide +kernel
theorem dX4_search_15 : decode cX4_search 15 = .ok (.getfield 31, 3) := by decide +kernel
theorem dX4_search_18 : decode cX4_search 18 = .ok (.iload_n 2, 1) := by decide +kernel
theorem dX4_search_19 : decode cX4_search 19 = .ok (.isub, 1) := by decide +kernel
theorem dX4_search_20 : decode cX4_search 20 = .ok (.aload_n 0, 1) := by decide +kernel
theorem dX4_search_21 : decode cX4_search 21 = .ok (.getfield 34, 3) := by decide +kernel
theorem dX4_search_24 : decode cX4_search 24 = .ok (.imul, 1) := by decide +kernel
theorem dX4_search_25 : decode cX4_search 25 = .ok (.invokestatic 64, 3) := by decide +kernel
theorem dX4_search_28 : decode cX4_search 28 = .ok (.iadd, 1) := by decide +kernel
theorem dX4_search_29 : decode cX4_search 29 = .ok (.istore_n 3, 1) := by decide +kernel
theorem dX4_search_30 : decode cX4_search 30 = .ok (.aload_n 0, 1) := by decide +kernel
theorem dX4_search_31 : decode cX4_search 31 = .ok (.iload_n 3, 1) := by decide +kernel
theorem dX4_search_32 : decode cX4_search 32 = .ok (.invokevirtual 86, 3) := by decide +kernel
theorem dX4_search_35 : decode cX4_search 35 = .ok (.ifCond .ne 4, 3) := by decide +kernel
theorem dX4_search_38 : decode cX4_search 38 = .ok (.return_, 1) := by decide +kernel
theorem dX4_search_39 : decode cX4_search 39 = .ok (.iload_n 2, 1) := by decide +kernel
theorem dX4_search_40 : decode cX4_search 40 = .ok (.ifCond .lt 17, 3) := by decide +kernel
theorem dX4_search_43 : decode cX4_search 43 = .ok (.iload_n 2, 1) := by decide +kernel
theorem dX4_search_44 : decode cX4_search 44 = .ok (.aload_n 0, 1) := by decide +kernel
theorem dX4_search_45 : decode cX4_search 45 = .ok (.getfield 31, 3) := by decide +kernel
theorem dX4_search_48 : decode cX4_search 48 = .ok (.if_icmp .ge 9, 3) := by decide +kernel
theorem dX4_search_51 : decode cX4_search 51 = .ok (.iload_n 2, 1) := by decide +kernel
theorem dX4_search_52 : decode cX4_search 52 = .ok (.bipush 6, 2) := by decide +kernel
theorem dX4_search_54 : decode cX4_search 54 = .ok (.if_icmp .lt 8, 3) := by decide +kernel
theorem dX4_search_57 : decode cX4_search 57 = .ok (.aload_n 0, 1) := by decide +kernel
theorem dX4_search_58 : decode cX4_search 58 = .ok (.invokevirtual 90, 3) := by decide +kernel
theorem dX4_search_61 : decode cX4_search 61 = .ok (.return_, 1) := by decide +kernel
theorem dX4_search_62 : decode cX4_search 62 = .ok (.iconst 0, 1) := by decide +kernel
theorem dX4_search_63 : decode cX4_search 63 = .ok (.istore 4, 2) := by decide +kernel
theorem dX4_search_65 : decode cX4_search 65 = .ok (.iload 4, 2) := by decide +kernel
theorem dX4_search_67 : decode cX4_search 67 = .ok (.aload_n 0, 1) := by decide +kernel
theorem dX4_search_68 : decode cX4_search 68 = .ok (.getfield 24, 3) := by decide +kernel
theorem dX4_search_71 : decode cX4_search 71 = .ok (.if_icmp .ge 36, 3) := by decide +kernel
theorem dX4_search_74 : decode cX4_search 74 = .ok (.iload 4, 2) := by decide +kernel
theorem dX4_search_76 : decode cX4_search 76 = .ok (.iconst 4, 1) := by decide +kernel
theorem dX4_search_77 : decode cX4_search 77 = .ok (.if_icmp .ge 30, 3) := by decide +kernel
theorem dX4_search_80 : decode cX4_search 80 = .ok (.aload_n 0, 1) := by decide +kernel
theorem dX4_search_81 : decode cX4_search 81 = .ok (.getfield 20, 3) := by decide +kernel
theorem dX4_search_84 : decode cX4_search 84 = .ok (.iload 4, 2) := by decide +kernel
theorem dX4_search_86 : decode cX4_search 86 = .ok (.aaload, 1) := by decide +kernel
theorem dX4_search_87 : decode cX4_search 87 = .ok (.getfield 93, 3) := by decide +kernel
theorem dX4_search_90 : decode cX4_search 90 = .ok (.ifCond .ne 11, 3) := by decide +kernel
theorem dX4_search_93 : decode cX4_search 93 = .ok (.aload_n 0, 1) := by decide +kernel
theorem dX4_search_94 : decode cX4_search 94 = .ok (.aload_n 1, 1) := by decide +kernel
theorem dX4_search_95 : decode cX4_search 95 = .ok (.iload 4, 2) := by decide +kernel
theorem dX4_search_97 : decode cX4_search 97 = .ok (.iload_n 2, 1) := by decide +kernel
theorem dX4_search_98 : decode cX4_search 98 = .ok (.invokevirtual 97, 3) := by decide +kernel
theorem dX4_search_101 : decode cX4_search 101 = .ok (.iinc 4 1, 3) := by decide +kernel
theorem dX4_search_104 : decode cX4_search 104 = .ok (.goto (-39), 3) := by decide +kernel
theorem dX4_search_107 : decode cX4_search 107 = .ok (.return_, 1) := by decide +kernel
theorem dX5_addFlow_0 : decode cX5_addFlow 0 = .ok (.aload_n 0, 1) := by decide +kernel
theorem dX5_addFlow_1 : decode cX5_addFlow 1 = .ok (.getfield 34, 3) := by decide +kernel
theorem dX5_addFlow_4 : decode cX5_addFlow 4 = .ok (.ifCond .lt 42, 3) := by decide +kernel
theorem dX5_addFlow_7 : decode cX5_addFlow 7 = .ok (.aload_n 0, 1) := by decide +kernel
theorem dX5_addFlow_8 : decode cX5_addFlow 8 = .ok (.getfield 34, 3) := by decide +kernel
theorem dX5_addFlow_11 : decode cX5_addFlow 11 = .ok (.bipush 8, 2) := by decide +kernel
theorem dX5_addFlow_13 : decode cX5_addFlow 13 = .ok (.if_icmp .ge 33, 3) := by decide +kernel
theorem dX5_addFlow_16 : decode cX5_addFlow 16 = .ok (.aload_n 0, 1) := by decide +kernel
theorem dX5_addFlow_17 : decode cX5_addFlow 17 = .ok (.getfield 27, 3) := by decide +kernel
theorem dX5_addFlow_20 : decode cX5_addFlow 20 = .ok (.aload_n 0, 1) := by decide +kernel
theorem dX5_addFlow_21 : decode cX5_addFlow 21 = .ok (.getfield 34, 3) := by decide +kernel
theorem dX5_addFlow_24 : decode cX5_addFlow 24 = .ok (.iload_n 1, 1) := by decide +kernel
theorem dX5_addFlow_25 : decode cX5_addFlow 25 = .ok (.iastore, 1) := by decide +kernel
theorem dX5_addFlow_26 : decode cX5_addFlow 26 = .ok (.aload_n 0, 1) := by decide +kernel
theorem dX5_addFlow_27 : decode cX5_addFlow 27 = .ok (.getfield 31, 3) := by decide +kernel
theorem dX5_addFlow_30 : decode cX5_addFlow 30 = .ok (.aload_n 0, 1) := by decide +kernel
theorem dX5_addFlow_31 : decode cX5_addFlow 31 = .ok (.getfield 34, 3) := by decide +kernel
theorem dX5_addFlow_34 : decode cX5_addFlow 34 = .ok (.iload_n 2, 1) := by decide +kernel
theorem dX5_addFlow_35 : decode cX5_addFlow 35 = .ok (.iastore, 1) := by decide +kernel
theorem dX5_addFlow_36 : decode cX5_addFlow 36 = .ok (.aload_n 0, 1) := by decide +kernel
theorem dX5_addFlow_37 : decode cX5_addFlow 37 = .ok (.dup, 1) := by decide +kernel
theorem dX5_addFlow_38 : decode cX5_addFlow 38 = .ok (.getfield 34, 3) := by decide +kernel
theorem dX5_addFlow_41 : decode cX5_addFlow 41 = .ok (.iconst 1, 1) := by decide +kernel
theorem dX5_addFlow_42 : decode cX5_addFlow 42 = .ok (.iadd, 1) := by decide +kernel
theorem dX5_addFlow_43 : decode cX5_addFlow 43 = .ok (.putfield 34, 3) := by decide +kernel
theorem dX5_addFlow_46 : decode cX5_addFlow 46 = .ok (.return_, 1) := by decide +kernel
theorem dX5_asWithout_0 : decode cX5_asWithout 0 = .ok (.aload_n 0, 1) := by decide +kernel
theorem dX5_asWithout_1 : decode cX5_asWithout 1 = .ok (.bipush 10, 2) := by decide +kernel
theorem dX5_asWithout_3 : decode cX5_asWithout 3 = .ok (.putfield 9, 3) := by decide +kernel
theorem dX5_asWithout_6 : decode cX5_asWithout 6 = .ok (.aload_n 0, 1) := by decide +kernel
theorem dX5_asWithout_7 : decode cX5_asWithout 7 = .ok (.bipush 10, 2) := by decide +kernel
theorem dX5_asWithout_9 : decode cX5_asWithout 9 = .ok (.putfield 15, 3) := by decide +kernel
theorem dX5_asWithout_12 : decode cX5_asWithout 12 = .ok (.aload_n 0, 1) := by decide +kernel
theorem dX5_asWithout_13 : decode cX5_asWithout 13 = .ok (.bipush 85, 2) := by decide +kernel
theorem dX5_asWithout_15 : decode cX5_asWithout 15 = .ok (.putfield 18, 3) := by decide +kernel
theorem dX5_asWithout_18 : decode cX5_asWithout 18 = .ok (.aload_n 0, 1) := by decide +kernel
theorem dX5_asWithout_19 : decode cX5_asWithout 19 = .ok (.bipush 20, 2) := by decide +kernel
theorem dX5_asWithout_21 : decode cX5_asWithout 21 = .ok (.putfield 21, 3) := by decide +kernel
theorem dX5_asWithout_24 : decode cX5_asWithout 24 = .ok (.aload_n 0, 1) := by decide +kernel
theorem dX5_asWithout_25 : decode cX5_asWithout 25 = .ok (.iconst 1, 1) := by decide +kernel
theorem dX5_asWithout_26 : decode cX5_asWithout 26 = .ok (.putfield 24, 3) := by decide +kernel
theorem dX5_asWithout_29 : decode cX5_asWithout 29 = .ok (.aload_n 0, 1) := by decide +kernel
theorem dX5_asWithout_30 : decode cX5_asWithout 30 = .ok (.iconst 0, 1) := by decide +kernel
theorem dX5_asWithout_31 : decode cX5_asWithout 31 = .ok (.putfield 34, 3) := by decide +kernel
theorem dX5_asWithout_34 : decode cX5_asWithout 34 = .ok (.return_, 1) := by decide +kernel
theorem dX5_coolDown_0 : decode cX5_coolDown 0 = .ok (.aload_n 1, 1) := by decide +kernel
theorem dX5_coolDown_1 : decode cX5_coolDown 1 = .ok (.dup, 1) := by decide +kernel
theorem dX5_coolDown_2 : decode cX5_coolDown 2 = .ok (.getfield 78, 3) := by decide +kernel
theorem dX5_coolDown_5 : decode cX5_coolDown 5 = .ok (.aload_n 0, 1) := by decide +kernel
theorem dX5_coolDown_6 : decode cX5_coolDown 6 = .ok (.getfield 15, 3) := by decide +kernel
theorem dX5_coolDown_9 : decode cX5_coolDown 9 = .ok (.iconst 1, 1) := by decide +kernel
theorem dX5_coolDown_10 : decode cX5_coolDown 10 = .ok (.if_icmp .ge 7, 3) := by decide +kernel
theorem dX5_coolDown_13 : decode cX5_coolDown 13 = .ok (.iconst 0, 1) := by decide +kernel
theorem dX5_coolDown_14 : decode cX5_coolDown 14 = .ok (.goto 14, 3) := by decide +kernel
theorem dX5_coolDown_17 : decode cX5_coolDown 17 = .ok (.aload_n 1, 1) := by decide +kernel
theorem dX5_coolDown_18 : decode cX5_coolDown 18 = .ok (.getfield 78, 3) := by decide +kernel
theorem dX5_coolDown_21 : decode cX5_coolDown 21 = .ok (.iload_n 2, 1) := by decide +kernel
theorem dX5_coolDown_22 : decode cX5_coolDown 22 = .ok (.isub, 1) := by decide +kernel
theorem dX5_coolDown_23 : decode cX5_coolDown 23 = .ok (.aload_n 0, 1) := by decide +kernel
theorem dX5_coolDown_24 : decode cX5_coolDown 24 = .ok (.getfield 15, 3) := by decide +kernel
theorem dX5_coolDown_27 : decode cX5_coolDown 27 = .ok (.idiv, 1) := by decide +kernel
theorem dX5_coolDown_28 : decode cX5_coolDown 28 = .ok (.isub, 1) := by decide +kernel
theorem dX5_coolDown_29 : decode cX5_coolDown 29 = .ok (.putfield 78, 3) := by decide +kernel
theorem dX5_coolDown_32 : decode cX5_coolDown 32 = .ok (.return_, 1) := by decide +kernel
theorem dX5_flowAt_0 : decode cX5_flowAt 0 = .ok (.iload_n 1, 1) := by decide +kernel
theorem dX5_flowAt_1 : decode cX5_flowAt 1 = .ok (.ifCond .ge 5, 3) := by decide +kernel
theorem dX5_flowAt_4 : decode cX5_flowAt 4 = .ok (.iconst 0, 1) := by decide +kernel
theorem dX5_flowAt_5 : decode cX5_flowAt 5 = .ok (.ireturn, 1) := by decide +kernel
theorem dX5_flowAt_6 : decode cX5_flowAt 6 = .ok (.aload_n 0, 1) := by decide +kernel
theorem dX5_flowAt_7 : decode cX5_flowAt 7 = .ok (.getfield 34, 3) := by decide +kernel
theorem dX5_flowAt_10 : decode cX5_flowAt 10 = .ok (.ifCond .ne 8, 3) := by decide +kernel
theorem dX5_flowAt_13 : decode cX5_flowAt 13 = .ok (.bipush 20, 2) := by decide +kernel
theorem dX5_flowAt_15 : decode cX5_flowAt 15 = .ok (.goto 4, 3) := by decide +kernel
theorem dX5_flowAt_18 : decode cX5_flowAt 18 = .ok (.iconst 0, 1) := by decide +kernel
theorem dX5_flowAt_19 : decode cX5_flowAt 19 = .ok (.istore_n 2, 1) := by decide +kernel
theorem dX5_flowAt_20 : decode cX5_flowAt 20 = .ok (.iconst 0, 1) := by decide +kernel
theorem dX5_flowAt_21 : decode cX5_flowAt 21 = .ok (.istore_n 3, 1) := by decide +kernel
theorem dX5_flowAt_22 : decode cX5_flowAt 22 = .ok (.iload_n 3, 1) := by decide +kernel
theorem dX5_flowAt_23 : decode cX5_flowAt 23 = .ok (.aload_n 0, 1) := by decide +kernel
theorem dX5_flowAt_24 : decode cX5_flowAt 24 = .ok (.getfield 34, 3) := by decide +kernel
theorem dX5_flowAt_27 : decode cX5_flowAt 27 = .ok (.if_icmp .ge 32, 3) := by decide +kernel
theorem dX5_flowAt_30 : decode cX5_flowAt 30 = .ok (.iload_n 3, 1) := by decide +kernel
theorem dX5_flowAt_31 : decode cX5_flowAt 31 = .ok (.bipush 8, 2) := by decide +kernel
theorem dX5_flowAt_33 : decode cX5_flowAt 33 = .ok (.if_icmp .ge 26, 3) := by decide +kernel
theorem dX5_flowAt_36 : decode cX5_flowAt 36 = .ok (.aload_n 0, 1) := by decide +kernel
theorem dX5_flowAt_37 : decode cX5_flowAt 37 = .ok (.getfield 27, 3) := by decide +kernel
theorem dX5_flowAt_40 : decode cX5_flowAt 40 = .ok (.iload_n 3, 1) := by decide +kernel
theorem dX5_flowAt_41 : decode cX5_flowAt 41 = .ok (.iaload, 1) := by decide +kernel
theorem dX5_flowAt_42 : decode cX5_flowAt 42 = .ok (.iload_n 1, 1) := by decide +kernel
theorem dX5_flowAt_43 : decode cX5_flowAt 43 = .ok (.if_icmp .gt 10, 3) := by decide +kernel
theorem dX5_flowAt_46 : decode cX5_flowAt 46 = .ok (.aload_n 0, 1) := by decide +kernel
theorem dX5_flowAt_47 : decode cX5_flowAt 47 = .ok (.getfield 31, 3) := by decide +kernel
theorem dX5_flowAt_50 : decode cX5_flowAt 50 = .ok (.iload_n 3, 1) := by decide +kernel
theorem dX5_flowAt_51 : decode cX5_flowAt 51 = .ok (.iaload, 1) := by decide +kernel
theorem dX5_flowAt_52 : decode cX5_flowAt 52 = .ok (.istore_n 2, 1) := by decide +kernel
theorem dX5_flowAt_53 : decode cX5_flowAt 53 = .ok (.iinc 3 1, 3) := by decide +kernel
theorem dX5_flowAt_56 : decode cX5_flowAt 56 = .ok (.goto (-34), 3) := by decide +kernel
theorem dX5_flowAt_59 : decode cX5_flowAt 59 = .ok (.iload_n 2, 1) := by decide +kernel
theorem dX5_flowAt_60 : decode cX5_flowAt 60 = .ok (.ireturn, 1) := by decide +kernel
theorem dX5_init_0 : decode cX5_init 0 = .ok (.aload_n 0, 1) := by decide +kernel
theorem dX5_init_1 : decode cX5_init 1 = .ok (.invokespecial 3, 3) := by decide +kernel
theorem dX5_init_4 : decode cX5_init 4 = .ok (.aload_n 0, 1) := by decide +kernel
theorem dX5_init_5 : decode cX5_init 5 = .ok (.bipush 10, 2) := by decide +kernel
theorem dX5_init_7 : decode cX5_init 7 = .ok (.putfield 9, 3) := by decide +kernel
theorem dX5_init_10 : decode cX5_init 10 = .ok (.aload_n 0, 1) := by decide +kernel
theorem dX5_init_11 : decode cX5_init 11 = .ok (.bipush 10, 2) := by decide +kernel
theorem dX5_init_13 : decode cX5_init 13 = .ok (.putfield 15, 3) := by decide +kernel
theorem dX5_init_16 : decode cX5_init 16 = .ok (.aload_n 0, 1) := by decide +kernel
theorem dX5_init_17 : decode cX5_init 17 = .ok (.bipush 85, 2) := by decide +kernel
theorem dX5_init_19 : decode cX5_init 19 = .ok (.putfield 18, 3) := by decide +kernel
theorem dX5_init_22 : decode cX5_init 22 = .ok (.aload_n 0, 1) := by decide +kernel
theorem dX5_init_23 : decode cX5_init 23 = .ok (.bipush 20, 2) := by decide +kernel
theorem dX5_init_25 : decode cX5_init 25 = .ok (.putfield 21, 3) := by decide +kernel
theorem dX5_init_28 : decode cX5_init 28 = .ok (.aload_n 0, 1) := by decide +kernel
theorem dX5_init_29 : decode cX5_init 29 = .ok (.iconst 1, 1) := by decide +kernel
theorem dX5_init_30 : decode cX5_init 30 = .ok (.putfield 24, 3) := by decide +kernel
theorem dX5_init_33 : decode cX5_init 33 = .ok (.aload_n 0, 1) := by decide +kernel
theorem dX5_init_34 : decode cX5_init 34 = .ok (.bipush 8, 2) := by decide +kernel
theorem dX5_init_36 : decode cX5_init 36 = .ok (.newarray .int, 2) := by decide +kernel
theorem dX5_init_38 : decode cX5_init 38 = .ok (.putfield 27, 3) := by decide +kernel
theorem dX5_init_41 : decode cX5_init 41 = .ok (.aload_n 0, 1) := by decide +kernel
theorem dX5_init_42 : decode cX5_init 42 = .ok (.bipush 8, 2) := by decide +kernel
theorem dX5_init_44 : decode cX5_init 44 = .ok (.newarray .int, 2) := by decide +kernel
theorem dX5_init_46 : decode cX5_init 46 = .ok (.putfield 31, 3) := by decide +kernel
theorem dX5_init_49 : decode cX5_init 49 = .ok (.aload_n 0, 1) := by decide +kernel
theorem dX5_init_50 : decode cX5_init 50 = .ok (.iconst 0, 1) := by decide +kernel
theorem dX5_init_51 : decode cX5_init 51 = .ok (.putfield 34, 3) := by decide +kernel
theorem dX5_init_54 : decode cX5_init 54 = .ok (.return_, 1) := by decide +kernel
theorem dX5_mostFlow_0 : decode cX5_mostFlow 0 = .ok (.aload_n 0, 1) := by decide +kernel
theorem dX5_mostFlow_1 : decode cX5_mostFlow 1 = .ok (.getfield 34, 3) := by decide +kernel
theorem dX5_mostFlow_4 : decode cX5_mostFlow 4 = .ok (.ifCond .ne 8, 3) := by decide +kernel
theorem dX5_mostFlow_7 : decode cX5_mostFlow 7 = .ok (.bipush 20, 2) := by decide +kernel
theorem dX5_mostFlow_9 : decode cX5_mostFlow 9 = .ok (.goto 4, 3) := by decide +kernel
theorem dX5_mostFlow_12 : decode cX5_mostFlow 12 = .ok (.iconst 0, 1) := by decide +kernel
theorem dX5_mostFlow_13 : decode cX5_mostFlow 13 = .ok (.istore_n 1, 1) := by decide +kernel
theorem dX5_mostFlow_14 : decode cX5_mostFlow 14 = .ok (.iconst 0, 1) := by decide +kernel
theorem dX5_mostFlow_15 : decode cX5_mostFlow 15 = .ok (.istore_n 2, 1) := by decide +kernel
theorem dX5_mostFlow_16 : decode cX5_mostFlow 16 = .ok (.iload_n 2, 1) := by decide +kernel
theorem dX5_mostFlow_17 : decode cX5_mostFlow 17 = .ok (.aload_n 0, 1) := by decide +kernel
theorem dX5_mostFlow_18 : decode cX5_mostFlow 18 = .ok (.getfield 34, 3) := by decide +kernel
theorem dX5_mostFlow_21 : decode cX5_mostFlow 21 = .ok (.if_icmp .ge 26, 3) := by decide +kernel
theorem dX5_mostFlow_24 : decode cX5_mostFlow 24 = .ok (.iload_n 2, 1) := by decide +kernel
theorem dX5_mostFlow_25 : decode cX5_mostFlow 25 = .ok (.bipush 8, 2) := by decide +kernel
theorem dX5_mostFlow_27 : decode cX5_mostFlow 27 = .ok (.if_icmp .ge 20, 3) := by decide +kernel
theorem dX5_mostFlow_30 : decode cX5_mostFlow 30 = .ok (.iload_n 1, 1) := by decide +kernel
theorem dX5_mostFlow_31 : decode cX5_mostFlow 31 = .ok (.aload_n 0, 1) := by decide +kernel
theorem dX5_mostFlow_32 : decode cX5_mostFlow 32 = .ok (.getfield 31, 3) := by decide +kernel
theorem dX5_mostFlow_35 : decode cX5_mostFlow 35 = .ok (.iload_n 2, 1) := by decide +kernel
theorem dX5_mostFlow_36 : decode cX5_mostFlow 36 = .ok (.iaload, 1) := by decide +kernel
theorem dX5_mostFlow_37 : decode cX5_mostFlow 37 = .ok (.invokestatic 37, 3) := by decide +kernel
theorem dX5_mostFlow_40 : decode cX5_mostFlow 40 = .ok (.istore_n 1, 1) := by decide +kernel
theorem dX5_mostFlow_41 : decode cX5_mostFlow 41 = .ok (.iinc 2 1, 3) := by decide +kernel
theorem dX5_mostFlow_44 : decode cX5_mostFlow 44 = .ok (.goto (-28), 3) := by decide +kernel
theorem dX5_mostFlow_47 : decode cX5_mostFlow 47 = .ok (.iload_n 1, 1) := by decide +kernel
theorem dX5_mostFlow_48 : decode cX5_mostFlow 48 = .ok (.ireturn, 1) := by decide +kernel
theorem dX5_moveOver_0 : decode cX5_moveOver 0 = .ok (.aload_n 1, 1) := by decide +kernel
theorem dX5_moveOver_1 : decode cX5_moveOver 1 = .ok (.dup, 1) := by decide +kernel
theorem dX5_moveOver_2 : decode cX5_moveOver 2 = .ok (.getfield 70, 3) := by decide +kernel
theorem dX5_moveOver_5 : decode cX5_moveOver 5 = .ok (.iload_n 3, 1) := by decide +kernel
theorem dX5_moveOver_6 : decode cX5_moveOver 6 = .ok (.isub, 1) := by decide +kernel
theorem dX5_moveOver_7 : decode cX5_moveOver 7 = .ok (.putfield 70, 3) := by decide +kernel
theorem dX5_moveOver_10 : decode cX5_moveOver 10 = .ok (.aload_n 1, 1) := by decide +kernel
theorem dX5_moveOver_11 : decode cX5_moveOver 11 = .ok (.dup, 1) := by decide +kernel
theorem dX5_moveOver_12 : decode cX5_moveOver 12 = .ok (.getfield 81, 3) := by decide +kernel
theorem dX5_moveOver_15 : decode cX5_moveOver 15 = .ok (.iload_n 3, 1) := by decide +kernel
theorem dX5_moveOver_16 : decode cX5_moveOver 16 = .ok (.iadd, 1) := by decide +kernel
theorem dX5_moveOver_17 : decode cX5_moveOver 17 = .ok (.putfield 81, 3) := by decide +kernel
theorem dX5_moveOver_20 : decode cX5_moveOver 20 = .ok (.aload_n 2, 1) := by decide +kernel
theorem dX5_moveOver_21 : decode cX5_moveOver 21 = .ok (.dup, 1) := by decide +kernel
theorem dX5_moveOver_22 : decode cX5_moveOver 22 = .ok (.getfield 76, 3) := by decide +kernel
theorem dX5_moveOver_25 : decode cX5_moveOver 25 = .ok (.iload_n 3, 1) := by decide +kernel
theorem dX5_moveOver_26 : decode cX5_moveOver 26 = .ok (.iadd, 1) := by decide +kernel
theorem dX5_moveOver_27 : decode cX5_moveOver 27 = .ok (.putfield 76, 3) := by decide +kernel
theorem dX5_moveOver_30 : decode cX5_moveOver 30 = .ok (.aload_n 2, 1) := by decide +kernel
theorem dX5_moveOver_31 : decode cX5_moveOver 31 = .ok (.dup, 1) := by decide +kernel
theorem dX5_moveOver_32 : decode cX5_moveOver 32 = .ok (.getfield 84, 3) := by decide +kernel
theorem dX5_moveOver_35 : decode cX5_moveOver 35 = .ok (.iload_n 3, 1) := by decide +kernel
theorem dX5_moveOver_36 : decode cX5_moveOver 36 = .ok (.iadd, 1) := by decide +kernel
theorem dX5_moveOver_37 : decode cX5_moveOver 37 = .ok (.putfield 84, 3) := by decide +kernel
theorem dX5_moveOver_40 : decode cX5_moveOver 40 = .ok (.aload_n 2, 1) := by decide +kernel
theorem dX5_moveOver_41 : decode cX5_moveOver 41 = .ok (.dup, 1) := by decide +kernel
theorem dX5_moveOver_42 : decode cX5_moveOver 42 = .ok (.getfield 78, 3) := by decide +kernel
theorem dX5_moveOver_45 : decode cX5_moveOver 45 = .ok (.aload_n 2, 1) := by decide +kernel
theorem dX5_moveOver_46 : decode cX5_moveOver 46 = .ok (.getfield 73, 3) := by decide +kernel
theorem dX5_moveOver_49 : decode cX5_moveOver 49 = .ok (.iconst 1, 1) := by decide +kernel
theorem dX5_moveOver_50 : decode cX5_moveOver 50 = .ok (.if_icmp .ge 7, 3) := by decide +kernel
theorem dX5_moveOver_53 : decode cX5_moveOver 53 = .ok (.iconst 0, 1) := by decide +kernel
theorem dX5_moveOver_54 : decode cX5_moveOver 54 = .ok (.goto 14, 3) := by decide +kernel
theorem dX5_moveOver_57 : decode cX5_moveOver 57 = .ok (.iload_n 3, 1) := by decide +kernel
theorem dX5_moveOver_58 : decode cX5_moveOver 58 = .ok (.aload_n 0, 1) := by decide +kernel
theorem dX5_moveOver_59 : decode cX5_moveOver 59 = .ok (.getfield 9, 3) := by decide +kernel
theorem dX5_moveOver_62 : decode cX5_moveOver 62 = .ok (.imul, 1) := by decide +kernel
theorem dX5_moveOver_63 : decode cX5_moveOver 63 = .ok (.aload_n 2, 1) := by decide +kernel
theorem dX5_moveOver_64 : decode cX5_moveOver 64 = .ok (.getfield 73, 3) := by decide +kernel
theorem dX5_moveOver_67 : decode cX5_moveOver 67 = .ok (.idiv, 1) := by decide +kernel
theorem dX5_moveOver_68 : decode cX5_moveOver 68 = .ok (.iadd, 1) := by decide +kernel
theorem dX5_moveOver_69 : decode cX5_moveOver 69 = .ok (.putfield 78, 3) := by decide +kernel
theorem dX5_moveOver_72 : decode cX5_moveOver 72 = .ok (.return_, 1) := by decide +kernel
theorem dX5_nextFrom_0 : decode cX5_nextFrom 0 = .ok (.aload_n 0, 1) := by decide +kernel
theorem dX5_nextFrom_1 : decode cX5_nextFrom 1 = .ok (.getfield 34, 3) := by decide +kernel
theorem dX5_nextFrom_4 : decode cX5_nextFrom 4 = .ok (.iconst 1, 1) := by decide +kernel
theorem dX5_nextFrom_5 : decode cX5_nextFrom 5 = .ok (.if_icmp .lt 28, 3) := by decide +kernel
theorem dX5_nextFrom_8 : decode cX5_nextFrom 8 = .ok (.aload_n 0, 1) := by decide +kernel
theorem dX5_nextFrom_9 : decode cX5_nextFrom 9 = .ok (.getfield 34, 3) := by decide +kernel
theorem dX5_nextFrom_12 : decode cX5_nextFrom 12 = .ok (.bipush 8, 2) := by decide +kernel
theorem dX5_nextFrom_14 : decode cX5_nextFrom 14 = .ok (.if_icmp .gt 19, 3) := by decide +kernel
theorem dX5_nextFrom_17 : decode cX5_nextFrom 17 = .ok (.aload_n 0, 1) := by decide +kernel
theorem dX5_nextFrom_18 : decode cX5_nextFrom 18 = .ok (.getfield 27, 3) := by decide +kernel
theorem dX5_nextFrom_21 : decode cX5_nextFrom 21 = .ok (.aload_n 0, 1) := by decide +kernel
theorem dX5_nextFrom_22 : decode cX5_nextFrom 22 = .ok (.getfield 34, 3) := by decide +kernel
theorem dX5_nextFrom_25 : decode cX5_nextFrom 25 = .ok (.iconst 1, 1) := by decide +kernel
theorem dX5_nextFrom_26 : decode cX5_nextFrom 26 = .ok (.isub, 1) := by decide +kernel
theorem dX5_nextFrom_27 : decode cX5_nextFrom 27 = .ok (.iaload, 1) := by decide +kernel
theorem dX5_nextFrom_28 : decode cX5_nextFrom 28 = .ok (.iconst 1, 1) := by decide +kernel
theorem dX5_nextFrom_29 : decode cX5_nextFrom 29 = .ok (.iadd, 1) := by decide +kernel
theorem dX5_nextFrom_30 : decode cX5_nextFrom 30 = .ok (.goto 4, 3) := by decide +kernel
theorem dX5_nextFrom_33 : decode cX5_nextFrom 33 = .ok (.iconst 0, 1) := by decide +kernel
theorem dX5_nextFrom_34 : decode cX5_nextFrom 34 = .ok (.ireturn, 1) := by decide +kernel
theorem dX5_unitsOver_0 : decode cX5_unitsOver 0 = .ok (.aload_n 0, 1) := by decide +kernel
theorem dX5_unitsOver_1 : decode cX5_unitsOver 1 = .ok (.aload_n 1, 1) := by decide +kernel
theorem dX5_unitsOver_2 : decode cX5_unitsOver 2 = .ok (.invokevirtual 43, 3) := by decide +kernel
theorem dX5_unitsOver_5 : decode cX5_unitsOver 5 = .ok (.aload_n 2, 1) := by decide +kernel
theorem dX5_unitsOver_6 : decode cX5_unitsOver 6 = .ok (.invokevirtual 49, 3) := by decide +kernel
theorem dX5_unitsOver_9 : decode cX5_unitsOver 9 = .ok (.isub, 1) := by decide +kernel
theorem dX5_unitsOver_10 : decode cX5_unitsOver 10 = .ok (.invokevirtual 52, 3) := by decide +kernel
theorem dX5_unitsOver_13 : decode cX5_unitsOver 13 = .ok (.istore_n 3, 1) := by decide +kernel
theorem dX5_unitsOver_14 : decode cX5_unitsOver 14 = .ok (.iload_n 3, 1) := by decide +kernel
theorem dX5_unitsOver_15 : decode cX5_unitsOver 15 = .ok (.aload_n 0, 1) := by decide +kernel
theorem dX5_unitsOver_16 : decode cX5_unitsOver 16 = .ok (.aload_n 1, 1) := by decide +kernel
theorem dX5_unitsOver_17 : decode cX5_unitsOver 17 = .ok (.aload_n 2, 1) := by decide +kernel
theorem dX5_unitsOver_18 : decode cX5_unitsOver 18 = .ok (.invokevirtual 56, 3) := by decide +kernel
theorem dX5_unitsOver_21 : decode cX5_unitsOver 21 = .ok (.invokestatic 60, 3) := by decide +kernel
theorem dX5_unitsOver_24 : decode cX5_unitsOver 24 = .ok (.istore_n 3, 1) := by decide +kernel
theorem dX5_unitsOver_25 : decode cX5_unitsOver 25 = .ok (.iload_n 3, 1) := by decide +kernel
theorem dX5_unitsOver_26 : decode cX5_unitsOver 26 = .ok (.aload_n 2, 1) := by decide +kernel
theorem dX5_unitsOver_27 : decode cX5_unitsOver 27 = .ok (.invokevirtual 63, 3) := by decide +kernel
theorem dX5_unitsOver_30 : decode cX5_unitsOver 30 = .ok (.invokestatic 60, 3) := by decide +kernel
theorem dX5_unitsOver_33 : decode cX5_unitsOver 33 = .ok (.istore_n 3, 1) := by decide +kernel
theorem dX5_unitsOver_34 : decode cX5_unitsOver 34 = .ok (.iload_n 3, 1) := by decide +kernel
theorem dX5_unitsOver_35 : decode cX5_unitsOver 35 = .ok (.aload_n 0, 1) := by decide +kernel
theorem dX5_unitsOver_36 : decode cX5_unitsOver 36 = .ok (.aload_n 2, 1) := by decide +kernel
theorem dX5_unitsOver_37 : decode cX5_unitsOver 37 = .ok (.invokevirtual 66, 3) := by decide +kernel
theorem dX5_unitsOver_40 : decode cX5_unitsOver 40 = .ok (.invokestatic 60, 3) := by decide +kernel
theorem dX5_unitsOver_43 : decode cX5_unitsOver 43 = .ok (.ireturn, 1) := by decide +kernel
theorem dX5_unitsToEven_0 : decode cX5_unitsToEven 0 = .ok (.aload_n 1, 1) := by decide +kernel
theorem dX5_unitsToEven_1 : decode cX5_unitsToEven 1 = .ok (.getfield 70, 3) := by decide +kernel
theorem dX5_unitsToEven_4 : decode cX5_unitsToEven 4 = .ok (.aload_n 2, 1) := by decide +kernel
theorem dX5_unitsToEven_5 : decode cX5_unitsToEven 5 = .ok (.getfield 73, 3) := by decide +kernel
theorem dX5_unitsToEven_8 : decode cX5_unitsToEven 8 = .ok (.imul, 1) := by decide +kernel
theorem dX5_unitsToEven_9 : decode cX5_unitsToEven 9 = .ok (.aload_n 2, 1) := by decide +kernel
theorem dX5_unitsToEven_10 : decode cX5_unitsToEven 10 = .ok (.getfield 76, 3) := by decide +kernel
theorem dX5_unitsToEven_13 : decode cX5_unitsToEven 13 = .ok (.aload_n 1, 1) := by decide +kernel
theorem dX5_unitsToEven_14 : decode cX5_unitsToEven 14 = .ok (.getfield 77, 3) := by decide +kernel
theorem dX5_unitsToEven_17 : decode cX5_unitsToEven 17 = .ok (.imul, 1) := by decide +kernel
theorem dX5_unitsToEven_18 : decode cX5_unitsToEven 18 = .ok (.isub, 1) := by decide +kernel
theorem dX5_unitsToEven_19 : decode cX5_unitsToEven 19 = .ok (.istore_n 3, 1) := by decide +kernel
theorem dX5_unitsToEven_20 : decode cX5_unitsToEven 20 = .ok (.aload_n 1, 1) := by decide +kernel
theorem dX5_unitsToEven_21 : decode cX5_unitsToEven 21 = .ok (.getfield 77, 3) := by decide +kernel
theorem dX5_unitsToEven_24 : decode cX5_unitsToEven 24 = .ok (.aload_n 2, 1) := by decide +kernel
theorem dX5_unitsToEven_25 : decode cX5_unitsToEven 25 = .ok (.getfield 73, 3) := by decide +kernel
theorem dX5_unitsToEven_28 : decode cX5_unitsToEven 28 = .ok (.iadd, 1) := by decide +kernel
theorem dX5_unitsToEven_29 : decode cX5_unitsToEven 29 = .ok (.istore 4, 2) := by decide +kernel
theorem dX5_unitsToEven_31 : decode cX5_unitsToEven 31 = .ok (.iload_n 3, 1) := by decide +kernel
theorem dX5_unitsToEven_32 : decode cX5_unitsToEven 32 = .ok (.ifCond .le 9, 3) := by decide +kernel
theorem dX5_unitsToEven_35 : decode cX5_unitsToEven 35 = .ok (.iload 4, 2) := by decide +kernel
theorem dX5_unitsToEven_37 : decode cX5_unitsToEven 37 = .ok (.iconst 1, 1) := by decide +kernel
theorem dX5_unitsToEven_38 : decode cX5_unitsToEven 38 = .ok (.if_icmp .ge 7, 3) := by decide +kernel
theorem dX5_unitsToEven_41 : decode cX5_unitsToEven 41 = .ok (.iconst 0, 1) := by decide +kernel
theorem dX5_unitsToEven_42 : decode cX5_unitsToEven 42 = .ok (.goto 7, 3) := by decide +kernel
theorem dX5_unitsToEven_45 : decode cX5_unitsToEven 45 = .ok (.iload_n 3, 1) := by decide +kernel
theorem dX5_unitsToEven_46 : decode cX5_unitsToEven 46 = .ok (.iload 4, 2) := by decide +kernel
theorem dX5_unitsToEven_48 : decode cX5_unitsToEven 48 = .ok (.idiv, 1) := by decide +kernel
theorem dX5_unitsToEven_49 : decode cX5_unitsToEven 49 = .ok (.ireturn, 1) := by decide +kernel
theorem dX5_unitsToLimit_0 : decode cX5_unitsToLimit 0 = .ok (.bipush 10, 2) := by decide +kernel
theorem dX5_unitsToLimit_2 : decode cX5_unitsToLimit 2 = .ok (.aload_n 0, 1) := by decide +kernel
theorem dX5_unitsToLimit_3 : decode cX5_unitsToLimit 3 = .ok (.getfield 18, 3) := by decide +kernel
theorem dX5_unitsToLimit_6 : decode cX5_unitsToLimit 6 = .ok (.imul, 1) := by decide +kernel
theorem dX5_unitsToLimit_7 : decode cX5_unitsToLimit 7 = .ok (.aload_n 1, 1) := by decide +kernel
theorem dX5_unitsToLimit_8 : decode cX5_unitsToLimit 8 = .ok (.getfield 78, 3) := by decide +kernel
theorem dX5_unitsToLimit_11 : decode cX5_unitsToLimit 11 = .ok (.isub, 1) := by decide +kernel
theorem dX5_unitsToLimit_12 : decode cX5_unitsToLimit 12 = .ok (.istore_n 2, 1) := by decide +kernel
theorem dX5_unitsToLimit_13 : decode cX5_unitsToLimit 13 = .ok (.iload_n 2, 1) := by decide +kernel
theorem dX5_unitsToLimit_14 : decode cX5_unitsToLimit 14 = .ok (.ifCond .ge 5, 3) := by decide +kernel
theorem dX5_unitsToLimit_17 : decode cX5_unitsToLimit 17 = .ok (.iconst 0, 1) := by decide +kernel
theorem dX5_unitsToLimit_18 : decode cX5_unitsToLimit 18 = .ok (.ireturn, 1) := by decide +kernel
theorem dX5_unitsToLimit_19 : decode cX5_unitsToLimit 19 = .ok (.aload_n 0, 1) := by decide +kernel
theorem dX5_unitsToLimit_20 : decode cX5_unitsToLimit 20 = .ok (.getfield 9, 3) := by decide +kernel
theorem dX5_unitsToLimit_23 : decode cX5_unitsToLimit 23 = .ok (.iconst 1, 1) := by decide +kernel
theorem dX5_unitsToLimit_24 : decode cX5_unitsToLimit 24 = .ok (.if_icmp .ge 9, 3) := by decide +kernel
theorem dX5_unitsToLimit_27 : decode cX5_unitsToLimit 27 = .ok (.sipush 500, 3) := by decide +kernel
theorem dX5_unitsToLimit_30 : decode cX5_unitsToLimit 30 = .ok (.goto 18, 3) := by decide +kernel
theorem dX5_unitsToLimit_33 : decode cX5_unitsToLimit 33 = .ok (.iload_n 2, 1) := by decide +kernel
theorem dX5_unitsToLimit_34 : decode cX5_unitsToLimit 34 = .ok (.iconst 1, 1) := by decide +kernel
theorem dX5_unitsToLimit_35 : decode cX5_unitsToLimit 35 = .ok (.iadd, 1) := by decide +kernel
theorem dX5_unitsToLimit_36 : decode cX5_unitsToLimit 36 = .ok (.aload_n 1, 1) := by decide +kernel
theorem dX5_unitsToLimit_37 : decode cX5_unitsToLimit 37 = .ok (.getfield 73, 3) := by decide +kernel
theorem dX5_unitsToLimit_40 : decode cX5_unitsToLimit 40 = .ok (.imul, 1) := by decide +kernel
theorem dX5_unitsToLimit_41 : decode cX5_unitsToLimit 41 = .ok (.iconst 1, 1) := by decide +kernel
theorem dX5_unitsToLimit_42 : decode cX5_unitsToLimit 42 = .ok (.isub, 1) := by decide +kernel
theorem dX5_unitsToLimit_43 : decode cX5_unitsToLimit 43 = .ok (.aload_n 0, 1) := by decide +kernel
theorem dX5_unitsToLimit_44 : decode cX5_unitsToLimit 44 = .ok (.getfield 9, 3) := by decide +kernel
theorem dX5_unitsToLimit_47 : decode cX5_unitsToLimit 47 = .ok (.idiv, 1) := by decide +kernel
theorem dX5_unitsToLimit_48 : decode cX5_unitsToLimit 48 = .ok (.ireturn, 1) := by decide +kernel
theorem dX6_append_0 : decode cX6_append 0 = .ok (.bipush 24, 2) := by decide +kernel
theorem dX6_append_2 : decode cX6_append 2 = .ok (.istore_n 2, 1) := by decide +kernel
theorem dX6_append_3 : decode cX6_append 3 = .ok (.iload_n 2, 1) := by decide +kernel
theorem dX6_append_4 : decode cX6_append 4 = .ok (.ifCond .lt 49, 3) := by decide +kernel
theorem dX6_append_7 : decode cX6_append 7 = .ok (.aload_n 0, 1) := by decide +kernel
theorem dX6_append_8 : decode cX6_append 8 = .ok (.getfield 15, 3) := by decide +kernel
theorem dX6_append_11 : decode cX6_append 11 = .ok (.ifCond .lt 36, 3) := by decide +kernel
theorem dX6_append_14 : decode cX6_append 14 = .ok (.aload_n 0, 1) := by decide +kernel
theorem dX6_append_15 : decode cX6_append 15 = .ok (.getfield 15, 3) := by decide +kernel
theorem dX6_append_18 : decode cX6_append 18 = .ok (.sipush 200, 3) := by decide +kernel
theorem dX6_append_21 : decode cX6_append 21 = .ok (.if_icmp .ge 26, 3) := by decide +kernel
theorem dX6_append_24 : decode cX6_append 24 = .ok (.aload_n 0, 1) := by decide +kernel
theorem dX6_append_25 : decode cX6_append 25 = .ok (.getfield 9, 3) := by decide +kernel
theorem dX6_append_28 : decode cX6_append 28 = .ok (.aload_n 0, 1) := by decide +kernel
theorem dX6_append_29 : decode cX6_append 29 = .ok (.getfield 15, 3) := by decide +kernel
theorem dX6_append_32 : decode cX6_append 32 = .ok (.iload_n 1, 1) := by decide +kernel
theorem dX6_append_33 : decode cX6_append 33 = .ok (.iload_n 2, 1) := by decide +kernel
theorem dX6_append_34 : decode cX6_append 34 = .ok (.iushr, 1) := by decide +kernel
theorem dX6_append_35 : decode cX6_append 35 = .ok (.i2b, 1) := by decide +kernel
theorem dX6_append_36 : decode cX6_append 36 = .ok (.bastore, 1) := by decide +kernel
theorem dX6_append_37 : decode cX6_append 37 = .ok (.aload_n 0, 1) := by decide +kernel
theorem dX6_append_38 : decode cX6_append 38 = .ok (.dup, 1) := by decide +kernel
theorem dX6_append_39 : decode cX6_append 39 = .ok (.getfield 15, 3) := by decide +kernel
theorem dX6_append_42 : decode cX6_append 42 = .ok (.iconst 1, 1) := by decide +kernel
theorem dX6_append_43 : decode cX6_append 43 = .ok (.iadd, 1) := by decide +kernel
theorem dX6_append_44 : decode cX6_append 44 = .ok (.putfield 15, 3) := by decide +kernel
theorem dX6_append_47 : decode cX6_append 47 = .ok (.iinc 2 (-8), 3) := by decide +kernel
theorem dX6_append_50 : decode cX6_append 50 = .ok (.goto (-47), 3) := by decide +kernel
theorem dX6_append_53 : decode cX6_append 53 = .ok (.return_, 1) := by decide +kernel
theorem dX6_at_0 : decode cX6_at 0 = .ok (.iload_n 1, 1) := by decide +kernel
theorem dX6_at_1 : decode cX6_at 1 = .ok (.ifCond .lt 31, 3) := by decide +kernel
theorem dX6_at_4 : decode cX6_at 4 = .ok (.iload_n 1, 1) := by decide +kernel
theorem dX6_at_5 : decode cX6_at 5 = .ok (.aload_n 0, 1) := by decide +kernel
theorem dX6_at_6 : decode cX6_at 6 = .ok (.getfield 15, 3) := by decide +kernel
theorem dX6_at_9 : decode cX6_at 9 = .ok (.if_icmp .ge 23, 3) := by decide +kernel
theorem dX6_at_12 : decode cX6_at 12 = .ok (.iload_n 1, 1) := by decide +kernel
theorem dX6_at_13 : decode cX6_at 13 = .ok (.sipush 200, 3) := by decide +kernel
theorem dX6_at_16 : decode cX6_at 16 = .ok (.if_icmp .ge 16, 3) := by decide +kernel
theorem dX6_at_19 : decode cX6_at 19 = .ok (.aload_n 0, 1) := by decide +kernel
theorem dX6_at_20 : decode cX6_at 20 = .ok (.getfield 9, 3) := by decide +kernel
theorem dX6_at_23 : decode cX6_at 23 = .ok (.iload_n 1, 1) := by decide +kernel
theorem dX6_at_24 : decode cX6_at 24 = .ok (.baload, 1) := by decide +kernel
theorem dX6_at_25 : decode cX6_at 25 = .ok (.sipush 255, 3) := by decide +kernel
theorem dX6_at_28 : decode cX6_at 28 = .ok (.iand, 1) := by decide +kernel
theorem dX6_at_29 : decode cX6_at 29 = .ok (.goto 4, 3) := by decide +kernel
theorem dX6_at_32 : decode cX6_at 32 = .ok (.iconst (-1), 1) := by decide +kernel
theorem dX6_at_33 : decode cX6_at 33 = .ok (.ireturn, 1) := by decide +kernel
theorem dX6_init_0 : decode cX6_init 0 = .ok (.aload_n 0, 1) := by decide +kernel
theorem dX6_init_1 : decode cX6_init 1 = .ok (.invokespecial 3, 3) := by decide +kernel
theorem dX6_init_4 : decode cX6_init 4 = .ok (.aload_n 0, 1) := by decide +kernel
theorem dX6_init_5 : decode cX6_init 5 = .ok (.sipush 200, 3) := by decide +kernel
theorem dX6_init_8 : decode cX6_init 8 = .ok (.newarray .byte, 2) := by decide +kernel
theorem dX6_init_10 : decode cX6_init 10 = .ok (.putfield 9, 3) := by decide +kernel
theorem dX6_init_13 : decode cX6_init 13 = .ok (.aload_n 0, 1) := by decide +kernel
theorem dX6_init_14 : decode cX6_init 14 = .ok (.iconst 0, 1) := by decide +kernel
theorem dX6_init_15 : decode cX6_init 15 = .ok (.putfield 15, 3) := by decide +kernel
theorem dX6_init_18 : decode cX6_init 18 = .ok (.return_, 1) := by decide +kernel
