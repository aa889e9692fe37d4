theorem dX7_air_0 : decode cX7_air 0 = .ok (.iload_n 1, 1) := by decide +kernel
theorem dX7_air_1 : decode cX7_air 1 = .ok (.bipush (-30), 2) := by decide +kernel
theorem dX7_air_3 : decode cX7_air 3 = .ok (.bipush 50, 2) := by decide +kernel
theorem dX7_air_5 : decode cX7_air 5 = .ok (.invokestatic 94, 3) := by decide +kernel
theorem dX7_air_8 : decode cX7_air 8 = .ok (.ifCond .ne 6, 3) := by decide +kernel
theorem dX7_air_11 : decode cX7_air 11 = .ok (.bipush (-100), 2) := by decide +kernel
theorem dX7_air_13 : decode cX7_air 13 = .ok (.ireturn, 1) := by decide +kernel
theorem dX7_air_14 : decode cX7_air 14 = .ok (.aload_n 0, 1) := by decide +kernel
theorem dX7_air_15 : decode cX7_air 15 = .ok (.getfield 37, 3) := by decide +kernel
theorem dX7_air_18 : decode cX7_air 18 = .ok (.istore_n 2, 1) := by decide +kernel
theorem dX7_air_19 : decode cX7_air 19 = .ok (.aload_n 0, 1) := by decide +kernel
theorem dX7_air_20 : decode cX7_air 20 = .ok (.iload_n 1, 1) := by decide +kernel
theorem dX7_air_21 : decode cX7_air 21 = .ok (.putfield 37, 3) := by decide +kernel
theorem dX7_air_24 : decode cX7_air 24 = .ok (.iload_n 2, 1) := by decide +kernel
theorem dX7_air_25 : decode cX7_air 25 = .ok (.ireturn, 1) := by decide +kernel
theorem dX7_airTenths_0 : decode cX7_airTenths 0 = .ok (.bipush 10, 2) := by decide +kernel
theorem dX7_airTenths_2 : decode cX7_airTenths 2 = .ok (.aload_n 0, 1) := by decide +kernel
theorem dX7_airTenths_3 : decode cX7_airTenths 3 = .ok (.getfield 37, 3) := by decide +kernel
theorem dX7_airTenths_6 : decode cX7_airTenths 6 = .ok (.imul, 1) := by decide +kernel
theorem dX7_airTenths_7 : decode cX7_airTenths 7 = .ok (.ireturn, 1) := by decide +kernel
theorem dX7_anyBankSensed_0 : decode cX7_anyBankSensed 0 = .ok (.iconst 0, 1) := by decide +kernel
theorem dX7_anyBankSensed_1 : decode cX7_anyBankSensed 1 = .ok (.istore_n 1, 1) := by decide +kernel
theorem dX7_anyBankSensed_2 : decode cX7_anyBankSensed 2 = .ok (.iload_n 1, 1) := by decide +kernel
theorem dX7_anyBankSensed_3 : decode cX7_anyBankSensed 3 = .ok (.iconst 4, 1) := by decide +kernel
theorem dX7_anyBankSensed_4 : decode cX7_anyBankSensed 4 = .ok (.if_icmp .ge 28, 3) := by decide +kernel
theorem dX7_anyBankSensed_7 : decode cX7_anyBankSensed 7 = .ok (.aload_n 0, 1) := by decide +kernel
theorem dX7_anyBankSensed_8 : decode cX7_anyBankSensed 8 = .ok (.iload_n 1, 1) := by decide +kernel
theorem dX7_anyBankSensed_9 : decode cX7_anyBankSensed 9 = .ok (.invokevirtual 111, 3) := by decide +kernel
theorem dX7_anyBankSensed_12 : decode cX7_anyBankSensed 12 = .ok (.astore_n 2, 1) := by decide +kernel
theorem dX7_anyBankSensed_13 : decode cX7_anyBankSensed 13 = .ok (.aload_n 2, 1) := by decide +kernel
theorem dX7_anyBankSensed_14 : decode cX7_anyBankSensed 14 = .ok (.ifnull 12, 3) := by decide +kernel
theorem dX7_anyBankSensed_17 : decode cX7_anyBankSensed 17 = .ok (.aload_n 2, 1) := by decide +kernel
theorem dX7_anyBankSensed_18 : decode cX7_anyBankSensed 18 = .ok (.getfield 228, 3) := by decide +kernel
theorem dX7_anyBankSensed_21 : decode cX7_anyBankSensed 21 = .ok (.ifCond .ne 5, 3) := by decide +kernel
theorem dX7_anyBankSensed_24 : decode cX7_anyBankSensed 24 = .ok (.iconst 1, 1) := by decide +kernel
theorem dX7_anyBankSensed_25 : decode cX7_anyBankSensed 25 = .ok (.ireturn, 1) := by decide +kernel
theorem dX7_anyBankSensed_26 : decode cX7_anyBankSensed 26 = .ok (.iinc 1 1, 3) := by decide +kernel
theorem dX7_anyBankSensed_29 : decode cX7_anyBankSensed 29 = .ok (.goto (-27), 3) := by decide +kernel
theorem dX7_anyBankSensed_32 : decode cX7_anyBankSensed 32 = .ok (.iconst 0, 1) := by decide +kernel
theorem dX7_anyBankSensed_33 : decode cX7_anyBankSensed 33 = .ok (.ireturn, 1) := by decide +kernel
theorem dX7_bank_0 : decode cX7_bank 0 = .ok (.aload_n 0, 1) := by decide +kernel
theorem dX7_bank_1 : decode cX7_bank 1 = .ok (.getfield 15, 3) := by decide +kernel
theorem dX7_bank_4 : decode cX7_bank 4 = .ok (.iconst 4, 1) := by decide +kernel
theorem dX7_bank_5 : decode cX7_bank 5 = .ok (.if_icmp .ge 37, 3) := by decide +kernel
theorem dX7_bank_8 : decode cX7_bank 8 = .ok (.iload_n 1, 1) := by decide +kernel
theorem dX7_bank_9 : decode cX7_bank 9 = .ok (.iconst 1, 1) := by decide +kernel
theorem dX7_bank_10 : decode cX7_bank 10 = .ok (.bipush 100, 2) := by decide +kernel
theorem dX7_bank_12 : decode cX7_bank 12 = .ok (.invokestatic 94, 3) := by decide +kernel
theorem dX7_bank_15 : decode cX7_bank 15 = .ok (.ifCond .eq 27, 3) := by decide +kernel
theorem dX7_bank_18 : decode cX7_bank 18 = .ok (.iload_n 2, 1) := by decide +kernel
theorem dX7_bank_19 : decode cX7_bank 19 = .ok (.iconst 0, 1) := by decide +kernel
theorem dX7_bank_20 : decode cX7_bank 20 = .ok (.iload_n 1, 1) := by decide +kernel
theorem dX7_bank_21 : decode cX7_bank 21 = .ok (.sipush 400, 3) := by decide +kernel
theorem dX7_bank_24 : decode cX7_bank 24 = .ok (.imul, 1) := by decide +kernel
theorem dX7_bank_25 : decode cX7_bank 25 = .ok (.invokestatic 94, 3) := by decide +kernel
theorem dX7_bank_28 : decode cX7_bank 28 = .ok (.ifCond .eq 14, 3) := by decide +kernel
theorem dX7_bank_31 : decode cX7_bank 31 = .ok (.iload_n 3, 1) := by decide +kernel
theorem dX7_bank_32 : decode cX7_bank 32 = .ok (.iconst 0, 1) := by decide +kernel
theorem dX7_bank_33 : decode cX7_bank 33 = .ok (.sipush 400, 3) := by decide +kernel
theorem dX7_bank_36 : decode cX7_bank 36 = .ok (.invokestatic 94, 3) := by decide +kernel
theorem dX7_bank_39 : decode cX7_bank 39 = .ok (.ifCond .ne 5, 3) := by decide +kernel
theorem dX7_bank_42 : decode cX7_bank 42 = .ok (.iconst (-1), 1) := by decide +kernel
theorem dX7_bank_43 : decode cX7_bank 43 = .ok (.ireturn, 1) := by decide +kernel
theorem dX7_bank_44 : decode cX7_bank 44 = .ok (.new 9, 3) := by decide +kernel
theorem dX7_bank_47 : decode cX7_bank 47 = .ok (.dup, 1) := by decide +kernel
theorem dX7_bank_48 : decode cX7_bank 48 = .ok (.invokespecial 98, 3) := by decide +kernel
theorem dX7_bank_51 : decode cX7_bank 51 = .ok (.astore 4, 2) := by decide +kernel
theorem dX7_bank_53 : decode cX7_bank 53 = .ok (.aload 4, 2) := by decide +kernel
theorem dX7_bank_55 : decode cX7_bank 55 = .ok (.iload_n 1, 1) := by decide +kernel
theorem dX7_bank_56 : decode cX7_bank 56 = .ok (.putfield 99, 3) := by decide +kernel
theorem dX7_bank_59 : decode cX7_bank 59 = .ok (.aload 4, 2) := by decide +kernel
theorem dX7_bank_61 : decode cX7_bank 61 = .ok (.iload_n 2, 1) := by decide +kernel
theorem dX7_bank_62 : decode cX7_bank 62 = .ok (.putfield 102, 3) := by decide +kernel
theorem dX7_bank_65 : decode cX7_bank 65 = .ok (.aload 4, 2) := by decide +kernel
theorem dX7_bank_67 : decode cX7_bank 67 = .ok (.iload_n 3, 1) := by decide +kernel
theorem dX7_bank_68 : decode cX7_bank 68 = .ok (.putfield 105, 3) := by decide +kernel
theorem dX7_bank_71 : decode cX7_bank 71 = .ok (.aload_n 0, 1) := by decide +kernel
theorem dX7_bank_72 : decode cX7_bank 72 = .ok (.getfield 11, 3) := by decide +kernel
theorem dX7_bank_75 : decode cX7_bank 75 = .ok (.aload_n 0, 1) := by decide +kernel
theorem dX7_bank_76 : decode cX7_bank 76 = .ok (.getfield 15, 3) := by decide +kernel
theorem dX7_bank_79 : decode cX7_bank 79 = .ok (.aload 4, 2) := by decide +kernel
theorem dX7_bank_81 : decode cX7_bank 81 = .ok (.aastore, 1) := by decide +kernel
theorem dX7_bank_82 : decode cX7_bank 82 = .ok (.aload_n 0, 1) := by decide +kernel
theorem dX7_bank_83 : decode cX7_bank 83 = .ok (.getfield 73, 3) := by decide +kernel
theorem dX7_bank_86 : decode cX7_bank 86 = .ok (.dup, 1) := by decide +kernel
theorem dX7_bank_87 : decode cX7_bank 87 = .ok (.getfield 108, 3) := by decide +kernel
theorem dX7_bank_90 : decode cX7_bank 90 = .ok (.iload_n 2, 1) := by decide +kernel
theorem dX7_bank_91 : decode cX7_bank 91 = .ok (.iadd, 1) := by decide +kernel
theorem dX7_bank_92 : decode cX7_bank 92 = .ok (.putfield 108, 3) := by decide +kernel
theorem dX7_bank_95 : decode cX7_bank 95 = .ok (.aload_n 0, 1) := by decide +kernel
theorem dX7_bank_96 : decode cX7_bank 96 = .ok (.dup, 1) := by decide +kernel
theorem dX7_bank_97 : decode cX7_bank 97 = .ok (.getfield 15, 3) := by decide +kernel
theorem dX7_bank_100 : decode cX7_bank 100 = .ok (.iconst 1, 1) := by decide +kernel
theorem dX7_bank_101 : decode cX7_bank 101 = .ok (.iadd, 1) := by decide +kernel
theorem dX7_bank_102 : decode cX7_bank 102 = .ok (.putfield 15, 3) := by decide +kernel
theorem dX7_bank_105 : decode cX7_bank 105 = .ok (.aload_n 0, 1) := by decide +kernel
theorem dX7_bank_106 : decode cX7_bank 106 = .ok (.getfield 15, 3) := by decide +kernel
theorem dX7_bank_109 : decode cX7_bank 109 = .ok (.iconst 1, 1) := by decide +kernel
theorem dX7_bank_110 : decode cX7_bank 110 = .ok (.isub, 1) := by decide +kernel
theorem dX7_bank_111 : decode cX7_bank 111 = .ok (.ireturn, 1) := by decide +kernel
theorem dX7_bankAt_0 : decode cX7_bankAt 0 = .ok (.iload_n 1, 1) := by decide +kernel
theorem dX7_bankAt_1 : decode cX7_bankAt 1 = .ok (.iconst 0, 1) := by decide +kernel
theorem dX7_bankAt_2 : decode cX7_bankAt 2 = .ok (.aload_n 0, 1) := by decide +kernel
theorem dX7_bankAt_3 : decode cX7_bankAt 3 = .ok (.getfield 15, 3) := by decide +kernel
theorem dX7_bankAt_6 : decode cX7_bankAt 6 = .ok (.iconst 1, 1) := by decide +kernel
theorem dX7_bankAt_7 : decode cX7_bankAt 7 = .ok (.isub, 1) := by decide +kernel
theorem dX7_bankAt_8 : decode cX7_bankAt 8 = .ok (.invokestatic 94, 3) := by decide +kernel
theorem dX7_bankAt_11 : decode cX7_bankAt 11 = .ok (.ifCond .eq 17, 3) := by decide +kernel
theorem dX7_bankAt_14 : decode cX7_bankAt 14 = .ok (.iload_n 1, 1) := by decide +kernel
theorem dX7_bankAt_15 : decode cX7_bankAt 15 = .ok (.iconst 4, 1) := by decide +kernel
theorem dX7_bankAt_16 : decode cX7_bankAt 16 = .ok (.if_icmp .ge 12, 3) := by decide +kernel
theorem dX7_bankAt_19 : decode cX7_bankAt 19 = .ok (.aload_n 0, 1) := by decide +kernel
theorem dX7_bankAt_20 : decode cX7_bankAt 20 = .ok (.getfield 11, 3) := by decide +kernel
theorem dX7_bankAt_23 : decode cX7_bankAt 23 = .ok (.iload_n 1, 1) := by decide +kernel
theorem dX7_bankAt_24 : decode cX7_bankAt 24 = .ok (.aaload, 1) := by decide +kernel
theorem dX7_bankAt_25 : decode cX7_bankAt 25 = .ok (.goto 4, 3) := by decide +kernel
theorem dX7_bankAt_28 : decode cX7_bankAt 28 = .ok (.aconst_null, 1) := by decide +kernel
theorem dX7_bankAt_29 : decode cX7_bankAt 29 = .ok (.areturn, 1) := by decide +kernel
theorem dX7_banks_0 : decode cX7_banks 0 = .ok (.aload_n 0, 1) := by decide +kernel
theorem dX7_banks_1 : decode cX7_banks 1 = .ok (.iload_n 1, 1) := by decide +kernel
theorem dX7_banks_2 : decode cX7_banks 2 = .ok (.invokevirtual 111, 3) := by decide +kernel
theorem dX7_banks_5 : decode cX7_banks 5 = .ok (.astore_n 3, 1) := by decide +kernel
theorem dX7_banks_6 : decode cX7_banks 6 = .ok (.aload_n 3, 1) := by decide +kernel
theorem dX7_banks_7 : decode cX7_banks 7 = .ok (.ifnonnull 7, 3) := by decide +kernel
theorem dX7_banks_10 : decode cX7_banks 10 = .ok (.iconst (-1), 1) := by decide +kernel
theorem dX7_banks_11 : decode cX7_banks 11 = .ok (.goto 8, 3) := by decide +kernel
theorem dX7_banks_14 : decode cX7_banks 14 = .ok (.aload_n 3, 1) := by decide +kernel
theorem dX7_banks_15 : decode cX7_banks 15 = .ok (.iload_n 2, 1) := by decide +kernel
theorem dX7_banks_16 : decode cX7_banks 16 = .ok (.invokevirtual 201, 3) := by decide +kernel
theorem dX7_banks_19 : decode cX7_banks 19 = .ok (.ireturn, 1) := by decide +kernel
theorem dX7_best_0 : decode cX7_best 0 = .ok (.iload_n 1, 1) := by decide +kernel
theorem dX7_best_1 : decode cX7_best 1 = .ok (.iload_n 2, 1) := by decide +kernel
theorem dX7_best_2 : decode cX7_best 2 = .ok (.iload_n 3, 1) := by decide +kernel
theorem dX7_best_3 : decode cX7_best 3 = .ok (.invokestatic 142, 3) := by decide +kernel
theorem dX7_best_6 : decode cX7_best 6 = .ok (.ifCond .eq 21, 3) := by decide +kernel
theorem dX7_best_9 : decode cX7_best 9 = .ok (.iload 4, 2) := by decide +kernel
theorem dX7_best_11 : decode cX7_best 11 = .ok (.iconst 1, 1) := by decide +kernel
theorem dX7_best_12 : decode cX7_best 12 = .ok (.bipush 6, 2) := by decide +kernel
theorem dX7_best_14 : decode cX7_best 14 = .ok (.invokestatic 94, 3) := by decide +kernel
theorem dX7_best_17 : decode cX7_best 17 = .ok (.ifCond .eq 10, 3) := by decide +kernel
theorem dX7_best_20 : decode cX7_best 20 = .ok (.aload_n 0, 1) := by decide +kernel
theorem dX7_best_21 : decode cX7_best 21 = .ok (.invokevirtual 181, 3) := by decide +kernel
theorem dX7_best_24 : decode cX7_best 24 = .ok (.ifCond .ne 5, 3) := by decide +kernel
theorem dX7_best_27 : decode cX7_best 27 = .ok (.iconst (-1), 1) := by decide +kernel
theorem dX7_best_28 : decode cX7_best 28 = .ok (.ireturn, 1) := by decide +kernel
theorem dX7_best_29 : decode cX7_best 29 = .ok (.aload_n 0, 1) := by decide +kernel
theorem dX7_best_30 : decode cX7_best 30 = .ok (.getfield 80, 3) := by decide +kernel
theorem dX7_best_33 : decode cX7_best 33 = .ok (.getfield 185, 3) := by decide +kernel
theorem dX7_best_36 : decode cX7_best 36 = .ok (.iload_n 1, 1) := by decide +kernel
theorem dX7_best_37 : decode cX7_best 37 = .ok (.iload_n 2, 1) := by decide +kernel
theorem dX7_best_38 : decode cX7_best 38 = .ok (.iload_n 3, 1) := by decide +kernel
theorem dX7_best_39 : decode cX7_best 39 = .ok (.aload_n 0, 1) := by decide +kernel
theorem dX7_best_40 : decode cX7_best 40 = .ok (.invokevirtual 146, 3) := by decide +kernel
theorem dX7_best_43 : decode cX7_best 43 = .ok (.invokevirtual 150, 3) := by decide +kernel
theorem dX7_best_46 : decode cX7_best 46 = .ok (.aload_n 0, 1) := by decide +kernel
theorem dX7_best_47 : decode cX7_best 47 = .ok (.getfield 80, 3) := by decide +kernel
theorem dX7_best_50 : decode cX7_best 50 = .ok (.aload_n 0, 1) := by decide +kernel
theorem dX7_best_51 : decode cX7_best 51 = .ok (.getfield 11, 3) := by decide +kernel
theorem dX7_best_54 : decode cX7_best 54 = .ok (.aload_n 0, 1) := by decide +kernel
theorem dX7_best_55 : decode cX7_best 55 = .ok (.getfield 15, 3) := by decide +kernel
theorem dX7_best_58 : decode cX7_best 58 = .ok (.invokevirtual 189, 3) := by decide +kernel
theorem dX7_best_61 : decode cX7_best 61 = .ok (.aload_n 0, 1) := by decide +kernel
theorem dX7_best_62 : decode cX7_best 62 = .ok (.getfield 80, 3) := by decide +kernel
theorem dX7_best_65 : decode cX7_best 65 = .ok (.aload_n 0, 1) := by decide +kernel
theorem dX7_best_66 : decode cX7_best 66 = .ok (.getfield 87, 3) := by decide +kernel
theorem dX7_best_69 : decode cX7_best 69 = .ok (.aload_n 0, 1) := by decide +kernel
theorem dX7_best_70 : decode cX7_best 70 = .ok (.invokevirtual 146, 3) := by decide +kernel
theorem dX7_best_73 : decode cX7_best 73 = .ok (.iload 4, 2) := by decide +kernel
theorem dX7_best_75 : decode cX7_best 75 = .ok (.invokevirtual 193, 3) := by decide +kernel
theorem dX7_best_78 : decode cX7_best 78 = .ok (.ireturn, 1) := by decide +kernel
theorem dX7_bestOf_0 : decode cX7_bestOf 0 = .ok (.aload_n 0, 1) := by decide +kernel
theorem dX7_bestOf_1 : decode cX7_bestOf 1 = .ok (.getfield 80, 3) := by decide +kernel
theorem dX7_bestOf_4 : decode cX7_bestOf 4 = .ok (.iload_n 1, 1) := by decide +kernel
theorem dX7_bestOf_5 : decode cX7_bestOf 5 = .ok (.iload_n 2, 1) := by decide +kernel
theorem dX7_bestOf_6 : decode cX7_bestOf 6 = .ok (.invokevirtual 197, 3) := by decide +kernel
theorem dX7_bestOf_9 : decode cX7_bestOf 9 = .ok (.ireturn, 1) := by decide +kernel
theorem dX7_book_0 : decode cX7_book 0 = .ok (.aload_n 0, 1) := by decide +kernel
theorem dX7_book_1 : decode cX7_book 1 = .ok (.getfield 66, 3) := by decide +kernel
theorem dX7_book_4 : decode cX7_book 4 = .ok (.aload_n 0, 1) := by decide +kernel
theorem dX7_book_5 : decode cX7_book 5 = .ok (.getfield 91, 3) := by decide +kernel
theorem dX7_book_8 : decode cX7_book 8 = .ok (.invokevirtual 122, 3) := by decide +kernel
theorem dX7_book_11 : decode cX7_book 11 = .ok (.istore_n 1, 1) := by decide +kernel
theorem dX7_book_12 : decode cX7_book 12 = .ok (.aload_n 0, 1) := by decide +kernel
theorem dX7_book_13 : decode cX7_book 13 = .ok (.getfield 57, 3) := by decide +kernel
theorem dX7_book_16 : decode cX7_book 16 = .ok (.iconst 0, 1) := by decide +kernel
theorem dX7_book_17 : decode cX7_book 17 = .ok (.putfield 115, 3) := by decide +kernel
theorem dX7_book_20 : decode cX7_book 20 = .ok (.iload_n 1, 1) := by decide +kernel
theorem dX7_book_21 : decode cX7_book 21 = .ok (.ifCond .lt 21, 3) := by decide +kernel
theorem dX7_book_24 : decode cX7_book 24 = .ok (.aload_n 0, 1) := by decide +kernel
theorem dX7_book_25 : decode cX7_book 25 = .ok (.getfield 87, 3) := by decide +kernel
theorem dX7_book_28 : decode cX7_book 28 = .ok (.astore_n 2, 1) := by decide +kernel
theorem dX7_book_29 : decode cX7_book 29 = .ok (.aload_n 0, 1) := by decide +kernel
theorem dX7_book_30 : decode cX7_book 30 = .ok (.aload_n 0, 1) := by decide +kernel
theorem dX7_book_31 : decode cX7_book 31 = .ok (.getfield 91, 3) := by decide +kernel
theorem dX7_book_34 : decode cX7_book 34 = .ok (.putfield 87, 3) := by decide +kernel
theorem dX7_book_37 : decode cX7_book 37 = .ok (.aload_n 0, 1) := by decide +kernel
theorem dX7_book_38 : decode cX7_book 38 = .ok (.aload_n 2, 1) := by decide +kernel
theorem dX7_book_39 : decode cX7_book 39 = .ok (.putfield 91, 3) := by decide +kernel
theorem dX7_book_42 : decode cX7_book 42 = .ok (.iload_n 1, 1) := by decide +kernel
theorem dX7_book_43 : decode cX7_book 43 = .ok (.ireturn, 1) := by decide +kernel
theorem dX7_car_0 : decode cX7_car 0 = .ok (.aload_n 0, 1) := by decide +kernel
theorem dX7_car_1 : decode cX7_car 1 = .ok (.getfield 25, 3) := by decide +kernel
theorem dX7_car_4 : decode cX7_car 4 = .ok (.bipush 60, 2) := by decide +kernel
theorem dX7_car_6 : decode cX7_car 6 = .ok (.if_icmp .ge 12, 3) := by decide +kernel
theorem dX7_car_9 : decode cX7_car 9 = .ok (.iload_n 1, 1) := by decide +kernel
theorem dX7_car_10 : decode cX7_car 10 = .ok (.iload_n 2, 1) := by decide +kernel
theorem dX7_car_11 : decode cX7_car 11 = .ok (.iload_n 3, 1) := by decide +kernel
theorem dX7_car_12 : decode cX7_car 12 = .ok (.invokestatic 142, 3) := by decide +kernel
theorem dX7_car_15 : decode cX7_car 15 = .ok (.ifCond .ne 5, 3) := by decide +kernel
theorem dX7_car_18 : decode cX7_car 18 = .ok (.iconst (-1), 1) := by decide +kernel
theorem dX7_car_19 : decode cX7_car 19 = .ok (.ireturn, 1) := by decide +kernel
theorem dX7_car_20 : decode cX7_car 20 = .ok (.new 19, 3) := by decide +kernel
theorem dX7_car_23 : decode cX7_car 23 = .ok (.dup, 1) := by decide +kernel
theorem dX7_car_24 : decode cX7_car 24 = .ok (.invokespecial 145, 3) := by decide +kernel
theorem dX7_car_27 : decode cX7_car 27 = .ok (.astore 4, 2) := by decide +kernel
theorem dX7_car_29 : decode cX7_car 29 = .ok (.aload 4, 2) := by decide +kernel
theorem dX7_car_31 : decode cX7_car 31 = .ok (.iload_n 1, 1) := by decide +kernel
theorem dX7_car_32 : decode cX7_car 32 = .ok (.iload_n 2, 1) := by decide +kernel
theorem dX7_car_33 : decode cX7_car 33 = .ok (.iload_n 3, 1) := by decide +kernel
theorem dX7_car_34 : decode cX7_car 34 = .ok (.aload_n 0, 1) := by decide +kernel
theorem dX7_car_35 : decode cX7_car 35 = .ok (.invokevirtual 146, 3) := by decide +kernel
theorem dX7_car_38 : decode cX7_car 38 = .ok (.invokevirtual 150, 3) := by decide +kernel
theorem dX7_car_41 : decode cX7_car 41 = .ok (.aload_n 0, 1) := by decide +kernel
theorem dX7_car_42 : decode cX7_car 42 = .ok (.getfield 21, 3) := by decide +kernel
theorem dX7_car_45 : decode cX7_car 45 = .ok (.aload_n 0, 1) := by decide +kernel
theorem dX7_car_46 : decode cX7_car 46 = .ok (.getfield 25, 3) := by decide +kernel
theorem dX7_car_49 : decode cX7_car 49 = .ok (.aload 4, 2) := by decide +kernel
theorem dX7_car_51 : decode cX7_car 51 = .ok (.aastore, 1) := by decide +kernel
theorem dX7_car_52 : decode cX7_car 52 = .ok (.aload_n 0, 1) := by decide +kernel
theorem dX7_car_53 : decode cX7_car 53 = .ok (.getfield 73, 3) := by decide +kernel
theorem dX7_car_56 : decode cX7_car 56 = .ok (.dup, 1) := by decide +kernel
theorem dX7_car_57 : decode cX7_car 57 = .ok (.getfield 108, 3) := by decide +kernel
theorem dX7_car_60 : decode cX7_car 60 = .ok (.iload_n 2, 1) := by decide +kernel
theorem dX7_car_61 : decode cX7_car 61 = .ok (.iadd, 1) := by decide +kernel
theorem dX7_car_62 : decode cX7_car 62 = .ok (.putfield 108, 3) := by decide +kernel
theorem dX7_car_65 : decode cX7_car 65 = .ok (.aload_n 0, 1) := by decide +kernel
theorem dX7_car_66 : decode cX7_car 66 = .ok (.dup, 1) := by decide +kernel
theorem dX7_car_67 : decode cX7_car 67 = .ok (.getfield 25, 3) := by decide +kernel
theorem dX7_car_70 : decode cX7_car 70 = .ok (.iconst 1, 1) := by decide +kernel
theorem dX7_car_71 : decode cX7_car 71 = .ok (.iadd, 1) := by decide +kernel
theorem dX7_car_72 : decode cX7_car 72 = .ok (.putfield 25, 3) := by decide +kernel
theorem dX7_car_75 : decode cX7_car 75 = .ok (.aload_n 0, 1) := by decide +kernel
theorem dX7_car_76 : decode cX7_car 76 = .ok (.getfield 25, 3) := by decide +kernel
theorem dX7_car_79 : decode cX7_car 79 = .ok (.iconst 1, 1) := by decide +kernel
theorem dX7_car_80 : decode cX7_car 80 = .ok (.isub, 1) := by decide +kernel
theorem dX7_car_81 : decode cX7_car 81 = .ok (.ireturn, 1) := by decide +kernel
theorem dX7_carAsTold_0 : decode cX7_carAsTold 0 = .ok (.iload_n 0, 1) := by decide +kernel
theorem dX7_carAsTold_1 : decode cX7_carAsTold 1 = .ok (.iconst 1, 1) := by decide +kernel
theorem dX7_carAsTold_2 : decode cX7_carAsTold 2 = .ok (.bipush 20, 2) := by decide +kernel
theorem dX7_carAsTold_4 : decode cX7_carAsTold 4 = .ok (.invokestatic 94, 3) := by decide +kernel
theorem dX7_carAsTold_7 : decode cX7_carAsTold 7 = .ok (.ifCond .eq 29, 3) := by decide +kernel
theorem dX7_carAsTold_10 : decode cX7_carAsTold 10 = .ok (.iload_n 2, 1) := by decide +kernel
theorem dX7_carAsTold_11 : decode cX7_carAsTold 11 = .ok (.iconst 1, 1) := by decide +kernel
theorem dX7_carAsTold_12 : decode cX7_carAsTold 12 = .ok (.sipush 300, 3) := by decide +kernel
theorem dX7_carAsTold_15 : decode cX7_carAsTold 15 = .ok (.invokestatic 94, 3) := by decide +kernel
theorem dX7_carAsTold_18 : decode cX7_carAsTold 18 = .ok (.ifCond .eq 18, 3) := by decide +kernel
theorem dX7_carAsTold_21 : decode cX7_carAsTold 21 = .ok (.iload_n 1, 1) := by decide +kernel
theorem dX7_carAsTold_22 : decode cX7_carAsTold 22 = .ok (.iconst 0, 1) := by decide +kernel
theorem dX7_carAsTold_23 : decode cX7_carAsTold 23 = .ok (.iload_n 0, 1) := by decide +kernel
theorem dX7_carAsTold_24 : decode cX7_carAsTold 24 = .ok (.iload_n 2, 1) := by decide +kernel
theorem dX7_carAsTold_25 : decode cX7_carAsTold 25 = .ok (.imul, 1) := by decide +kernel
theorem dX7_carAsTold_26 : decode cX7_carAsTold 26 = .ok (.invokestatic 94, 3) := by decide +kernel
theorem dX7_carAsTold_29 : decode cX7_carAsTold 29 = .ok (.ifCond .eq 7, 3) := by decide +kernel
theorem dX7_carAsTold_32 : decode cX7_carAsTold 32 = .ok (.iconst 1, 1) := by decide +kernel
theorem dX7_carAsTold_33 : decode cX7_carAsTold 33 = .ok (.goto 4, 3) := by decide +kernel
theorem dX7_carAsTold_36 : decode cX7_carAsTold 36 = .ok (.iconst 0, 1) := by decide +kernel
theorem dX7_carAsTold_37 : decode cX7_carAsTold 37 = .ok (.ireturn, 1) := by decide +kernel
theorem dX7_carAt_0 : decode cX7_carAt 0 = .ok (.iload_n 1, 1) := by decide +kernel
theorem dX7_carAt_1 : decode cX7_carAt 1 = .ok (.iconst 0, 1) := by decide +kernel
theorem dX7_carAt_2 : decode cX7_carAt 2 = .ok (.aload_n 0, 1) := by decide +kernel
theorem dX7_carAt_3 : decode cX7_carAt 3 = .ok (.getfield 25, 3) := by decide +kernel
theorem dX7_carAt_6 : decode cX7_carAt 6 = .ok (.iconst 1, 1) := by decide +kernel
theorem dX7_carAt_7 : decode cX7_carAt 7 = .ok (.isub, 1) := by decide +kernel
theorem dX7_carAt_8 : decode cX7_carAt 8 = .ok (.invokestatic 94, 3) := by decide +kernel
theorem dX7_carAt_11 : decode cX7_carAt 11 = .ok (.ifCond .eq 18, 3) := by decide +kernel
theorem dX7_carAt_14 : decode cX7_carAt 14 = .ok (.iload_n 1, 1) := by decide +kernel
theorem dX7_carAt_15 : decode cX7_carAt 15 = .ok (.bipush 60, 2) := by decide +kernel
theorem dX7_carAt_17 : decode cX7_carAt 17 = .ok (.if_icmp .ge 12, 3) := by decide +kernel
theorem dX7_carAt_20 : decode cX7_carAt 20 = .ok (.aload_n 0, 1) := by decide +kernel
theorem dX7_carAt_21 : decode cX7_carAt 21 = .ok (.getfield 21, 3) := by decide +kernel
theorem dX7_carAt_24 : decode cX7_carAt 24 = .ok (.iload_n 1, 1) := by decide +kernel
theorem dX7_carAt_25 : decode cX7_carAt 25 = .ok (.aaload, 1) := by decide +kernel
theorem dX7_carAt_26 : decode cX7_carAt 26 = .ok (.goto 4, 3) := by decide +kernel
theorem dX7_carAt_29 : decode cX7_carAt 29 = .ok (.aconst_null, 1) := by decide +kernel
theorem dX7_carAt_30 : decode cX7_carAt 30 = .ok (.areturn, 1) := by decide +kernel
theorem dX7_cars_0 : decode cX7_cars 0 = .ok (.aload_n 0, 1) := by decide +kernel
theorem dX7_cars_1 : decode cX7_cars 1 = .ok (.iload_n 1, 1) := by decide +kernel
theorem dX7_cars_2 : decode cX7_cars 2 = .ok (.invokevirtual 134, 3) := by decide +kernel
theorem dX7_cars_5 : decode cX7_cars 5 = .ok (.astore_n 3, 1) := by decide +kernel
theorem dX7_cars_6 : decode cX7_cars 6 = .ok (.aload_n 3, 1) := by decide +kernel
theorem dX7_cars_7 : decode cX7_cars 7 = .ok (.ifnonnull 16, 3) := by decide +kernel
theorem dX7_cars_10 : decode cX7_cars 10 = .ok (.iload_n 2, 1) := by decide +kernel
theorem dX7_cars_11 : decode cX7_cars 11 = .ok (.iconst 3, 1) := by decide +kernel
theorem dX7_cars_12 : decode cX7_cars 12 = .ok (.if_icmp .ne 9, 3) := by decide +kernel
theorem dX7_cars_15 : decode cX7_cars 15 = .ok (.sipush (-1000), 3) := by decide +kernel
theorem dX7_cars_18 : decode cX7_cars 18 = .ok (.goto 4, 3) := by decide +kernel
theorem dX7_cars_21 : decode cX7_cars 21 = .ok (.iconst (-1), 1) := by decide +kernel
theorem dX7_cars_22 : decode cX7_cars 22 = .ok (.ireturn, 1) := by decide +kernel
theorem dX7_cars_23 : decode cX7_cars 23 = .ok (.aload_n 3, 1) := by decide +kernel
theorem dX7_cars_24 : decode cX7_cars 24 = .ok (.iload_n 2, 1) := by decide +kernel
theorem dX7_cars_25 : decode cX7_cars 25 = .ok (.invokevirtual 203, 3) := by decide +kernel
theorem dX7_cars_28 : decode cX7_cars 28 = .ok (.ireturn, 1) := by decide +kernel
theorem dX7_closed_0 : decode cX7_closed 0 = .ok (.iload_n 1, 1) := by decide +kernel
theorem dX7_closed_1 : decode cX7_closed 1 = .ok (.iconst 0, 1) := by decide +kernel
theorem dX7_closed_2 : decode cX7_closed 2 = .ok (.bipush 23, 2) := by decide +kernel
theorem dX7_closed_4 : decode cX7_closed 4 = .ok (.invokestatic 94, 3) := by decide +kernel
theorem dX7_closed_7 : decode cX7_closed 7 = .ok (.ifCond .eq 13, 3) := by decide +kernel
theorem dX7_closed_10 : decode cX7_closed 10 = .ok (.aload_n 0, 1) := by decide +kernel
theorem dX7_closed_11 : decode cX7_closed 11 = .ok (.getfield 50, 3) := by decide +kernel
theorem dX7_closed_14 : decode cX7_closed 14 = .ok (.iload_n 1, 1) := by decide +kernel
theorem dX7_closed_15 : decode cX7_closed 15 = .ok (.baload, 1) := by decide +kernel
theorem dX7_closed_16 : decode cX7_closed 16 = .ok (.iload_n 2, 1) := by decide +kernel
theorem dX7_closed_17 : decode cX7_closed 17 = .ok (.if_icmp .ne 5, 3) := by decide +kernel
theorem dX7_closed_20 : decode cX7_closed 20 = .ok (.iconst 0, 1) := by decide +kernel
theorem dX7_closed_21 : decode cX7_closed 21 = .ok (.ireturn, 1) := by decide +kernel
theorem dX7_closed_22 : decode cX7_closed 22 = .ok (.aload_n 0, 1) := by decide +kernel
theorem dX7_closed_23 : decode cX7_closed 23 = .ok (.getfield 50, 3) := by decide +kernel
theorem dX7_closed_26 : decode cX7_closed 26 = .ok (.iload_n 1, 1) := by decide +kernel
theorem dX7_closed_27 : decode cX7_closed 27 = .ok (.iload_n 2, 1) := by decide +kernel
theorem dX7_closed_28 : decode cX7_closed 28 = .ok (.bastore, 1) := by decide +kernel
theorem dX7_closed_29 : decode cX7_closed 29 = .ok (.iconst 1, 1) := by decide +kernel
theorem dX7_closed_30 : decode cX7_closed 30 = .ok (.ireturn, 1) := by decide +kernel
theorem dX7_coolCars_0 : decode cX7_coolCars 0 = .ok (.iconst 0, 1) := by decide +kernel
theorem dX7_coolCars_1 : decode cX7_coolCars 1 = .ok (.istore_n 1, 1) := by decide +kernel
theorem dX7_coolCars_2 : decode cX7_coolCars 2 = .ok (.iload_n 1, 1) := by decide +kernel
theorem dX7_coolCars_3 : decode cX7_coolCars 3 = .ok (.aload_n 0, 1) := by decide +kernel
theorem dX7_coolCars_4 : decode cX7_coolCars 4 = .ok (.getfield 25, 3) := by decide +kernel
theorem dX7_coolCars_7 : decode cX7_coolCars 7 = .ok (.if_icmp .ge 38, 3) := by decide +kernel
theorem dX7_coolCars_10 : decode cX7_coolCars 10 = .ok (.aload_n 0, 1) := by decide +kernel
theorem dX7_coolCars_11 : decode cX7_coolCars 11 = .ok (.iload_n 1, 1) := by decide +kernel
theorem dX7_coolCars_12 : decode cX7_coolCars 12 = .ok (.invokevirtual 134, 3) := by decide +kernel
theorem dX7_coolCars_15 : decode cX7_coolCars 15 = .ok (.astore_n 2, 1) := by decide +kernel
theorem dX7_coolCars_16 : decode cX7_coolCars 16 = .ok (.aload_n 2, 1) := by decide +kernel
theorem dX7_coolCars_17 : decode cX7_coolCars 17 = .ok (.ifnull 22, 3) := by decide +kernel
theorem dX7_coolCars_20 : decode cX7_coolCars 20 = .ok (.aload_n 2, 1) := by decide +kernel
theorem dX7_coolCars_21 : decode cX7_coolCars 21 = .ok (.invokevirtual 232, 3) := by decide +kernel
theorem dX7_coolCars_24 : decode cX7_coolCars 24 = .ok (.ifCond .eq 15, 3) := by decide +kernel
theorem dX7_coolCars_27 : decode cX7_coolCars 27 = .ok (.aload_n 0, 1) := by decide +kernel
theorem dX7_coolCars_28 : decode cX7_coolCars 28 = .ok (.getfield 87, 3) := by decide +kernel
theorem dX7_coolCars_31 : decode cX7_coolCars 31 = .ok (.aload_n 2, 1) := by decide +kernel
theorem dX7_coolCars_32 : decode cX7_coolCars 32 = .ok (.aload_n 0, 1) := by decide +kernel
theorem dX7_coolCars_33 : decode cX7_coolCars 33 = .ok (.invokevirtual 146, 3) := by decide +kernel
theorem dX7_coolCars_36 : decode cX7_coolCars 36 = .ok (.invokevirtual 263, 3) := by decide +kernel
theorem dX7_coolCars_39 : decode cX7_coolCars 39 = .ok (.iinc 1 1, 3) := by decide +kernel
theorem dX7_coolCars_42 : decode cX7_coolCars 42 = .ok (.goto (-40), 3) := by decide +kernel
theorem dX7_coolCars_45 : decode cX7_coolCars 45 = .ok (.return_, 1) := by decide +kernel
theorem dX7_count_0 : decode cX7_count 0 = .ok (.iload_n 1, 1) := by decide +kernel
theorem dX7_count_1 : decode cX7_count 1 = .ok (.tableswitch 188 0 14 #[75, 80, 85, 90, 100, 108, 116, 124, 132, 140, 148, 156, 164, 172, 180], 75) := by decide +kernel
theorem dX7_count_76 : decode cX7_count 76 = .ok (.aload_n 0, 1) := by decide +kernel
theorem dX7_count_77 : decode cX7_count 77 = .ok (.getfield 40, 3) := by decide +kernel
theorem dX7_count_80 : decode cX7_count 80 = .ok (.ireturn, 1) := by decide +kernel
theorem dX7_count_81 : decode cX7_count 81 = .ok (.aload_n 0, 1) := by decide +kernel
theorem dX7_count_82 : decode cX7_count 82 = .ok (.getfield 15, 3) := by decide +kernel
theorem dX7_count_85 : decode cX7_count 85 = .ok (.ireturn, 1) := by decide +kernel
theorem dX7_count_86 : decode cX7_count 86 = .ok (.aload_n 0, 1) := by decide +kernel
theorem dX7_count_87 : decode cX7_count 87 = .ok (.getfield 25, 3) := by decide +kernel
theorem dX7_count_90 : decode cX7_count 90 = .ok (.ireturn, 1) := by decide +kernel
theorem dX7_count_91 : decode cX7_count 91 = .ok (.aload_n 0, 1) := by decide +kernel
theorem dX7_count_92 : decode cX7_count 92 = .ok (.getfield 25, 3) := by decide +kernel
theorem dX7_count_95 : decode cX7_count 95 = .ok (.aload_n 0, 1) := by decide +kernel
theorem dX7_count_96 : decode cX7_count 96 = .ok (.getfield 28, 3) := by decide +kernel
theorem dX7_count_99 : decode cX7_count 99 = .ok (.isub, 1) := by decide +kernel
theorem dX7_count_100 : decode cX7_count 100 = .ok (.ireturn, 1) := by decide +kernel
theorem dX7_count_101 : decode cX7_count 101 = .ok (.aload_n 0, 1) := by decide +kernel
theorem dX7_count_102 : decode cX7_count 102 = .ok (.getfield 73, 3) := by decide +kernel
theorem dX7_count_105 : decode cX7_count 105 = .ok (.getfield 204, 3) := by decide +kernel
theorem dX7_count_108 : decode cX7_count 108 = .ok (.ireturn, 1) := by decide +kernel
theorem dX7_count_109 : decode cX7_count 109 = .ok (.aload_n 0, 1) := by decide +kernel
theorem dX7_count_110 : decode cX7_count 110 = .ok (.getfield 73, 3) := by decide +kernel
theorem dX7_count_113 : decode cX7_count 113 = .ok (.getfield 207, 3) := by decide +kernel
theorem dX7_count_116 : decode cX7_count 116 = .ok (.ireturn, 1) := by decide +kernel
theorem dX7_count_117 : decode cX7_count 117 = .ok (.aload_n 0, 1) := by decide +kernel
theorem dX7_count_118 : decode cX7_count 118 = .ok (.getfield 73, 3) := by decide +kernel
theorem dX7_count_121 : decode cX7_count 121 = .ok (.getfield 175, 3) := by decide +kernel
theorem dX7_count_124 : decode cX7_count 124 = .ok (.ireturn, 1) := by decide +kernel
theorem dX7_count_125 : decode cX7_count 125 = .ok (.aload_n 0, 1) := by decide +kernel
theorem dX7_count_126 : decode cX7_count 126 = .ok (.getfield 73, 3) := by decide +kernel
theorem dX7_count_129 : decode cX7_count 129 = .ok (.getfield 178, 3) := by decide +kernel
theorem dX7_count_132 : decode cX7_count 132 = .ok (.ireturn, 1) := by decide +kernel
theorem dX7_count_133 : decode cX7_count 133 = .ok (.aload_n 0, 1) := by decide +kernel
theorem dX7_count_134 : decode cX7_count 134 = .ok (.getfield 73, 3) := by decide +kernel
theorem dX7_count_137 : decode cX7_count 137 = .ok (.invokevirtual 210, 3) := by decide +kernel
theorem dX7_count_140 : decode cX7_count 140 = .ok (.ireturn, 1) := by decide +kernel
theorem dX7_count_141 : decode cX7_count 141 = .ok (.aload_n 0, 1) := by decide +kernel
theorem dX7_count_142 : decode cX7_count 142 = .ok (.getfield 57, 3) := by decide +kernel
theorem dX7_count_145 : decode cX7_count 145 = .ok (.getfield 115, 3) := by decide +kernel
theorem dX7_count_148 : decode cX7_count 148 = .ok (.ireturn, 1) := by decide +kernel
theorem dX7_count_149 : decode cX7_count 149 = .ok (.aload_n 0, 1) := by decide +kernel
theorem dX7_count_150 : decode cX7_count 150 = .ok (.getfield 87, 3) := by decide +kernel
theorem dX7_count_153 : decode cX7_count 153 = .ok (.getfield 213, 3) := by decide +kernel
theorem dX7_count_156 : decode cX7_count 156 = .ok (.ireturn, 1) := by decide +kernel
theorem dX7_count_157 : decode cX7_count 157 = .ok (.aload_n 0, 1) := by decide +kernel
theorem dX7_count_158 : decode cX7_count 158 = .ok (.getfield 87, 3) := by decide +kernel
theorem dX7_count_161 : decode cX7_count 161 = .ok (.getfield 216, 3) := by decide +kernel
theorem dX7_count_164 : decode cX7_count 164 = .ok (.ireturn, 1) := by decide +kernel
theorem dX7_count_165 : decode cX7_count 165 = .ok (.aload_n 0, 1) := by decide +kernel
theorem dX7_count_166 : decode cX7_count 166 = .ok (.getfield 87, 3) := by decide +kernel
theorem dX7_count_169 : decode cX7_count 169 = .ok (.getfield 219, 3) := by decide +kernel
theorem dX7_count_172 : decode cX7_count 172 = .ok (.ireturn, 1) := by decide +kernel
theorem dX7_count_173 : decode cX7_count 173 = .ok (.aload_n 0, 1) := by decide +kernel
theorem dX7_count_174 : decode cX7_count 174 = .ok (.getfield 87, 3) := by decide +kernel
theorem dX7_count_177 : decode cX7_count 177 = .ok (.getfield 222, 3) := by decide +kernel
theorem dX7_count_180 : decode cX7_count 180 = .ok (.ireturn, 1) := by decide +kernel
theorem dX7_count_181 : decode cX7_count 181 = .ok (.aload_n 0, 1) := by decide +kernel
theorem dX7_count_182 : decode cX7_count 182 = .ok (.getfield 87, 3) := by decide +kernel
theorem dX7_count_185 : decode cX7_count 185 = .ok (.getfield 225, 3) := by decide +kernel
theorem dX7_count_188 : decode cX7_count 188 = .ok (.ireturn, 1) := by decide +kernel
theorem dX7_count_189 : decode cX7_count 189 = .ok (.iconst (-1), 1) := by decide +kernel
theorem dX7_count_190 : decode cX7_count 190 = .ok (.ireturn, 1) := by decide +kernel
theorem dX7_drawsOn_0 : decode cX7_drawsOn 0 = .ok (.aload_n 1, 1) := by decide +kernel
theorem dX7_drawsOn_1 : decode cX7_drawsOn 1 = .ok (.getfield 235, 3) := by decide +kernel
theorem dX7_drawsOn_4 : decode cX7_drawsOn 4 = .ok (.ifCond .eq 10, 3) := by decide +kernel
theorem dX7_drawsOn_7 : decode cX7_drawsOn 7 = .ok (.aload_n 1, 1) := by decide +kernel
theorem dX7_drawsOn_8 : decode cX7_drawsOn 8 = .ok (.iconst 4, 1) := by decide +kernel
theorem dX7_drawsOn_9 : decode cX7_drawsOn 9 = .ok (.putfield 236, 3) := by decide +kernel
theorem dX7_drawsOn_12 : decode cX7_drawsOn 12 = .ok (.iconst 0, 1) := by decide +kernel
theorem dX7_drawsOn_13 : decode cX7_drawsOn 13 = .ok (.ireturn, 1) := by decide +kernel
theorem dX7_drawsOn_14 : decode cX7_drawsOn 14 = .ok (.aload_n 1, 1) := by decide +kernel
theorem dX7_drawsOn_15 : decode cX7_drawsOn 15 = .ok (.getfield 239, 3) := by decide +kernel
theorem dX7_drawsOn_18 : decode cX7_drawsOn 18 = .ok (.istore_n 2, 1) := by decide +kernel
theorem dX7_drawsOn_19 : decode cX7_drawsOn 19 = .ok (.iload_n 2, 1) := by decide +kernel
theorem dX7_drawsOn_20 : decode cX7_drawsOn 20 = .ok (.iconst 4, 1) := by decide +kernel
theorem dX7_drawsOn_21 : decode cX7_drawsOn 21 = .ok (.if_icmp .ge 67, 3) := by decide +kernel
theorem dX7_drawsOn_24 : decode cX7_drawsOn 24 = .ok (.aload_n 0, 1) := by decide +kernel
theorem dX7_drawsOn_25 : decode cX7_drawsOn 25 = .ok (.iload_n 2, 1) := by decide +kernel
theorem dX7_drawsOn_26 : decode cX7_drawsOn 26 = .ok (.invokevirtual 111, 3) := by decide +kernel
theorem dX7_drawsOn_29 : decode cX7_drawsOn 29 = .ok (.astore_n 3, 1) := by decide +kernel
theorem dX7_drawsOn_30 : decode cX7_drawsOn 30 = .ok (.aload_n 3, 1) := by decide +kernel
theorem dX7_drawsOn_31 : decode cX7_drawsOn 31 = .ok (.ifnull 51, 3) := by decide +kernel
theorem dX7_drawsOn_34 : decode cX7_drawsOn 34 = .ok (.aload_n 3, 1) := by decide +kernel
theorem dX7_drawsOn_35 : decode cX7_drawsOn 35 = .ok (.getfield 228, 3) := by decide +kernel
theorem dX7_drawsOn_38 : decode cX7_drawsOn 38 = .ok (.ifCond .ne 44, 3) := by decide +kernel
theorem dX7_drawsOn_41 : decode cX7_drawsOn 41 = .ok (.aload_n 0, 1) := by decide +kernel
theorem dX7_drawsOn_42 : decode cX7_drawsOn 42 = .ok (.getfield 87, 3) := by decide +kernel
theorem dX7_drawsOn_45 : decode cX7_drawsOn 45 = .ok (.aload_n 3, 1) := by decide +kernel
theorem dX7_drawsOn_46 : decode cX7_drawsOn 46 = .ok (.aload_n 1, 1) := by decide +kernel
theorem dX7_drawsOn_47 : decode cX7_drawsOn 47 = .ok (.invokevirtual 252, 3) := by decide +kernel
theorem dX7_drawsOn_50 : decode cX7_drawsOn 50 = .ok (.istore 4, 2) := by decide +kernel
theorem dX7_drawsOn_52 : decode cX7_drawsOn 52 = .ok (.iload 4, 2) := by decide +kernel
theorem dX7_drawsOn_54 : decode cX7_drawsOn 54 = .ok (.aload_n 0, 1) := by decide +kernel
theorem dX7_drawsOn_55 : decode cX7_drawsOn 55 = .ok (.getfield 87, 3) := by decide +kernel
theorem dX7_drawsOn_58 : decode cX7_drawsOn 58 = .ok (.getfield 225, 3) := by decide +kernel
theorem dX7_drawsOn_61 : decode cX7_drawsOn 61 = .ok (.if_icmp .lt 21, 3) := by decide +kernel
theorem dX7_drawsOn_64 : decode cX7_drawsOn 64 = .ok (.aload_n 1, 1) := by decide +kernel
theorem dX7_drawsOn_65 : decode cX7_drawsOn 65 = .ok (.iload_n 2, 1) := by decide +kernel
theorem dX7_drawsOn_66 : decode cX7_drawsOn 66 = .ok (.putfield 239, 3) := by decide +kernel
theorem dX7_drawsOn_69 : decode cX7_drawsOn 69 = .ok (.aload_n 0, 1) := by decide +kernel
theorem dX7_drawsOn_70 : decode cX7_drawsOn 70 = .ok (.getfield 87, 3) := by decide +kernel
theorem dX7_drawsOn_73 : decode cX7_drawsOn 73 = .ok (.aload_n 3, 1) := by decide +kernel
theorem dX7_drawsOn_74 : decode cX7_drawsOn 74 = .ok (.aload_n 1, 1) := by decide +kernel
theorem dX7_drawsOn_75 : decode cX7_drawsOn 75 = .ok (.iload 4, 2) := by decide +kernel
theorem dX7_drawsOn_77 : decode cX7_drawsOn 77 = .ok (.invokevirtual 256, 3) := by decide +kernel
theorem dX7_drawsOn_80 : decode cX7_drawsOn 80 = .ok (.iconst 1, 1) := by decide +kernel
theorem dX7_drawsOn_81 : decode cX7_drawsOn 81 = .ok (.ireturn, 1) := by decide +kernel
theorem dX7_drawsOn_82 : decode cX7_drawsOn 82 = .ok (.iinc 2 1, 3) := by decide +kernel
theorem dX7_drawsOn_85 : decode cX7_drawsOn 85 = .ok (.goto (-66), 3) := by decide +kernel
theorem dX7_drawsOn_88 : decode cX7_drawsOn 88 = .ok (.aload_n 1, 1) := by decide +kernel
theorem dX7_drawsOn_89 : decode cX7_drawsOn 89 = .ok (.aload_n 1, 1) := by decide +kernel
theorem dX7_drawsOn_90 : decode cX7_drawsOn 90 = .ok (.invokevirtual 260, 3) := by decide +kernel
theorem dX7_drawsOn_93 : decode cX7_drawsOn 93 = .ok (.ifCond .ne 7, 3) := by decide +kernel
theorem dX7_drawsOn_96 : decode cX7_drawsOn 96 = .ok (.iconst 2, 1) := by decide +kernel
theorem dX7_drawsOn_97 : decode cX7_drawsOn 97 = .ok (.goto 4, 3) := by decide +kernel
theorem dX7_drawsOn_100 : decode cX7_drawsOn 100 = .ok (.iconst 3, 1) := by decide +kernel
theorem dX7_drawsOn_101 : decode cX7_drawsOn 101 = .ok (.putfield 236, 3) := by decide +kernel
theorem dX7_drawsOn_104 : decode cX7_drawsOn 104 = .ok (.iconst 0, 1) := by decide +kernel
theorem dX7_drawsOn_105 : decode cX7_drawsOn 105 = .ok (.ireturn, 1) := by decide +kernel
theorem dX7_end_0 : decode cX7_end 0 = .ok (.iload_n 1, 1) := by decide +kernel
theorem dX7_end_1 : decode cX7_end 1 = .ok (.iconst 0, 1) := by decide +kernel
theorem dX7_end_2 : decode cX7_end 2 = .ok (.aload_n 0, 1) := by decide +kernel
theorem dX7_end_3 : decode cX7_end 3 = .ok (.getfield 57, 3) := by decide +kernel
theorem dX7_end_6 : decode cX7_end 6 = .ok (.getfield 115, 3) := by decide +kernel
theorem dX7_end_9 : decode cX7_end 9 = .ok (.invokestatic 94, 3) := by decide +kernel
theorem dX7_end_12 : decode cX7_end 12 = .ok (.ifCond .ne 5, 3) := by decide +kernel
theorem dX7_end_15 : decode cX7_end 15 = .ok (.iconst (-1), 1) := by decide +kernel
theorem dX7_end_16 : decode cX7_end 16 = .ok (.ireturn, 1) := by decide +kernel
theorem dX7_end_17 : decode cX7_end 17 = .ok (.aload_n 0, 1) := by decide +kernel
theorem dX7_end_18 : decode cX7_end 18 = .ok (.getfield 57, 3) := by decide +kernel
theorem dX7_end_21 : decode cX7_end 21 = .ok (.iload_n 1, 1) := by decide +kernel
theorem dX7_end_22 : decode cX7_end 22 = .ok (.putfield 115, 3) := by decide +kernel
theorem dX7_end_25 : decode cX7_end 25 = .ok (.iload_n 1, 1) := by decide +kernel
theorem dX7_end_26 : decode cX7_end 26 = .ok (.ireturn, 1) := by decide +kernel
theorem dX7_feed_0 : decode cX7_feed 0 = .ok (.aload_n 0, 1) := by decide +kernel
theorem dX7_feed_1 : decode cX7_feed 1 = .ok (.getfield 57, 3) := by decide +kernel
theorem dX7_feed_4 : decode cX7_feed 4 = .ok (.getfield 115, 3) := by decide +kernel
theorem dX7_feed_7 : decode cX7_feed 7 = .ok (.sipush 180, 3) := by decide +kernel
theorem dX7_feed_10 : decode cX7_feed 10 = .ok (.if_icmp .le 5, 3) := by decide +kernel
theorem dX7_feed_13 : decode cX7_feed 13 = .ok (.iconst (-1), 1) := by decide +kernel
theorem dX7_feed_14 : decode cX7_feed 14 = .ok (.ireturn, 1) := by decide +kernel
theorem dX7_feed_15 : decode cX7_feed 15 = .ok (.aload_n 0, 1) := by decide +kernel
theorem dX7_feed_16 : decode cX7_feed 16 = .ok (.getfield 57, 3) := by decide +kernel
theorem dX7_feed_19 : decode cX7_feed 19 = .ok (.iload_n 1, 1) := by decide +kernel
theorem dX7_feed_20 : decode cX7_feed 20 = .ok (.invokevirtual 118, 3) := by decide +kernel
theorem dX7_feed_23 : decode cX7_feed 23 = .ok (.aload_n 0, 1) := by decide +kernel
theorem dX7_feed_24 : decode cX7_feed 24 = .ok (.getfield 57, 3) := by decide +kernel
theorem dX7_feed_27 : decode cX7_feed 27 = .ok (.iload_n 2, 1) := by decide +kernel
theorem dX7_feed_28 : decode cX7_feed 28 = .ok (.invokevirtual 118, 3) := by decide +kernel
theorem dX7_feed_31 : decode cX7_feed 31 = .ok (.aload_n 0, 1) := by decide +kernel
theorem dX7_feed_32 : decode cX7_feed 32 = .ok (.getfield 57, 3) := by decide +kernel
theorem dX7_feed_35 : decode cX7_feed 35 = .ok (.iload_n 3, 1) := by decide +kernel
theorem dX7_feed_36 : decode cX7_feed 36 = .ok (.invokevirtual 118, 3) := by decide +kernel
theorem dX7_feed_39 : decode cX7_feed 39 = .ok (.aload_n 0, 1) := by decide +kernel
theorem dX7_feed_40 : decode cX7_feed 40 = .ok (.getfield 57, 3) := by decide +kernel
theorem dX7_feed_43 : decode cX7_feed 43 = .ok (.iload 4, 2) := by decide +kernel
theorem dX7_feed_45 : decode cX7_feed 45 = .ok (.invokevirtual 118, 3) := by decide +kernel
theorem dX7_feed_48 : decode cX7_feed 48 = .ok (.aload_n 0, 1) := by decide +kernel
theorem dX7_feed_49 : decode cX7_feed 49 = .ok (.getfield 57, 3) := by decide +kernel
theorem dX7_feed_52 : decode cX7_feed 52 = .ok (.iload 5, 2) := by decide +kernel
theorem dX7_feed_54 : decode cX7_feed 54 = .ok (.invokevirtual 118, 3) := by decide +kernel
theorem dX7_feed_57 : decode cX7_feed 57 = .ok (.aload_n 0, 1) := by decide +kernel
theorem dX7_feed_58 : decode cX7_feed 58 = .ok (.getfield 57, 3) := by decide +kernel
theorem dX7_feed_61 : decode cX7_feed 61 = .ok (.getfield 115, 3) := by decide +kernel
theorem dX7_feed_64 : decode cX7_feed 64 = .ok (.ireturn, 1) := by decide +kernel
theorem dX7_flow_0 : decode cX7_flow 0 = .ok (.iload_n 1, 1) := by decide +kernel
theorem dX7_flow_1 : decode cX7_flow 1 = .ok (.sipush (-400), 3) := by decide +kernel
theorem dX7_flow_4 : decode cX7_flow 4 = .ok (.sipush 400, 3) := by decide +kernel
theorem dX7_flow_7 : decode cX7_flow 7 = .ok (.invokestatic 94, 3) := by decide +kernel
theorem dX7_flow_10 : decode cX7_flow 10 = .ok (.ifCond .eq 14, 3) := by decide +kernel
theorem dX7_flow_13 : decode cX7_flow 13 = .ok (.aload_n 0, 1) := by decide +kernel
theorem dX7_flow_14 : decode cX7_flow 14 = .ok (.getfield 87, 3) := by decide +kernel
theorem dX7_flow_17 : decode cX7_flow 17 = .ok (.iload_n 1, 1) := by decide +kernel
theorem dX7_flow_18 : decode cX7_flow 18 = .ok (.invokevirtual 126, 3) := by decide +kernel
theorem dX7_flow_21 : decode cX7_flow 21 = .ok (.goto 4, 3) := by decide +kernel
theorem dX7_flow_24 : decode cX7_flow 24 = .ok (.iconst (-1), 1) := by decide +kernel
theorem dX7_flow_25 : decode cX7_flow 25 = .ok (.ireturn, 1) := by decide +kernel
theorem dX7_hoses_0 : decode cX7_hoses 0 = .ok (.iload_n 1, 1) := by decide +kernel
theorem dX7_hoses_1 : decode cX7_hoses 1 = .ok (.iconst 1, 1) := by decide +kernel
theorem dX7_hoses_2 : decode cX7_hoses 2 = .ok (.iconst 2, 1) := by decide +kernel
theorem dX7_hoses_3 : decode cX7_hoses 3 = .ok (.invokestatic 94, 3) := by decide +kernel
theorem dX7_hoses_6 : decode cX7_hoses 6 = .ok (.ifCond .ne 5, 3) := by decide +kernel
theorem dX7_hoses_9 : decode cX7_hoses 9 = .ok (.iconst (-1), 1) := by decide +kernel
theorem dX7_hoses_10 : decode cX7_hoses 10 = .ok (.ireturn, 1) := by decide +kernel
theorem dX7_hoses_11 : decode cX7_hoses 11 = .ok (.iload_n 1, 1) := by decide +kernel
theorem dX7_hoses_12 : decode cX7_hoses 12 = .ok (.istore_n 2, 1) := by decide +kernel
theorem dX7_hoses_13 : decode cX7_hoses 13 = .ok (.iload_n 2, 1) := by decide +kernel
theorem dX7_hoses_14 : decode cX7_hoses 14 = .ok (.iconst 2, 1) := by decide +kernel
theorem dX7_hoses_15 : decode cX7_hoses 15 = .ok (.if_icmp .ge 20, 3) := by decide +kernel
theorem dX7_hoses_18 : decode cX7_hoses 18 = .ok (.aload_n 0, 1) := by decide +kernel
theorem dX7_hoses_19 : decode cX7_hoses 19 = .ok (.getfield 31, 3) := by decide +kernel
theorem dX7_hoses_22 : decode cX7_hoses 22 = .ok (.iload_n 2, 1) := by decide +kernel
theorem dX7_hoses_23 : decode cX7_hoses 23 = .ok (.aaload, 1) := by decide +kernel
theorem dX7_hoses_24 : decode cX7_hoses 24 = .ok (.ifnull 5, 3) := by decide +kernel
theorem dX7_hoses_27 : decode cX7_hoses 27 = .ok (.iconst (-1), 1) := by decide +kernel
theorem dX7_hoses_28 : decode cX7_hoses 28 = .ok (.ireturn, 1) := by decide +kernel
theorem dX7_hoses_29 : decode cX7_hoses 29 = .ok (.iinc 2 1, 3) := by decide +kernel
theorem dX7_hoses_32 : decode cX7_hoses 32 = .ok (.goto (-19), 3) := by decide +kernel
theorem dX7_hoses_35 : decode cX7_hoses 35 = .ok (.aload_n 0, 1) := by decide +kernel
theorem dX7_hoses_36 : decode cX7_hoses 36 = .ok (.getfield 34, 3) := by decide +kernel
theorem dX7_hoses_39 : decode cX7_hoses 39 = .ok (.istore_n 2, 1) := by decide +kernel
theorem dX7_hoses_40 : decode cX7_hoses 40 = .ok (.aload_n 0, 1) := by decide +kernel
theorem dX7_hoses_41 : decode cX7_hoses 41 = .ok (.iload_n 1, 1) := by decide +kernel
theorem dX7_hoses_42 : decode cX7_hoses 42 = .ok (.putfield 34, 3) := by decide +kernel
theorem dX7_hoses_45 : decode cX7_hoses 45 = .ok (.iload_n 2, 1) := by decide +kernel
theorem dX7_hoses_46 : decode cX7_hoses 46 = .ok (.ireturn, 1) := by decide +kernel
theorem dX7_init_0 : decode cX7_init 0 = .ok (.aload_n 0, 1) := by decide +kernel
theorem dX7_init_1 : decode cX7_init 1 = .ok (.invokespecial 1, 3) := by decide +kernel
theorem dX7_init_4 : decode cX7_init 4 = .ok (.aload_n 0, 1) := by decide +kernel
theorem dX7_init_5 : decode cX7_init 5 = .ok (.iconst 4, 1) := by decide +kernel
theorem dX7_init_6 : decode cX7_init 6 = .ok (.anewarray 9, 3) := by decide +kernel
theorem dX7_init_9 : decode cX7_init 9 = .ok (.putfield 11, 3) := by decide +kernel
theorem dX7_init_12 : decode cX7_init 12 = .ok (.aload_n 0, 1) := by decide +kernel
theorem dX7_init_13 : decode cX7_init 13 = .ok (.iconst 0, 1) := by decide +kernel
theorem dX7_init_14 : decode cX7_init 14 = .ok (.putfield 15, 3) := by decide +kernel
theorem dX7_init_17 : decode cX7_init 17 = .ok (.aload_n 0, 1) := by decide +kernel
theorem dX7_init_18 : decode cX7_init 18 = .ok (.bipush 60, 2) := by decide +kernel
theorem dX7_init_20 : decode cX7_init 20 = .ok (.anewarray 19, 3) := by decide +kernel
theorem dX7_init_23 : decode cX7_init 23 = .ok (.putfield 21, 3) := by decide +kernel
theorem dX7_init_26 : decode cX7_init 26 = .ok (.aload_n 0, 1) := by decide +kernel
theorem dX7_init_27 : decode cX7_init 27 = .ok (.iconst 0, 1) := by decide +kernel
theorem dX7_init_28 : decode cX7_init 28 = .ok (.putfield 25, 3) := by decide +kernel
theorem dX7_init_31 : decode cX7_init 31 = .ok (.aload_n 0, 1) := by decide +kernel
theorem dX7_init_32 : decode cX7_init 32 = .ok (.iconst 0, 1) := by decide +kernel
theorem dX7_init_33 : decode cX7_init 33 = .ok (.putfield 28, 3) := by decide +kernel
theorem dX7_init_36 : decode cX7_init 36 = .ok (.aload_n 0, 1) := by decide +kernel
theorem dX7_init_37 : decode cX7_init 37 = .ok (.iconst 2, 1) := by decide +kernel
theorem dX7_init_38 : decode cX7_init 38 = .ok (.anewarray 19, 3) := by decide +kernel
theorem dX7_init_41 : decode cX7_init 41 = .ok (.putfield 31, 3) := by decide +kernel
theorem dX7_init_44 : decode cX7_init 44 = .ok (.aload_n 0, 1) := by decide +kernel
theorem dX7_init_45 : decode cX7_init 45 = .ok (.iconst 1, 1) := by decide +kernel
theorem dX7_init_46 : decode cX7_init 46 = .ok (.putfield 34, 3) := by decide +kernel
theorem dX7_init_49 : decode cX7_init 49 = .ok (.aload_n 0, 1) := by decide +kernel
theorem dX7_init_50 : decode cX7_init 50 = .ok (.bipush 15, 2) := by decide +kernel
theorem dX7_init_52 : decode cX7_init 52 = .ok (.putfield 37, 3) := by decide +kernel
theorem dX7_init_55 : decode cX7_init 55 = .ok (.aload_n 0, 1) := by decide +kernel
theorem dX7_init_56 : decode cX7_init 56 = .ok (.iconst 0, 1) := by decide +kernel
theorem dX7_init_57 : decode cX7_init 57 = .ok (.putfield 40, 3) := by decide +kernel
theorem dX7_init_60 : decode cX7_init 60 = .ok (.aload_n 0, 1) := by decide +kernel
theorem dX7_init_61 : decode cX7_init 61 = .ok (.iconst 2, 1) := by decide +kernel
theorem dX7_init_62 : decode cX7_init 62 = .ok (.putfield 43, 3) := by decide +kernel
theorem dX7_init_65 : decode cX7_init 65 = .ok (.aload_n 0, 1) := by decide +kernel
theorem dX7_init_66 : decode cX7_init 66 = .ok (.bipush 24, 2) := by decide +kernel
theorem dX7_init_68 : decode cX7_init 68 = .ok (.newarray .int, 2) := by decide +kernel
theorem dX7_init_70 : decode cX7_init 70 = .ok (.putfield 46, 3) := by decide +kernel
theorem dX7_init_73 : decode cX7_init 73 = .ok (.aload_n 0, 1) := by decide +kernel
theorem dX7_init_74 : decode cX7_init 74 = .ok (.bipush 24, 2) := by decide +kernel
theorem dX7_init_76 : decode cX7_init 76 = .ok (.newarray .boolean, 2) := by decide +kernel
theorem dX7_init_78 : decode cX7_init 78 = .ok (.putfield 50, 3) := by decide +kernel
theorem dX7_init_81 : decode cX7_init 81 = .ok (.aload_n 0, 1) := by decide +kernel
theorem dX7_init_82 : decode cX7_init 82 = .ok (.new 54, 3) := by decide +kernel
theorem dX7_init_85 : decode cX7_init 85 = .ok (.dup, 1) := by decide +kernel
theorem dX7_init_86 : decode cX7_init 86 = .ok (.invokespecial 56, 3) := by decide +kernel
theorem dX7_init_89 : decode cX7_init 89 = .ok (.putfield 57, 3) := by decide +kernel
theorem dX7_init_92 : decode cX7_init 92 = .ok (.aload_n 0, 1) := by decide +kernel
theorem dX7_init_93 : decode cX7_init 93 = .ok (.new 61, 3) := by decide +kernel
theorem dX7_init_96 : decode cX7_init 96 = .ok (.dup, 1) := by decide +kernel
theorem dX7_init_97 : decode cX7_init 97 = .ok (.aload_n 0, 1) := by decide +kernel
theorem dX7_init_98 : decode cX7_init 98 = .ok (.getfield 57, 3) := by decide +kernel
theorem dX7_init_101 : decode cX7_init 101 = .ok (.invokespecial 63, 3) := by decide +kernel
theorem dX7_init_104 : decode cX7_init 104 = .ok (.putfield 66, 3) := by decide +kernel
theorem dX7_init_107 : decode cX7_init 107 = .ok (.aload_n 0, 1) := by decide +kernel
theorem dX7_init_108 : decode cX7_init 108 = .ok (.new 70, 3) := by decide +kernel
theorem dX7_init_111 : decode cX7_init 111 = .ok (.dup, 1) := by decide +kernel
theorem dX7_init_112 : decode cX7_init 112 = .ok (.invokespecial 72, 3) := by decide +kernel
theorem dX7_init_115 : decode cX7_init 115 = .ok (.putfield 73, 3) := by decide +kernel
theorem dX7_init_118 : decode cX7_init 118 = .ok (.aload_n 0, 1) := by decide +kernel
theorem dX7_init_119 : decode cX7_init 119 = .ok (.new 77, 3) := by decide +kernel
theorem dX7_init_122 : decode cX7_init 122 = .ok (.dup, 1) := by decide +kernel
theorem dX7_init_123 : decode cX7_init 123 = .ok (.invokespecial 79, 3) := by decide +kernel
theorem dX7_init_126 : decode cX7_init 126 = .ok (.putfield 80, 3) := by decide +kernel
theorem dX7_init_129 : decode cX7_init 129 = .ok (.aload_n 0, 1) := by decide +kernel
theorem dX7_init_130 : decode cX7_init 130 = .ok (.new 84, 3) := by decide +kernel
theorem dX7_init_133 : decode cX7_init 133 = .ok (.dup, 1) := by decide +kernel
theorem dX7_init_134 : decode cX7_init 134 = .ok (.invokespecial 86, 3) := by decide +kernel
theorem dX7_init_137 : decode cX7_init 137 = .ok (.putfield 87, 3) := by decide +kernel
theorem dX7_init_140 : decode cX7_init 140 = .ok (.aload_n 0, 1) := by decide +kernel
theorem dX7_init_141 : decode cX7_init 141 = .ok (.new 84, 3) := by decide +kernel
theorem dX7_init_144 : decode cX7_init 144 = .ok (.dup, 1) := by decide +kernel
theorem dX7_init_145 : decode cX7_init 145 = .ok (.invokespecial 86, 3) := by decide +kernel
theorem dX7_init_148 : decode cX7_init 148 = .ok (.putfield 91, 3) := by decide +kernel
theorem dX7_init_151 : decode cX7_init 151 = .ok (.iconst 0, 1) := by decide +kernel
theorem dX7_init_152 : decode cX7_init 152 = .ok (.istore_n 1, 1) := by decide +kernel
theorem dX7_init_153 : decode cX7_init 153 = .ok (.iload_n 1, 1) := by decide +kernel
theorem dX7_init_154 : decode cX7_init 154 = .ok (.bipush 24, 2) := by decide +kernel
theorem dX7_init_156 : decode cX7_init 156 = .ok (.if_icmp .ge 16, 3) := by decide +kernel
theorem dX7_init_159 : decode cX7_init 159 = .ok (.aload_n 0, 1) := by decide +kernel
theorem dX7_init_160 : decode cX7_init 160 = .ok (.getfield 46, 3) := by decide +kernel
theorem dX7_init_163 : decode cX7_init 163 = .ok (.iload_n 1, 1) := by decide +kernel
theorem dX7_init_164 : decode cX7_init 164 = .ok (.iconst 1, 1) := by decide +kernel
theorem dX7_init_165 : decode cX7_init 165 = .ok (.iastore, 1) := by decide +kernel
theorem dX7_init_166 : decode cX7_init 166 = .ok (.iinc 1 1, 3) := by decide +kernel
theorem dX7_init_169 : decode cX7_init 169 = .ok (.goto (-16), 3) := by decide +kernel
theorem dX7_init_172 : decode cX7_init 172 = .ok (.return_, 1) := by decide +kernel
theorem dX7_loseOfBank_0 : decode cX7_loseOfBank 0 = .ok (.aload_n 0, 1) := by decide +kernel
theorem dX7_loseOfBank_1 : decode cX7_loseOfBank 1 = .ok (.ifnull 11, 3) := by decide +kernel
theorem dX7_loseOfBank_4 : decode cX7_loseOfBank 4 = .ok (.aload_n 0, 1) := by decide +kernel
theorem dX7_loseOfBank_5 : decode cX7_loseOfBank 5 = .ok (.getfield 228, 3) := by decide +kernel
theorem dX7_loseOfBank_8 : decode cX7_loseOfBank 8 = .ok (.iload_n 1, 1) := by decide +kernel
theorem dX7_loseOfBank_9 : decode cX7_loseOfBank 9 = .ok (.if_icmp .ne 5, 3) := by decide +kernel
theorem dX7_loseOfBank_12 : decode cX7_loseOfBank 12 = .ok (.iconst 0, 1) := by decide +kernel
theorem dX7_loseOfBank_13 : decode cX7_loseOfBank 13 = .ok (.ireturn, 1) := by decide +kernel
theorem dX7_loseOfBank_14 : decode cX7_loseOfBank 14 = .ok (.aload_n 0, 1) := by decide +kernel
theorem dX7_loseOfBank_15 : decode cX7_loseOfBank 15 = .ok (.iload_n 1, 1) := by decide +kernel
theorem dX7_loseOfBank_16 : decode cX7_loseOfBank 16 = .ok (.putfield 228, 3) := by decide +kernel
theorem dX7_loseOfBank_19 : decode cX7_loseOfBank 19 = .ok (.iconst 1, 1) := by decide +kernel
theorem dX7_loseOfBank_20 : decode cX7_loseOfBank 20 = .ok (.ireturn, 1) := by decide +kernel
theorem dX7_loseOfCar_0 : decode cX7_loseOfCar 0 = .ok (.aload_n 0, 1) := by decide +kernel
theorem dX7_loseOfCar_1 : decode cX7_loseOfCar 1 = .ok (.ifnull 18, 3) := by decide +kernel
theorem dX7_loseOfCar_4 : decode cX7_loseOfCar 4 = .ok (.aload_n 0, 1) := by decide +kernel
theorem dX7_loseOfCar_5 : decode cX7_loseOfCar 5 = .ok (.invokevirtual 232, 3) := by decide +kernel
theorem dX7_loseOfCar_8 : decode cX7_loseOfCar 8 = .ok (.ifCond .eq 11, 3) := by decide +kernel
theorem dX7_loseOfCar_11 : decode cX7_loseOfCar 11 = .ok (.aload_n 0, 1) := by decide +kernel
theorem dX7_loseOfCar_12 : decode cX7_loseOfCar 12 = .ok (.getfield 235, 3) := by decide +kernel
theorem dX7_loseOfCar_15 : decode cX7_loseOfCar 15 = .ok (.iload_n 1, 1) := by decide +kernel
theorem dX7_loseOfCar_16 : decode cX7_loseOfCar 16 = .ok (.if_icmp .ne 5, 3) := by decide +kernel
theorem dX7_loseOfCar_19 : decode cX7_loseOfCar 19 = .ok (.iconst 0, 1) := by decide +kernel
theorem dX7_loseOfCar_20 : decode cX7_loseOfCar 20 = .ok (.ireturn, 1) := by decide +kernel
theorem dX7_loseOfCar_21 : decode cX7_loseOfCar 21 = .ok (.aload_n 0, 1) := by decide +kernel
theorem dX7_loseOfCar_22 : decode cX7_loseOfCar 22 = .ok (.iload_n 1, 1) := by decide +kernel
theorem dX7_loseOfCar_23 : decode cX7_loseOfCar 23 = .ok (.putfield 235, 3) := by decide +kernel
theorem dX7_loseOfCar_26 : decode cX7_loseOfCar 26 = .ok (.iconst 1, 1) := by decide +kernel
theorem dX7_loseOfCar_27 : decode cX7_loseOfCar 27 = .ok (.ireturn, 1) := by decide +kernel
theorem dX7_pass_0 : decode cX7_pass 0 = .ok (.iload_n 1, 1) := by decide +kernel
theorem dX7_pass_1 : decode cX7_pass 1 = .ok (.iconst 1, 1) := by decide +kernel
theorem dX7_pass_2 : decode cX7_pass 2 = .ok (.sipush 500, 3) := by decide +kernel
theorem dX7_pass_5 : decode cX7_pass 5 = .ok (.invokestatic 94, 3) := by decide +kernel
theorem dX7_pass_8 : decode cX7_pass 8 = .ok (.ifCond .eq 15, 3) := by decide +kernel
theorem dX7_pass_11 : decode cX7_pass 11 = .ok (.iload_n 1, 1) := by decide +kernel
theorem dX7_pass_12 : decode cX7_pass 12 = .ok (.sipush 9999, 3) := by decide +kernel
theorem dX7_pass_15 : decode cX7_pass 15 = .ok (.aload_n 0, 1) := by decide +kernel
theorem dX7_pass_16 : decode cX7_pass 16 = .ok (.getfield 40, 3) := by decide +kernel
theorem dX7_pass_19 : decode cX7_pass 19 = .ok (.isub, 1) := by decide +kernel
theorem dX7_pass_20 : decode cX7_pass 20 = .ok (.if_icmp .le 5, 3) := by decide +kernel
theorem dX7_pass_23 : decode cX7_pass 23 = .ok (.iconst (-1), 1) := by decide +kernel
theorem dX7_pass_24 : decode cX7_pass 24 = .ok (.ireturn, 1) := by decide +kernel
theorem dX7_pass_25 : decode cX7_pass 25 = .ok (.iconst 0, 1) := by decide +kernel
theorem dX7_pass_26 : decode cX7_pass 26 = .ok (.istore_n 2, 1) := by decide +kernel
theorem dX7_pass_27 : decode cX7_pass 27 = .ok (.iload_n 2, 1) := by decide +kernel
theorem dX7_pass_28 : decode cX7_pass 28 = .ok (.iload_n 1, 1) := by decide +kernel
theorem dX7_pass_29 : decode cX7_pass 29 = .ok (.if_icmp .ge 35, 3) := by decide +kernel
theorem dX7_pass_32 : decode cX7_pass 32 = .ok (.aload_n 0, 1) := by decide +kernel
theorem dX7_pass_33 : decode cX7_pass 33 = .ok (.invokevirtual 154, 3) := by decide +kernel
theorem dX7_pass_36 : decode cX7_pass 36 = .ok (.aload_n 0, 1) := by decide +kernel
theorem dX7_pass_37 : decode cX7_pass 37 = .ok (.invokevirtual 157, 3) := by decide +kernel
theorem dX7_pass_40 : decode cX7_pass 40 = .ok (.aload_n 0, 1) := by decide +kernel
theorem dX7_pass_41 : decode cX7_pass 41 = .ok (.invokevirtual 160, 3) := by decide +kernel
theorem dX7_pass_44 : decode cX7_pass 44 = .ok (.aload_n 0, 1) := by decide +kernel
theorem dX7_pass_45 : decode cX7_pass 45 = .ok (.invokevirtual 163, 3) := by decide +kernel
theorem dX7_pass_48 : decode cX7_pass 48 = .ok (.aload_n 0, 1) := by decide +kernel
theorem dX7_pass_49 : decode cX7_pass 49 = .ok (.dup, 1) := by decide +kernel
theorem dX7_pass_50 : decode cX7_pass 50 = .ok (.getfield 40, 3) := by decide +kernel
theorem dX7_pass_53 : decode cX7_pass 53 = .ok (.iconst 1, 1) := by decide +kernel
theorem dX7_pass_54 : decode cX7_pass 54 = .ok (.iadd, 1) := by decide +kernel
theorem dX7_pass_55 : decode cX7_pass 55 = .ok (.putfield 40, 3) := by decide +kernel
theorem dX7_pass_58 : decode cX7_pass 58 = .ok (.iinc 2 1, 3) := by decide +kernel
theorem dX7_pass_61 : decode cX7_pass 61 = .ok (.goto (-34), 3) := by decide +kernel
theorem dX7_pass_64 : decode cX7_pass 64 = .ok (.aload_n 0, 1) := by decide +kernel
theorem dX7_pass_65 : decode cX7_pass 65 = .ok (.getfield 40, 3) := by decide +kernel
theorem dX7_pass_68 : decode cX7_pass 68 = .ok (.ireturn, 1) := by decide +kernel
theorem dX7_price_0 : decode cX7_price 0 = .ok (.iload_n 1, 1) := by decide +kernel
theorem dX7_price_1 : decode cX7_price 1 = .ok (.iconst 0, 1) := by decide +kernel
theorem dX7_price_2 : decode cX7_price 2 = .ok (.bipush 23, 2) := by decide +kernel
theorem dX7_price_4 : decode cX7_price 4 = .ok (.invokestatic 94, 3) := by decide +kernel
theorem dX7_price_7 : decode cX7_price 7 = .ok (.ifCond .eq 13, 3) := by decide +kernel
theorem dX7_price_10 : decode cX7_price 10 = .ok (.iload_n 2, 1) := by decide +kernel
theorem dX7_price_11 : decode cX7_price 11 = .ok (.iconst 0, 1) := by decide +kernel
theorem dX7_price_12 : decode cX7_price 12 = .ok (.bipush 99, 2) := by decide +kernel
theorem dX7_price_14 : decode cX7_price 14 = .ok (.invokestatic 94, 3) := by decide +kernel
theorem dX7_price_17 : decode cX7_price 17 = .ok (.ifCond .ne 5, 3) := by decide +kernel
theorem dX7_price_20 : decode cX7_price 20 = .ok (.iconst (-1), 1) := by decide +kernel
theorem dX7_price_21 : decode cX7_price 21 = .ok (.ireturn, 1) := by decide +kernel
theorem dX7_price_22 : decode cX7_price 22 = .ok (.aload_n 0, 1) := by decide +kernel
theorem dX7_price_23 : decode cX7_price 23 = .ok (.getfield 46, 3) := by decide +kernel
theorem dX7_price_26 : decode cX7_price 26 = .ok (.iload_n 1, 1) := by decide +kernel
theorem dX7_price_27 : decode cX7_price 27 = .ok (.iaload, 1) := by decide +kernel
theorem dX7_price_28 : decode cX7_price 28 = .ok (.istore_n 3, 1) := by decide +kernel
theorem dX7_price_29 : decode cX7_price 29 = .ok (.aload_n 0, 1) := by decide +kernel
theorem dX7_price_30 : decode cX7_price 30 = .ok (.getfield 46, 3) := by decide +kernel
theorem dX7_price_33 : decode cX7_price 33 = .ok (.iload_n 1, 1) := by decide +kernel
theorem dX7_price_34 : decode cX7_price 34 = .ok (.iload_n 2, 1) := by decide +kernel
theorem dX7_price_35 : decode cX7_price 35 = .ok (.iastore, 1) := by decide +kernel
theorem dX7_price_36 : decode cX7_price 36 = .ok (.iload_n 3, 1) := by decide +kernel
theorem dX7_price_37 : decode cX7_price 37 = .ok (.ireturn, 1) := by decide +kernel
theorem dX7_reading_0 : decode cX7_reading 0 = .ok (.aload_n 0, 1) := by decide +kernel
theorem dX7_reading_1 : decode cX7_reading 1 = .ok (.iload_n 1, 1) := by decide +kernel
theorem dX7_reading_2 : decode cX7_reading 2 = .ok (.invokevirtual 111, 3) := by decide +kernel
theorem dX7_reading_5 : decode cX7_reading 5 = .ok (.astore_n 3, 1) := by decide +kernel
theorem dX7_reading_6 : decode cX7_reading 6 = .ok (.aload_n 3, 1) := by decide +kernel
theorem dX7_reading_7 : decode cX7_reading 7 = .ok (.ifnull 14, 3) := by decide +kernel
theorem dX7_reading_10 : decode cX7_reading 10 = .ok (.iload_n 2, 1) := by decide +kernel
theorem dX7_reading_11 : decode cX7_reading 11 = .ok (.iconst 0, 1) := by decide +kernel
theorem dX7_reading_12 : decode cX7_reading 12 = .ok (.sipush 400, 3) := by decide +kernel
theorem dX7_reading_15 : decode cX7_reading 15 = .ok (.invokestatic 94, 3) := by decide +kernel
theorem dX7_reading_18 : decode cX7_reading 18 = .ok (.ifCond .ne 6, 3) := by decide +kernel
theorem dX7_reading_21 : decode cX7_reading 21 = .ok (.ldc 166, 2) := by decide +kernel
theorem dX7_reading_23 : decode cX7_reading 23 = .ok (.ireturn, 1) := by decide +kernel
theorem dX7_reading_24 : decode cX7_reading 24 = .ok (.aload_n 3, 1) := by decide +kernel
theorem dX7_reading_25 : decode cX7_reading 25 = .ok (.invokevirtual 167, 3) := by decide +kernel
theorem dX7_reading_28 : decode cX7_reading 28 = .ok (.iload_n 2, 1) := by decide +kernel
theorem dX7_reading_29 : decode cX7_reading 29 = .ok (.isub, 1) := by decide +kernel
theorem dX7_reading_30 : decode cX7_reading 30 = .ok (.istore 4, 2) := by decide +kernel
theorem dX7_reading_32 : decode cX7_reading 32 = .ok (.iload 4, 2) := by decide +kernel
theorem dX7_reading_34 : decode cX7_reading 34 = .ok (.invokestatic 170, 3) := by decide +kernel
theorem dX7_reading_37 : decode cX7_reading 37 = .ok (.aload_n 0, 1) := by decide +kernel
theorem dX7_reading_38 : decode cX7_reading 38 = .ok (.getfield 43, 3) := by decide +kernel
theorem dX7_reading_41 : decode cX7_reading 41 = .ok (.if_icmp .gt 5, 3) := by decide +kernel
theorem dX7_reading_44 : decode cX7_reading 44 = .ok (.iconst 0, 1) := by decide +kernel
theorem dX7_reading_45 : decode cX7_reading 45 = .ok (.ireturn, 1) := by decide +kernel
theorem dX7_reading_46 : decode cX7_reading 46 = .ok (.aload_n 3, 1) := by decide +kernel
theorem dX7_reading_47 : decode cX7_reading 47 = .ok (.getfield 102, 3) := by decide +kernel
theorem dX7_reading_50 : decode cX7_reading 50 = .ok (.aload_n 3, 1) := by decide +kernel
theorem dX7_reading_51 : decode cX7_reading 51 = .ok (.getfield 99, 3) := by decide +kernel
theorem dX7_reading_54 : decode cX7_reading 54 = .ok (.iload_n 2, 1) := by decide +kernel
theorem dX7_reading_55 : decode cX7_reading 55 = .ok (.imul, 1) := by decide +kernel
theorem dX7_reading_56 : decode cX7_reading 56 = .ok (.isub, 1) := by decide +kernel
theorem dX7_reading_57 : decode cX7_reading 57 = .ok (.istore 5, 2) := by decide +kernel
theorem dX7_reading_59 : decode cX7_reading 59 = .ok (.aload_n 3, 1) := by decide +kernel
theorem dX7_reading_60 : decode cX7_reading 60 = .ok (.aload_n 3, 1) := by decide +kernel
theorem dX7_reading_61 : decode cX7_reading 61 = .ok (.getfield 99, 3) := by decide +kernel
theorem dX7_reading_64 : decode cX7_reading 64 = .ok (.iload_n 2, 1) := by decide +kernel
theorem dX7_reading_65 : decode cX7_reading 65 = .ok (.imul, 1) := by decide +kernel
theorem dX7_reading_66 : decode cX7_reading 66 = .ok (.putfield 102, 3) := by decide +kernel
theorem dX7_reading_69 : decode cX7_reading 69 = .ok (.iload 4, 2) := by decide +kernel
theorem dX7_reading_71 : decode cX7_reading 71 = .ok (.ifCond .le 20, 3) := by decide +kernel
theorem dX7_reading_74 : decode cX7_reading 74 = .ok (.aload_n 0, 1) := by decide +kernel
theorem dX7_reading_75 : decode cX7_reading 75 = .ok (.getfield 73, 3) := by decide +kernel
theorem dX7_reading_78 : decode cX7_reading 78 = .ok (.dup, 1) := by decide +kernel
theorem dX7_reading_79 : decode cX7_reading 79 = .ok (.getfield 175, 3) := by decide +kernel
theorem dX7_reading_82 : decode cX7_reading 82 = .ok (.iload 5, 2) := by decide +kernel
theorem dX7_reading_84 : decode cX7_reading 84 = .ok (.iadd, 1) := by decide +kernel
theorem dX7_reading_85 : decode cX7_reading 85 = .ok (.putfield 175, 3) := by decide +kernel
theorem dX7_reading_88 : decode cX7_reading 88 = .ok (.goto 17, 3) := by decide +kernel
theorem dX7_reading_91 : decode cX7_reading 91 = .ok (.aload_n 0, 1) := by decide +kernel
theorem dX7_reading_92 : decode cX7_reading 92 = .ok (.getfield 73, 3) := by decide +kernel
theorem dX7_reading_95 : decode cX7_reading 95 = .ok (.dup, 1) := by decide +kernel
theorem dX7_reading_96 : decode cX7_reading 96 = .ok (.getfield 178, 3) := by decide +kernel
theorem dX7_reading_99 : decode cX7_reading 99 = .ok (.iload 5, 2) := by decide +kernel
theorem dX7_reading_101 : decode cX7_reading 101 = .ok (.isub, 1) := by decide +kernel
theorem dX7_reading_102 : decode cX7_reading 102 = .ok (.putfield 178, 3) := by decide +kernel
theorem dX7_reading_105 : decode cX7_reading 105 = .ok (.iload 5, 2) := by decide +kernel
theorem dX7_reading_107 : decode cX7_reading 107 = .ok (.ireturn, 1) := by decide +kernel
theorem dX7_runPress_0 : decode cX7_runPress 0 = .ok (.aload_n 0, 1) := by decide +kernel
theorem dX7_runPress_1 : decode cX7_runPress 1 = .ok (.getfield 40, 3) := by decide +kernel
theorem dX7_runPress_4 : decode cX7_runPress 4 = .ok (.bipush 60, 2) := by decide +kernel
theorem dX7_runPress_6 : decode cX7_runPress 6 = .ok (.idiv, 1) := by decide +kernel
theorem dX7_runPress_7 : decode cX7_runPress 7 = .ok (.bipush 24, 2) := by decide +kernel
theorem dX7_runPress_9 : decode cX7_runPress 9 = .ok (.irem, 1) := by decide +kernel
theorem dX7_runPress_10 : decode cX7_runPress 10 = .ok (.istore_n 1, 1) := by decide +kernel
theorem dX7_runPress_11 : decode cX7_runPress 11 = .ok (.iload_n 1, 1) := by decide +kernel
theorem dX7_runPress_12 : decode cX7_runPress 12 = .ok (.iconst 0, 1) := by decide +kernel
theorem dX7_runPress_13 : decode cX7_runPress 13 = .ok (.bipush 23, 2) := by decide +kernel
theorem dX7_runPress_15 : decode cX7_runPress 15 = .ok (.invokestatic 94, 3) := by decide +kernel
theorem dX7_runPress_18 : decode cX7_runPress 18 = .ok (.ifCond .eq 12, 3) := by decide +kernel
theorem dX7_runPress_21 : decode cX7_runPress 21 = .ok (.aload_n 0, 1) := by decide +kernel
theorem dX7_runPress_22 : decode cX7_runPress 22 = .ok (.getfield 50, 3) := by decide +kernel
theorem dX7_runPress_25 : decode cX7_runPress 25 = .ok (.iload_n 1, 1) := by decide +kernel
theorem dX7_runPress_26 : decode cX7_runPress 26 = .ok (.baload, 1) := by decide +kernel
theorem dX7_runPress_27 : decode cX7_runPress 27 = .ok (.ifCond .eq 4, 3) := by decide +kernel
theorem dX7_runPress_30 : decode cX7_runPress 30 = .ok (.return_, 1) := by decide +kernel
theorem dX7_runPress_31 : decode cX7_runPress 31 = .ok (.aload_n 0, 1) := by decide +kernel
theorem dX7_runPress_32 : decode cX7_runPress 32 = .ok (.getfield 87, 3) := by decide +kernel
theorem dX7_runPress_35 : decode cX7_runPress 35 = .ok (.getfield 222, 3) := by decide +kernel
theorem dX7_runPress_38 : decode cX7_runPress 38 = .ok (.istore_n 2, 1) := by decide +kernel
theorem dX7_runPress_39 : decode cX7_runPress 39 = .ok (.iconst 3, 1) := by decide +kernel
theorem dX7_runPress_40 : decode cX7_runPress 40 = .ok (.istore_n 3, 1) := by decide +kernel
theorem dX7_runPress_41 : decode cX7_runPress 41 = .ok (.iload_n 3, 1) := by decide +kernel
theorem dX7_runPress_42 : decode cX7_runPress 42 = .ok (.ifCond .lt 69, 3) := by decide +kernel
theorem dX7_runPress_45 : decode cX7_runPress 45 = .ok (.aload_n 0, 1) := by decide +kernel
theorem dX7_runPress_46 : decode cX7_runPress 46 = .ok (.iload_n 3, 1) := by decide +kernel
theorem dX7_runPress_47 : decode cX7_runPress 47 = .ok (.invokevirtual 111, 3) := by decide +kernel
theorem dX7_runPress_50 : decode cX7_runPress 50 = .ok (.astore 4, 2) := by decide +kernel
theorem dX7_runPress_52 : decode cX7_runPress 52 = .ok (.aload 4, 2) := by decide +kernel
theorem dX7_runPress_54 : decode cX7_runPress 54 = .ok (.ifnull 51, 3) := by decide +kernel
theorem dX7_runPress_57 : decode cX7_runPress 57 = .ok (.aload 4, 2) := by decide +kernel
theorem dX7_runPress_59 : decode cX7_runPress 59 = .ok (.getfield 228, 3) := by decide +kernel
theorem dX7_runPress_62 : decode cX7_runPress 62 = .ok (.ifCond .ne 43, 3) := by decide +kernel
theorem dX7_runPress_65 : decode cX7_runPress 65 = .ok (.iload_n 2, 1) := by decide +kernel
theorem dX7_runPress_66 : decode cX7_runPress 66 = .ok (.aload 4, 2) := by decide +kernel
theorem dX7_runPress_68 : decode cX7_runPress 68 = .ok (.invokevirtual 267, 3) := by decide +kernel
theorem dX7_runPress_71 : decode cX7_runPress 71 = .ok (.invokestatic 268, 3) := by decide +kernel
theorem dX7_runPress_74 : decode cX7_runPress 74 = .ok (.istore 5, 2) := by decide +kernel
theorem dX7_runPress_76 : decode cX7_runPress 76 = .ok (.aload 4, 2) := by decide +kernel
theorem dX7_runPress_78 : decode cX7_runPress 78 = .ok (.dup, 1) := by decide +kernel
theorem dX7_runPress_79 : decode cX7_runPress 79 = .ok (.getfield 102, 3) := by decide +kernel
theorem dX7_runPress_82 : decode cX7_runPress 82 = .ok (.iload 5, 2) := by decide +kernel
theorem dX7_runPress_84 : decode cX7_runPress 84 = .ok (.iadd, 1) := by decide +kernel
theorem dX7_runPress_85 : decode cX7_runPress 85 = .ok (.putfield 102, 3) := by decide +kernel
theorem dX7_runPress_88 : decode cX7_runPress 88 = .ok (.aload 4, 2) := by decide +kernel
theorem dX7_runPress_90 : decode cX7_runPress 90 = .ok (.dup, 1) := by decide +kernel
theorem dX7_runPress_91 : decode cX7_runPress 91 = .ok (.getfield 271, 3) := by decide +kernel
theorem dX7_runPress_94 : decode cX7_runPress 94 = .ok (.iload 5, 2) := by decide +kernel
theorem dX7_runPress_96 : decode cX7_runPress 96 = .ok (.iadd, 1) := by decide +kernel
theorem dX7_runPress_97 : decode cX7_runPress 97 = .ok (.putfield 271, 3) := by decide +kernel
theorem dX7_runPress_100 : decode cX7_runPress 100 = .ok (.iload_n 2, 1) := by decide +kernel
theorem dX7_runPress_101 : decode cX7_runPress 101 = .ok (.iload 5, 2) := by decide +kernel
theorem dX7_runPress_103 : decode cX7_runPress 103 = .ok (.isub, 1) := by decide +kernel
theorem dX7_runPress_104 : decode cX7_runPress 104 = .ok (.istore_n 2, 1) := by decide +kernel
theorem dX7_runPress_105 : decode cX7_runPress 105 = .ok (.iinc 3 (-1), 3) := by decide +kernel
theorem dX7_runPress_108 : decode cX7_runPress 108 = .ok (.goto (-67), 3) := by decide +kernel
theorem dX7_runPress_111 : decode cX7_runPress 111 = .ok (.aload_n 0, 1) := by decide +kernel
theorem dX7_runPress_112 : decode cX7_runPress 112 = .ok (.getfield 73, 3) := by decide +kernel
theorem dX7_runPress_115 : decode cX7_runPress 115 = .ok (.aload_n 0, 1) := by decide +kernel
theorem dX7_runPress_116 : decode cX7_runPress 116 = .ok (.getfield 87, 3) := by decide +kernel
theorem dX7_runPress_119 : decode cX7_runPress 119 = .ok (.getfield 222, 3) := by decide +kernel
theorem dX7_runPress_122 : decode cX7_runPress 122 = .ok (.iload_n 2, 1) := by decide +kernel
theorem dX7_runPress_123 : decode cX7_runPress 123 = .ok (.isub, 1) := by decide +kernel
theorem dX7_runPress_124 : decode cX7_runPress 124 = .ok (.aload_n 0, 1) := by decide +kernel
theorem dX7_runPress_125 : decode cX7_runPress 125 = .ok (.getfield 46, 3) := by decide +kernel
theorem dX7_runPress_128 : decode cX7_runPress 128 = .ok (.iload_n 1, 1) := by decide +kernel
theorem dX7_runPress_129 : decode cX7_runPress 129 = .ok (.iaload, 1) := by decide +kernel
theorem dX7_runPress_130 : decode cX7_runPress 130 = .ok (.invokevirtual 272, 3) := by decide +kernel
theorem dX7_runPress_133 : decode cX7_runPress 133 = .ok (.return_, 1) := by decide +kernel
theorem dX7_sensor_0 : decode cX7_sensor 0 = .ok (.iload_n 1, 1) := by decide +kernel
theorem dX7_sensor_1 : decode cX7_sensor 1 = .ok (.ifCond .ne 13, 3) := by decide +kernel
theorem dX7_sensor_4 : decode cX7_sensor 4 = .ok (.aload_n 0, 1) := by decide +kernel
theorem dX7_sensor_5 : decode cX7_sensor 5 = .ok (.iload_n 2, 1) := by decide +kernel
theorem dX7_sensor_6 : decode cX7_sensor 6 = .ok (.invokevirtual 111, 3) := by decide +kernel
theorem dX7_sensor_9 : decode cX7_sensor 9 = .ok (.iload_n 3, 1) := by decide +kernel
theorem dX7_sensor_10 : decode cX7_sensor 10 = .ok (.invokestatic 130, 3) := by decide +kernel
theorem dX7_sensor_13 : decode cX7_sensor 13 = .ok (.ireturn, 1) := by decide +kernel
theorem dX7_sensor_14 : decode cX7_sensor 14 = .ok (.iload_n 1, 1) := by decide +kernel
theorem dX7_sensor_15 : decode cX7_sensor 15 = .ok (.iconst 1, 1) := by decide +kernel
theorem dX7_sensor_16 : decode cX7_sensor 16 = .ok (.if_icmp .ne 19, 3) := by decide +kernel
theorem dX7_sensor_19 : decode cX7_sensor 19 = .ok (.aload_n 0, 1) := by decide +kernel
theorem dX7_sensor_20 : decode cX7_sensor 20 = .ok (.iload_n 2, 1) := by decide +kernel
theorem dX7_sensor_21 : decode cX7_sensor 21 = .ok (.invokevirtual 134, 3) := by decide +kernel
theorem dX7_sensor_24 : decode cX7_sensor 24 = .ok (.iload_n 3, 1) := by decide +kernel
theorem dX7_sensor_25 : decode cX7_sensor 25 = .ok (.invokestatic 138, 3) := by decide +kernel
theorem dX7_sensor_28 : decode cX7_sensor 28 = .ok (.ifCond .eq 7, 3) := by decide +kernel
theorem dX7_sensor_31 : decode cX7_sensor 31 = .ok (.iconst 1, 1) := by decide +kernel
theorem dX7_sensor_32 : decode cX7_sensor 32 = .ok (.goto 4, 3) := by decide +kernel
theorem dX7_sensor_35 : decode cX7_sensor 35 = .ok (.iconst 0, 1) := by decide +kernel
theorem dX7_sensor_36 : decode cX7_sensor 36 = .ok (.ireturn, 1) := by decide +kernel
theorem dX7_serveHoses_0 : decode cX7_serveHoses 0 = .ok (.iconst 0, 1) := by decide +kernel
theorem dX7_serveHoses_1 : decode cX7_serveHoses 1 = .ok (.istore_n 1, 1) := by decide +kernel
theorem dX7_serveHoses_2 : decode cX7_serveHoses 2 = .ok (.iload_n 1, 1) := by decide +kernel
theorem dX7_serveHoses_3 : decode cX7_serveHoses 3 = .ok (.iconst 2, 1) := by decide +kernel
theorem dX7_serveHoses_4 : decode cX7_serveHoses 4 = .ok (.if_icmp .ge 43, 3) := by decide +kernel
theorem dX7_serveHoses_7 : decode cX7_serveHoses 7 = .ok (.aload_n 0, 1) := by decide +kernel
theorem dX7_serveHoses_8 : decode cX7_serveHoses 8 = .ok (.getfield 31, 3) := by decide +kernel
theorem dX7_serveHoses_11 : decode cX7_serveHoses 11 = .ok (.iload_n 1, 1) := by decide +kernel
theorem dX7_serveHoses_12 : decode cX7_serveHoses 12 = .ok (.aaload, 1) := by decide +kernel
theorem dX7_serveHoses_13 : decode cX7_serveHoses 13 = .ok (.astore_n 2, 1) := by decide +kernel
theorem dX7_serveHoses_14 : decode cX7_serveHoses 14 = .ok (.aload_n 2, 1) := by decide +kernel
theorem dX7_serveHoses_15 : decode cX7_serveHoses 15 = .ok (.ifnull 26, 3) := by decide +kernel
theorem dX7_serveHoses_18 : decode cX7_serveHoses 18 = .ok (.aload_n 0, 1) := by decide +kernel
theorem dX7_serveHoses_19 : decode cX7_serveHoses 19 = .ok (.aload_n 2, 1) := by decide +kernel
theorem dX7_serveHoses_20 : decode cX7_serveHoses 20 = .ok (.invokevirtual 245, 3) := by decide +kernel
theorem dX7_serveHoses_23 : decode cX7_serveHoses 23 = .ok (.ifCond .ne 18, 3) := by decide +kernel
theorem dX7_serveHoses_26 : decode cX7_serveHoses 26 = .ok (.aload_n 2, 1) := by decide +kernel
theorem dX7_serveHoses_27 : decode cX7_serveHoses 27 = .ok (.aload_n 0, 1) := by decide +kernel
theorem dX7_serveHoses_28 : decode cX7_serveHoses 28 = .ok (.getfield 40, 3) := by decide +kernel
theorem dX7_serveHoses_31 : decode cX7_serveHoses 31 = .ok (.putfield 249, 3) := by decide +kernel
theorem dX7_serveHoses_34 : decode cX7_serveHoses 34 = .ok (.aload_n 0, 1) := by decide +kernel
theorem dX7_serveHoses_35 : decode cX7_serveHoses 35 = .ok (.getfield 31, 3) := by decide +kernel
theorem dX7_serveHoses_38 : decode cX7_serveHoses 38 = .ok (.iload_n 1, 1) := by decide +kernel
theorem dX7_serveHoses_39 : decode cX7_serveHoses 39 = .ok (.aconst_null, 1) := by decide +kernel
theorem dX7_serveHoses_40 : decode cX7_serveHoses 40 = .ok (.aastore, 1) := by decide +kernel
theorem dX7_serveHoses_41 : decode cX7_serveHoses 41 = .ok (.iinc 1 1, 3) := by decide +kernel
theorem dX7_serveHoses_44 : decode cX7_serveHoses 44 = .ok (.goto (-42), 3) := by decide +kernel
theorem dX7_serveHoses_47 : decode cX7_serveHoses 47 = .ok (.return_, 1) := by decide +kernel
theorem dX7_slip_0 : decode cX7_slip 0 = .ok (.iload_n 1, 1) := by decide +kernel
theorem dX7_slip_1 : decode cX7_slip 1 = .ok (.iconst 0, 1) := by decide +kernel
theorem dX7_slip_2 : decode cX7_slip 2 = .ok (.bipush 50, 2) := by decide +kernel
theorem dX7_slip_4 : decode cX7_slip 4 = .ok (.invokestatic 94, 3) := by decide +kernel
theorem dX7_slip_7 : decode cX7_slip 7 = .ok (.ifCond .ne 5, 3) := by decide +kernel
theorem dX7_slip_10 : decode cX7_slip 10 = .ok (.iconst (-1), 1) := by decide +kernel
theorem dX7_slip_11 : decode cX7_slip 11 = .ok (.ireturn, 1) := by decide +kernel
theorem dX7_slip_12 : decode cX7_slip 12 = .ok (.aload_n 0, 1) := by decide +kernel
theorem dX7_slip_13 : decode cX7_slip 13 = .ok (.getfield 43, 3) := by decide +kernel
theorem dX7_slip_16 : decode cX7_slip 16 = .ok (.istore_n 2, 1) := by decide +kernel
theorem dX7_slip_17 : decode cX7_slip 17 = .ok (.aload_n 0, 1) := by decide +kernel
theorem dX7_slip_18 : decode cX7_slip 18 = .ok (.iload_n 1, 1) := by decide +kernel
theorem dX7_slip_19 : decode cX7_slip 19 = .ok (.putfield 43, 3) := by decide +kernel
theorem dX7_slip_22 : decode cX7_slip 22 = .ok (.iload_n 2, 1) := by decide +kernel
theorem dX7_slip_23 : decode cX7_slip 23 = .ok (.ireturn, 1) := by decide +kernel
theorem dX7_takeFromLine_0 : decode cX7_takeFromLine 0 = .ok (.iconst 0, 1) := by decide +kernel
theorem dX7_takeFromLine_1 : decode cX7_takeFromLine 1 = .ok (.istore_n 1, 1) := by decide +kernel
theorem dX7_takeFromLine_2 : decode cX7_takeFromLine 2 = .ok (.iload_n 1, 1) := by decide +kernel
theorem dX7_takeFromLine_3 : decode cX7_takeFromLine 3 = .ok (.iconst 2, 1) := by decide +kernel
theorem dX7_takeFromLine_4 : decode cX7_takeFromLine 4 = .ok (.if_icmp .ge 74, 3) := by decide +kernel
theorem dX7_takeFromLine_7 : decode cX7_takeFromLine 7 = .ok (.aload_n 0, 1) := by decide +kernel
theorem dX7_takeFromLine_8 : decode cX7_takeFromLine 8 = .ok (.aload_n 0, 1) := by decide +kernel
theorem dX7_takeFromLine_9 : decode cX7_takeFromLine 9 = .ok (.getfield 28, 3) := by decide +kernel
theorem dX7_takeFromLine_12 : decode cX7_takeFromLine 12 = .ok (.invokevirtual 134, 3) := by decide +kernel
theorem dX7_takeFromLine_15 : decode cX7_takeFromLine 15 = .ok (.astore_n 2, 1) := by decide +kernel
theorem dX7_takeFromLine_16 : decode cX7_takeFromLine 16 = .ok (.iload_n 1, 1) := by decide +kernel
theorem dX7_takeFromLine_17 : decode cX7_takeFromLine 17 = .ok (.aload_n 0, 1) := by decide +kernel
theorem dX7_takeFromLine_18 : decode cX7_takeFromLine 18 = .ok (.getfield 34, 3) := by decide +kernel
theorem dX7_takeFromLine_21 : decode cX7_takeFromLine 21 = .ok (.if_icmp .ge 51, 3) := by decide +kernel
theorem dX7_takeFromLine_24 : decode cX7_takeFromLine 24 = .ok (.aload_n 0, 1) := by decide +kernel
theorem dX7_takeFromLine_25 : decode cX7_takeFromLine 25 = .ok (.getfield 31, 3) := by decide +kernel
theorem dX7_takeFromLine_28 : decode cX7_takeFromLine 28 = .ok (.iload_n 1, 1) := by decide +kernel
theorem dX7_takeFromLine_29 : decode cX7_takeFromLine 29 = .ok (.aaload, 1) := by decide +kernel
theorem dX7_takeFromLine_30 : decode cX7_takeFromLine 30 = .ok (.ifnonnull 42, 3) := by decide +kernel
theorem dX7_takeFromLine_33 : decode cX7_takeFromLine 33 = .ok (.aload_n 2, 1) := by decide +kernel
theorem dX7_takeFromLine_34 : decode cX7_takeFromLine 34 = .ok (.ifnull 38, 3) := by decide +kernel
theorem dX7_takeFromLine_37 : decode cX7_takeFromLine 37 = .ok (.aload_n 2, 1) := by decide +kernel
theorem dX7_takeFromLine_38 : decode cX7_takeFromLine 38 = .ok (.iconst 1, 1) := by decide +kernel
theorem dX7_takeFromLine_39 : decode cX7_takeFromLine 39 = .ok (.putfield 236, 3) := by decide +kernel
theorem dX7_takeFromLine_42 : decode cX7_takeFromLine 42 = .ok (.aload_n 2, 1) := by decide +kernel
theorem dX7_takeFromLine_43 : decode cX7_takeFromLine 43 = .ok (.iconst 0, 1) := by decide +kernel
theorem dX7_takeFromLine_44 : decode cX7_takeFromLine 44 = .ok (.putfield 239, 3) := by decide +kernel
theorem dX7_takeFromLine_47 : decode cX7_takeFromLine 47 = .ok (.aload_n 2, 1) := by decide +kernel
theorem dX7_takeFromLine_48 : decode cX7_takeFromLine 48 = .ok (.aload_n 0, 1) := by decide +kernel
theorem dX7_takeFromLine_49 : decode cX7_takeFromLine 49 = .ok (.getfield 40, 3) := by decide +kernel
theorem dX7_takeFromLine_52 : decode cX7_takeFromLine 52 = .ok (.putfield 242, 3) := by decide +kernel
theorem dX7_takeFromLine_55 : decode cX7_takeFromLine 55 = .ok (.aload_n 0, 1) := by decide +kernel
theorem dX7_takeFromLine_56 : decode cX7_takeFromLine 56 = .ok (.getfield 31, 3) := by decide +kernel
theorem dX7_takeFromLine_59 : decode cX7_takeFromLine 59 = .ok (.iload_n 1, 1) := by decide +kernel
theorem dX7_takeFromLine_60 : decode cX7_takeFromLine 60 = .ok (.aload_n 2, 1) := by decide +kernel
theorem dX7_takeFromLine_61 : decode cX7_takeFromLine 61 = .ok (.aastore, 1) := by decide +kernel
theorem dX7_takeFromLine_62 : decode cX7_takeFromLine 62 = .ok (.aload_n 0, 1) := by decide +kernel
theorem dX7_takeFromLine_63 : decode cX7_takeFromLine 63 = .ok (.dup, 1) := by decide +kernel
theorem dX7_takeFromLine_64 : decode cX7_takeFromLine 64 = .ok (.getfield 28, 3) := by decide +kernel
theorem dX7_takeFromLine_67 : decode cX7_takeFromLine 67 = .ok (.iconst 1, 1) := by decide +kernel
theorem dX7_takeFromLine_68 : decode cX7_takeFromLine 68 = .ok (.iadd, 1) := by decide +kernel
theorem dX7_takeFromLine_69 : decode cX7_takeFromLine 69 = .ok (.putfield 28, 3) := by decide +kernel
theorem dX7_takeFromLine_72 : decode cX7_takeFromLine 72 = .ok (.iinc 1 1, 3) := by decide +kernel
theorem dX7_takeFromLine_75 : decode cX7_takeFromLine 75 = .ok (.goto (-73), 3) := by decide +kernel
theorem dX7_takeFromLine_78 : decode cX7_takeFromLine 78 = .ok (.return_, 1) := by decide +kernel
theorem dX7_target_0 : decode cX7_target 0 = .ok (.aload_n 0, 1) := by decide +kernel
theorem dX7_target_1 : decode cX7_target 1 = .ok (.iload_n 1, 1) := by decide +kernel
theorem dX7_target_2 : decode cX7_target 2 = .ok (.invokevirtual 111, 3) := by decide +kernel
theorem dX7_target_5 : decode cX7_target 5 = .ok (.astore_n 3, 1) := by decide +kernel
theorem dX7_target_6 : decode cX7_target 6 = .ok (.aload_n 3, 1) := by decide +kernel
theorem dX7_target_7 : decode cX7_target 7 = .ok (.ifnull 14, 3) := by decide +kernel
theorem dX7_target_10 : decode cX7_target 10 = .ok (.iload_n 2, 1) := by decide +kernel
theorem dX7_target_11 : decode cX7_target 11 = .ok (.iconst 0, 1) := by decide +kernel
theorem dX7_target_12 : decode cX7_target 12 = .ok (.sipush 400, 3) := by decide +kernel
theorem dX7_target_15 : decode cX7_target 15 = .ok (.invokestatic 94, 3) := by decide +kernel
theorem dX7_target_18 : decode cX7_target 18 = .ok (.ifCond .ne 5, 3) := by decide +kernel
theorem dX7_target_21 : decode cX7_target 21 = .ok (.iconst (-1), 1) := by decide +kernel
theorem dX7_target_22 : decode cX7_target 22 = .ok (.ireturn, 1) := by decide +kernel
theorem dX7_target_23 : decode cX7_target 23 = .ok (.aload_n 3, 1) := by decide +kernel
theorem dX7_target_24 : decode cX7_target 24 = .ok (.getfield 105, 3) := by decide +kernel
theorem dX7_target_27 : decode cX7_target 27 = .ok (.istore 4, 2) := by decide +kernel
theorem dX7_target_29 : decode cX7_target 29 = .ok (.aload_n 3, 1) := by decide +kernel
theorem dX7_target_30 : decode cX7_target 30 = .ok (.iload_n 2, 1) := by decide +kernel
theorem dX7_target_31 : decode cX7_target 31 = .ok (.putfield 105, 3) := by decide +kernel
theorem dX7_target_34 : decode cX7_target 34 = .ok (.iload 4, 2) := by decide +kernel
theorem dX7_target_36 : decode cX7_target 36 = .ok (.ireturn, 1) := by decide +kernel
theorem dX7_within_0 : decode cX7_within 0 = .ok (.iload_n 0, 1) := by decide +kernel
theorem dX7_within_1 : decode cX7_within 1 = .ok (.iload_n 1, 1) := by decide +kernel
theorem dX7_within_2 : decode cX7_within 2 = .ok (.if_icmp .lt 12, 3) := by decide +kernel
theorem dX7_within_5 : decode cX7_within 5 = .ok (.iload_n 0, 1) := by decide +kernel
theorem dX7_within_6 : decode cX7_within 6 = .ok (.iload_n 2, 1) := by decide +kernel
theorem dX7_within_7 : decode cX7_within 7 = .ok (.if_icmp .gt 7, 3) := by decide +kernel
theorem dX7_within_10 : decode cX7_within 10 = .ok (.iconst 1, 1) := by decide +kernel
theorem dX7_within_11 : decode cX7_within 11 = .ok (.goto 4, 3) := by decide +kernel
theorem dX7_within_14 : decode cX7_within 14 = .ok (.iconst 0, 1) := by decide +kernel
theorem dX7_within_15 : decode cX7_within 15 = .ok (.ireturn, 1) := by decide +kernel
