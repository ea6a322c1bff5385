theorem dX0_init_0 : decode cX0_init 0 = .ok (.aload_n 0, 1) := by decide +kernel
theorem dX0_init_1 : decode cX0_init 1 = .ok (.invokespecial 3, 3) := by decide +kernel
theorem dX0_init_4 : decode cX0_init 4 = .ok (.aload_n 0, 1) := by decide +kernel
theorem dX0_init_5 : decode cX0_init 5 = .ok (.bipush 6, 2) := by decide +kernel
theorem dX0_init_7 : decode cX0_init 7 = .ok (.newarray .int, 2) := by decide +kernel
theorem dX0_init_9 : decode cX0_init 9 = .ok (.putfield 9, 3) := by decide +kernel
theorem dX0_init_12 : decode cX0_init 12 = .ok (.aload_n 0, 1) := by decide +kernel
theorem dX0_init_13 : decode cX0_init 13 = .ok (.bipush 6, 2) := by decide +kernel
theorem dX0_init_15 : decode cX0_init 15 = .ok (.newarray .int, 2) := by decide +kernel
theorem dX0_init_17 : decode cX0_init 17 = .ok (.putfield 15, 3) := by decide +kernel
theorem dX0_init_20 : decode cX0_init 20 = .ok (.aload_n 0, 1) := by decide +kernel
theorem dX0_init_21 : decode cX0_init 21 = .ok (.bipush 8, 2) := by decide +kernel
theorem dX0_init_23 : decode cX0_init 23 = .ok (.newarray .int, 2) := by decide +kernel
theorem dX0_init_25 : decode cX0_init 25 = .ok (.putfield 18, 3) := by decide +kernel
theorem dX0_init_28 : decode cX0_init 28 = .ok (.aload_n 0, 1) := by decide +kernel
theorem dX0_init_29 : decode cX0_init 29 = .ok (.bipush 8, 2) := by decide +kernel
theorem dX0_init_31 : decode cX0_init 31 = .ok (.newarray .int, 2) := by decide +kernel
theorem dX0_init_33 : decode cX0_init 33 = .ok (.putfield 21, 3) := by decide +kernel
theorem dX0_init_36 : decode cX0_init 36 = .ok (.aload_n 0, 1) := by decide +kernel
theorem dX0_init_37 : decode cX0_init 37 = .ok (.bipush 8, 2) := by decide +kernel
theorem dX0_init_39 : decode cX0_init 39 = .ok (.newarray .int, 2) := by decide +kernel
theorem dX0_init_41 : decode cX0_init 41 = .ok (.putfield 24, 3) := by decide +kernel
theorem dX0_init_44 : decode cX0_init 44 = .ok (.aload_n 0, 1) := by decide +kernel
theorem dX0_init_45 : decode cX0_init 45 = .ok (.iconst 0, 1) := by decide +kernel
theorem dX0_init_46 : decode cX0_init 46 = .ok (.putfield 27, 3) := by decide +kernel
theorem dX0_init_49 : decode cX0_init 49 = .ok (.return_, 1) := by decide +kernel
theorem dX0_beginAgain_0 : decode cX0_beginAgain 0 = .ok (.iconst 0, 1) := by decide +kernel
theorem dX0_beginAgain_1 : decode cX0_beginAgain 1 = .ok (.istore_n 1, 1) := by decide +kernel
theorem dX0_beginAgain_2 : decode cX0_beginAgain 2 = .ok (.iload_n 1, 1) := by decide +kernel
theorem dX0_beginAgain_3 : decode cX0_beginAgain 3 = .ok (.bipush 6, 2) := by decide +kernel
theorem dX0_beginAgain_5 : decode cX0_beginAgain 5 = .ok (.if_icmp .ge 23, 3) := by decide +kernel
theorem dX0_beginAgain_8 : decode cX0_beginAgain 8 = .ok (.aload_n 0, 1) := by decide +kernel
theorem dX0_beginAgain_9 : decode cX0_beginAgain 9 = .ok (.getfield 9, 3) := by decide +kernel
theorem dX0_beginAgain_12 : decode cX0_beginAgain 12 = .ok (.iload_n 1, 1) := by decide +kernel
theorem dX0_beginAgain_13 : decode cX0_beginAgain 13 = .ok (.iconst 0, 1) := by decide +kernel
theorem dX0_beginAgain_14 : decode cX0_beginAgain 14 = .ok (.iastore, 1) := by decide +kernel
theorem dX0_beginAgain_15 : decode cX0_beginAgain 15 = .ok (.aload_n 0, 1) := by decide +kernel
theorem dX0_beginAgain_16 : decode cX0_beginAgain 16 = .ok (.getfield 15, 3) := by decide +kernel
theorem dX0_beginAgain_19 : decode cX0_beginAgain 19 = .ok (.iload_n 1, 1) := by decide +kernel
theorem dX0_beginAgain_20 : decode cX0_beginAgain 20 = .ok (.iconst 0, 1) := by decide +kernel
theorem dX0_beginAgain_21 : decode cX0_beginAgain 21 = .ok (.iastore, 1) := by decide +kernel
theorem dX0_beginAgain_22 : decode cX0_beginAgain 22 = .ok (.iinc 1 1, 3) := by decide +kernel
theorem dX0_beginAgain_25 : decode cX0_beginAgain 25 = .ok (.goto (-23), 3) := by decide +kernel
theorem dX0_beginAgain_28 : decode cX0_beginAgain 28 = .ok (.iconst 0, 1) := by decide +kernel
theorem dX0_beginAgain_29 : decode cX0_beginAgain 29 = .ok (.istore_n 1, 1) := by decide +kernel
theorem dX0_beginAgain_30 : decode cX0_beginAgain 30 = .ok (.iload_n 1, 1) := by decide +kernel
theorem dX0_beginAgain_31 : decode cX0_beginAgain 31 = .ok (.bipush 8, 2) := by decide +kernel
theorem dX0_beginAgain_33 : decode cX0_beginAgain 33 = .ok (.if_icmp .ge 30, 3) := by decide +kernel
theorem dX0_beginAgain_36 : decode cX0_beginAgain 36 = .ok (.aload_n 0, 1) := by decide +kernel
theorem dX0_beginAgain_37 : decode cX0_beginAgain 37 = .ok (.getfield 18, 3) := by decide +kernel
theorem dX0_beginAgain_40 : decode cX0_beginAgain 40 = .ok (.iload_n 1, 1) := by decide +kernel
theorem dX0_beginAgain_41 : decode cX0_beginAgain 41 = .ok (.iconst 0, 1) := by decide +kernel
theorem dX0_beginAgain_42 : decode cX0_beginAgain 42 = .ok (.iastore, 1) := by decide +kernel
theorem dX0_beginAgain_43 : decode cX0_beginAgain 43 = .ok (.aload_n 0, 1) := by decide +kernel
theorem dX0_beginAgain_44 : decode cX0_beginAgain 44 = .ok (.getfield 21, 3) := by decide +kernel
theorem dX0_beginAgain_47 : decode cX0_beginAgain 47 = .ok (.iload_n 1, 1) := by decide +kernel
theorem dX0_beginAgain_48 : decode cX0_beginAgain 48 = .ok (.iconst 0, 1) := by decide +kernel
theorem dX0_beginAgain_49 : decode cX0_beginAgain 49 = .ok (.iastore, 1) := by decide +kernel
theorem dX0_beginAgain_50 : decode cX0_beginAgain 50 = .ok (.aload_n 0, 1) := by decide +kernel
theorem dX0_beginAgain_51 : decode cX0_beginAgain 51 = .ok (.getfield 24, 3) := by decide +kernel
theorem dX0_beginAgain_54 : decode cX0_beginAgain 54 = .ok (.iload_n 1, 1) := by decide +kernel
theorem dX0_beginAgain_55 : decode cX0_beginAgain 55 = .ok (.iconst 0, 1) := by decide +kernel
theorem dX0_beginAgain_56 : decode cX0_beginAgain 56 = .ok (.iastore, 1) := by decide +kernel
theorem dX0_beginAgain_57 : decode cX0_beginAgain 57 = .ok (.iinc 1 1, 3) := by decide +kernel
theorem dX0_beginAgain_60 : decode cX0_beginAgain 60 = .ok (.goto (-30), 3) := by decide +kernel
theorem dX0_beginAgain_63 : decode cX0_beginAgain 63 = .ok (.aload_n 0, 1) := by decide +kernel
theorem dX0_beginAgain_64 : decode cX0_beginAgain 64 = .ok (.iconst 0, 1) := by decide +kernel
theorem dX0_beginAgain_65 : decode cX0_beginAgain 65 = .ok (.putfield 27, 3) := by decide +kernel
theorem dX0_beginAgain_68 : decode cX0_beginAgain 68 = .ok (.return_, 1) := by decide +kernel
theorem dX0_become_0 : decode cX0_become 0 = .ok (.aload_n 1, 1) := by decide +kernel
theorem dX0_become_1 : decode cX0_become 1 = .ok (.getfield 9, 3) := by decide +kernel
theorem dX0_become_4 : decode cX0_become 4 = .ok (.iconst 0, 1) := by decide +kernel
theorem dX0_become_5 : decode cX0_become 5 = .ok (.aload_n 0, 1) := by decide +kernel
theorem dX0_become_6 : decode cX0_become 6 = .ok (.getfield 9, 3) := by decide +kernel
theorem dX0_become_9 : decode cX0_become 9 = .ok (.iconst 0, 1) := by decide +kernel
theorem dX0_become_10 : decode cX0_become 10 = .ok (.bipush 6, 2) := by decide +kernel
theorem dX0_become_12 : decode cX0_become 12 = .ok (.invokestatic 31, 3) := by decide +kernel
theorem dX0_become_15 : decode cX0_become 15 = .ok (.aload_n 1, 1) := by decide +kernel
theorem dX0_become_16 : decode cX0_become 16 = .ok (.getfield 15, 3) := by decide +kernel
theorem dX0_become_19 : decode cX0_become 19 = .ok (.iconst 0, 1) := by decide +kernel
theorem dX0_become_20 : decode cX0_become 20 = .ok (.aload_n 0, 1) := by decide +kernel
theorem dX0_become_21 : decode cX0_become 21 = .ok (.getfield 15, 3) := by decide +kernel
theorem dX0_become_24 : decode cX0_become 24 = .ok (.iconst 0, 1) := by decide +kernel
theorem dX0_become_25 : decode cX0_become 25 = .ok (.bipush 6, 2) := by decide +kernel
theorem dX0_become_27 : decode cX0_become 27 = .ok (.invokestatic 31, 3) := by decide +kernel
theorem dX0_become_30 : decode cX0_become 30 = .ok (.aload_n 1, 1) := by decide +kernel
theorem dX0_become_31 : decode cX0_become 31 = .ok (.getfield 18, 3) := by decide +kernel
theorem dX0_become_34 : decode cX0_become 34 = .ok (.iconst 0, 1) := by decide +kernel
theorem dX0_become_35 : decode cX0_become 35 = .ok (.aload_n 0, 1) := by decide +kernel
theorem dX0_become_36 : decode cX0_become 36 = .ok (.getfield 18, 3) := by decide +kernel
theorem dX0_become_39 : decode cX0_become 39 = .ok (.iconst 0, 1) := by decide +kernel
theorem dX0_become_40 : decode cX0_become 40 = .ok (.bipush 8, 2) := by decide +kernel
theorem dX0_become_42 : decode cX0_become 42 = .ok (.invokestatic 31, 3) := by decide +kernel
theorem dX0_become_45 : decode cX0_become 45 = .ok (.aload_n 1, 1) := by decide +kernel
theorem dX0_become_46 : decode cX0_become 46 = .ok (.getfield 21, 3) := by decide +kernel
theorem dX0_become_49 : decode cX0_become 49 = .ok (.iconst 0, 1) := by decide +kernel
theorem dX0_become_50 : decode cX0_become 50 = .ok (.aload_n 0, 1) := by decide +kernel
theorem dX0_become_51 : decode cX0_become 51 = .ok (.getfield 21, 3) := by decide +kernel
theorem dX0_become_54 : decode cX0_become 54 = .ok (.iconst 0, 1) := by decide +kernel
theorem dX0_become_55 : decode cX0_become 55 = .ok (.bipush 8, 2) := by decide +kernel
theorem dX0_become_57 : decode cX0_become 57 = .ok (.invokestatic 31, 3) := by decide +kernel
theorem dX0_become_60 : decode cX0_become 60 = .ok (.aload_n 1, 1) := by decide +kernel
theorem dX0_become_61 : decode cX0_become 61 = .ok (.getfield 24, 3) := by decide +kernel
theorem dX0_become_64 : decode cX0_become 64 = .ok (.iconst 0, 1) := by decide +kernel
theorem dX0_become_65 : decode cX0_become 65 = .ok (.aload_n 0, 1) := by decide +kernel
theorem dX0_become_66 : decode cX0_become 66 = .ok (.getfield 24, 3) := by decide +kernel
theorem dX0_become_69 : decode cX0_become 69 = .ok (.iconst 0, 1) := by decide +kernel
theorem dX0_become_70 : decode cX0_become 70 = .ok (.bipush 8, 2) := by decide +kernel
theorem dX0_become_72 : decode cX0_become 72 = .ok (.invokestatic 31, 3) := by decide +kernel
theorem dX0_become_75 : decode cX0_become 75 = .ok (.aload_n 0, 1) := by decide +kernel
theorem dX0_become_76 : decode cX0_become 76 = .ok (.aload_n 1, 1) := by decide +kernel
theorem dX0_become_77 : decode cX0_become 77 = .ok (.getfield 27, 3) := by decide +kernel
theorem dX0_become_80 : decode cX0_become 80 = .ok (.putfield 27, 3) := by decide +kernel
theorem dX0_become_83 : decode cX0_become 83 = .ok (.return_, 1) := by decide +kernel
theorem dX1_init_0 : decode cX1_init 0 = .ok (.aload_n 0, 1) := by decide +kernel
theorem dX1_init_1 : decode cX1_init 1 = .ok (.invokespecial 3, 3) := by decide +kernel
theorem dX1_init_4 : decode cX1_init 4 = .ok (.aload_n 0, 1) := by decide +kernel
theorem dX1_init_5 : decode cX1_init 5 = .ok (.bipush 10, 2) := by decide +kernel
theorem dX1_init_7 : decode cX1_init 7 = .ok (.anewarray 9, 3) := by decide +kernel
theorem dX1_init_10 : decode cX1_init 10 = .ok (.putfield 11, 3) := by decide +kernel
theorem dX1_init_13 : decode cX1_init 13 = .ok (.aload_n 0, 1) := by decide +kernel
theorem dX1_init_14 : decode cX1_init 14 = .ok (.iconst 0, 1) := by decide +kernel
theorem dX1_init_15 : decode cX1_init 15 = .ok (.putfield 17, 3) := by decide +kernel
theorem dX1_init_18 : decode cX1_init 18 = .ok (.aload_n 0, 1) := by decide +kernel
theorem dX1_init_19 : decode cX1_init 19 = .ok (.iconst 0, 1) := by decide +kernel
theorem dX1_init_20 : decode cX1_init 20 = .ok (.putfield 21, 3) := by decide +kernel
theorem dX1_init_23 : decode cX1_init 23 = .ok (.iconst 0, 1) := by decide +kernel
theorem dX1_init_24 : decode cX1_init 24 = .ok (.istore_n 1, 1) := by decide +kernel
theorem dX1_init_25 : decode cX1_init 25 = .ok (.iload_n 1, 1) := by decide +kernel
theorem dX1_init_26 : decode cX1_init 26 = .ok (.bipush 10, 2) := by decide +kernel
theorem dX1_init_28 : decode cX1_init 28 = .ok (.if_icmp .ge 22, 3) := by decide +kernel
theorem dX1_init_31 : decode cX1_init 31 = .ok (.aload_n 0, 1) := by decide +kernel
theorem dX1_init_32 : decode cX1_init 32 = .ok (.getfield 11, 3) := by decide +kernel
theorem dX1_init_35 : decode cX1_init 35 = .ok (.iload_n 1, 1) := by decide +kernel
theorem dX1_init_36 : decode cX1_init 36 = .ok (.new 9, 3) := by decide +kernel
theorem dX1_init_39 : decode cX1_init 39 = .ok (.dup, 1) := by decide +kernel
theorem dX1_init_40 : decode cX1_init 40 = .ok (.invokespecial 24, 3) := by decide +kernel
theorem dX1_init_43 : decode cX1_init 43 = .ok (.aastore, 1) := by decide +kernel
theorem dX1_init_44 : decode cX1_init 44 = .ok (.iinc 1 1, 3) := by decide +kernel
theorem dX1_init_47 : decode cX1_init 47 = .ok (.goto (-22), 3) := by decide +kernel
theorem dX1_init_50 : decode cX1_init 50 = .ok (.return_, 1) := by decide +kernel
theorem dX1_empty_0 : decode cX1_empty 0 = .ok (.aload_n 0, 1) := by decide +kernel
theorem dX1_empty_1 : decode cX1_empty 1 = .ok (.iconst 0, 1) := by decide +kernel
theorem dX1_empty_2 : decode cX1_empty 2 = .ok (.putfield 21, 3) := by decide +kernel
theorem dX1_empty_5 : decode cX1_empty 5 = .ok (.return_, 1) := by decide +kernel
theorem dX1_remember_0 : decode cX1_remember 0 = .ok (.aload_n 0, 1) := by decide +kernel
theorem dX1_remember_1 : decode cX1_remember 1 = .ok (.getfield 17, 3) := by decide +kernel
theorem dX1_remember_4 : decode cX1_remember 4 = .ok (.ifCond .lt 77, 3) := by decide +kernel
theorem dX1_remember_7 : decode cX1_remember 7 = .ok (.aload_n 0, 1) := by decide +kernel
theorem dX1_remember_8 : decode cX1_remember 8 = .ok (.getfield 17, 3) := by decide +kernel
theorem dX1_remember_11 : decode cX1_remember 11 = .ok (.bipush 10, 2) := by decide +kernel
theorem dX1_remember_13 : decode cX1_remember 13 = .ok (.if_icmp .ge 68, 3) := by decide +kernel
theorem dX1_remember_16 : decode cX1_remember 16 = .ok (.aload_n 0, 1) := by decide +kernel
theorem dX1_remember_17 : decode cX1_remember 17 = .ok (.getfield 11, 3) := by decide +kernel
theorem dX1_remember_20 : decode cX1_remember 20 = .ok (.aload_n 0, 1) := by decide +kernel
theorem dX1_remember_21 : decode cX1_remember 21 = .ok (.getfield 17, 3) := by decide +kernel
theorem dX1_remember_24 : decode cX1_remember 24 = .ok (.aaload, 1) := by decide +kernel
theorem dX1_remember_25 : decode cX1_remember 25 = .ok (.ifnull 56, 3) := by decide +kernel
theorem dX1_remember_28 : decode cX1_remember 28 = .ok (.aload_n 0, 1) := by decide +kernel
theorem dX1_remember_29 : decode cX1_remember 29 = .ok (.getfield 11, 3) := by decide +kernel
theorem dX1_remember_32 : decode cX1_remember 32 = .ok (.aload_n 0, 1) := by decide +kernel
theorem dX1_remember_33 : decode cX1_remember 33 = .ok (.getfield 17, 3) := by decide +kernel
theorem dX1_remember_36 : decode cX1_remember 36 = .ok (.aaload, 1) := by decide +kernel
theorem dX1_remember_37 : decode cX1_remember 37 = .ok (.aload_n 1, 1) := by decide +kernel
theorem dX1_remember_38 : decode cX1_remember 38 = .ok (.invokevirtual 25, 3) := by decide +kernel
theorem dX1_remember_41 : decode cX1_remember 41 = .ok (.aload_n 0, 1) := by decide +kernel
theorem dX1_remember_42 : decode cX1_remember 42 = .ok (.aload_n 0, 1) := by decide +kernel
theorem dX1_remember_43 : decode cX1_remember 43 = .ok (.getfield 17, 3) := by decide +kernel
theorem dX1_remember_46 : decode cX1_remember 46 = .ok (.iconst 1, 1) := by decide +kernel
theorem dX1_remember_47 : decode cX1_remember 47 = .ok (.iadd, 1) := by decide +kernel
theorem dX1_remember_48 : decode cX1_remember 48 = .ok (.bipush 10, 2) := by decide +kernel
theorem dX1_remember_50 : decode cX1_remember 50 = .ok (.if_icmp .ge 12, 3) := by decide +kernel
theorem dX1_remember_53 : decode cX1_remember 53 = .ok (.aload_n 0, 1) := by decide +kernel
theorem dX1_remember_54 : decode cX1_remember 54 = .ok (.getfield 17, 3) := by decide +kernel
theorem dX1_remember_57 : decode cX1_remember 57 = .ok (.iconst 1, 1) := by decide +kernel
theorem dX1_remember_58 : decode cX1_remember 58 = .ok (.iadd, 1) := by decide +kernel
theorem dX1_remember_59 : decode cX1_remember 59 = .ok (.goto 4, 3) := by decide +kernel
theorem dX1_remember_62 : decode cX1_remember 62 = .ok (.iconst 0, 1) := by decide +kernel
theorem dX1_remember_63 : decode cX1_remember 63 = .ok (.putfield 17, 3) := by decide +kernel
theorem dX1_remember_66 : decode cX1_remember 66 = .ok (.aload_n 0, 1) := by decide +kernel
theorem dX1_remember_67 : decode cX1_remember 67 = .ok (.bipush 10, 2) := by decide +kernel
theorem dX1_remember_69 : decode cX1_remember 69 = .ok (.aload_n 0, 1) := by decide +kernel
theorem dX1_remember_70 : decode cX1_remember 70 = .ok (.getfield 21, 3) := by decide +kernel
theorem dX1_remember_73 : decode cX1_remember 73 = .ok (.iconst 1, 1) := by decide +kernel
theorem dX1_remember_74 : decode cX1_remember 74 = .ok (.iadd, 1) := by decide +kernel
theorem dX1_remember_75 : decode cX1_remember 75 = .ok (.invokestatic 29, 3) := by decide +kernel
theorem dX1_remember_78 : decode cX1_remember 78 = .ok (.putfield 21, 3) := by decide +kernel
theorem dX1_remember_81 : decode cX1_remember 81 = .ok (.return_, 1) := by decide +kernel
theorem dX1_giveBack_0 : decode cX1_giveBack 0 = .ok (.aload_n 0, 1) := by decide +kernel
theorem dX1_giveBack_1 : decode cX1_giveBack 1 = .ok (.getfield 17, 3) := by decide +kernel
theorem dX1_giveBack_4 : decode cX1_giveBack 4 = .ok (.ifCond .le 12, 3) := by decide +kernel
theorem dX1_giveBack_7 : decode cX1_giveBack 7 = .ok (.aload_n 0, 1) := by decide +kernel
theorem dX1_giveBack_8 : decode cX1_giveBack 8 = .ok (.getfield 17, 3) := by decide +kernel
theorem dX1_giveBack_11 : decode cX1_giveBack 11 = .ok (.iconst 1, 1) := by decide +kernel
theorem dX1_giveBack_12 : decode cX1_giveBack 12 = .ok (.isub, 1) := by decide +kernel
theorem dX1_giveBack_13 : decode cX1_giveBack 13 = .ok (.goto 5, 3) := by decide +kernel
theorem dX1_giveBack_16 : decode cX1_giveBack 16 = .ok (.bipush 9, 2) := by decide +kernel
theorem dX1_giveBack_18 : decode cX1_giveBack 18 = .ok (.istore_n 2, 1) := by decide +kernel
theorem dX1_giveBack_19 : decode cX1_giveBack 19 = .ok (.aload_n 0, 1) := by decide +kernel
theorem dX1_giveBack_20 : decode cX1_giveBack 20 = .ok (.getfield 21, 3) := by decide +kernel
theorem dX1_giveBack_23 : decode cX1_giveBack 23 = .ok (.ifCond .le 43, 3) := by decide +kernel
theorem dX1_giveBack_26 : decode cX1_giveBack 26 = .ok (.iload_n 2, 1) := by decide +kernel
theorem dX1_giveBack_27 : decode cX1_giveBack 27 = .ok (.bipush 10, 2) := by decide +kernel
theorem dX1_giveBack_29 : decode cX1_giveBack 29 = .ok (.if_icmp .ge 37, 3) := by decide +kernel
theorem dX1_giveBack_32 : decode cX1_giveBack 32 = .ok (.aload_n 0, 1) := by decide +kernel
theorem dX1_giveBack_33 : decode cX1_giveBack 33 = .ok (.getfield 11, 3) := by decide +kernel
theorem dX1_giveBack_36 : decode cX1_giveBack 36 = .ok (.iload_n 2, 1) := by decide +kernel
theorem dX1_giveBack_37 : decode cX1_giveBack 37 = .ok (.aaload, 1) := by decide +kernel
theorem dX1_giveBack_38 : decode cX1_giveBack 38 = .ok (.ifnull 28, 3) := by decide +kernel
theorem dX1_giveBack_41 : decode cX1_giveBack 41 = .ok (.aload_n 1, 1) := by decide +kernel
theorem dX1_giveBack_42 : decode cX1_giveBack 42 = .ok (.aload_n 0, 1) := by decide +kernel
theorem dX1_giveBack_43 : decode cX1_giveBack 43 = .ok (.getfield 11, 3) := by decide +kernel
theorem dX1_giveBack_46 : decode cX1_giveBack 46 = .ok (.iload_n 2, 1) := by decide +kernel
theorem dX1_giveBack_47 : decode cX1_giveBack 47 = .ok (.aaload, 1) := by decide +kernel
theorem dX1_giveBack_48 : decode cX1_giveBack 48 = .ok (.invokevirtual 25, 3) := by decide +kernel
theorem dX1_giveBack_51 : decode cX1_giveBack 51 = .ok (.aload_n 0, 1) := by decide +kernel
theorem dX1_giveBack_52 : decode cX1_giveBack 52 = .ok (.iload_n 2, 1) := by decide +kernel
theorem dX1_giveBack_53 : decode cX1_giveBack 53 = .ok (.putfield 17, 3) := by decide +kernel
theorem dX1_giveBack_56 : decode cX1_giveBack 56 = .ok (.aload_n 0, 1) := by decide +kernel
theorem dX1_giveBack_57 : decode cX1_giveBack 57 = .ok (.dup, 1) := by decide +kernel
theorem dX1_giveBack_58 : decode cX1_giveBack 58 = .ok (.getfield 21, 3) := by decide +kernel
theorem dX1_giveBack_61 : decode cX1_giveBack 61 = .ok (.iconst 1, 1) := by decide +kernel
theorem dX1_giveBack_62 : decode cX1_giveBack 62 = .ok (.isub, 1) := by decide +kernel
theorem dX1_giveBack_63 : decode cX1_giveBack 63 = .ok (.putfield 21, 3) := by decide +kernel
theorem dX1_giveBack_66 : decode cX1_giveBack 66 = .ok (.return_, 1) := by decide +kernel
theorem dX2_init_0 : decode cX2_init 0 = .ok (.aload_n 0, 1) := by decide +kernel
theorem dX2_init_1 : decode cX2_init 1 = .ok (.invokespecial 3, 3) := by decide +kernel
theorem dX2_init_4 : decode cX2_init 4 = .ok (.aload_n 0, 1) := by decide +kernel
theorem dX2_init_5 : decode cX2_init 5 = .ok (.new 9, 3) := by decide +kernel
theorem dX2_init_8 : decode cX2_init 8 = .ok (.dup, 1) := by decide +kernel
theorem dX2_init_9 : decode cX2_init 9 = .ok (.invokespecial 11, 3) := by decide +kernel
theorem dX2_init_12 : decode cX2_init 12 = .ok (.putfield 12, 3) := by decide +kernel
theorem dX2_init_15 : decode cX2_init 15 = .ok (.aload_n 0, 1) := by decide +kernel
theorem dX2_init_16 : decode cX2_init 16 = .ok (.new 18, 3) := by decide +kernel
theorem dX2_init_19 : decode cX2_init 19 = .ok (.dup, 1) := by decide +kernel
theorem dX2_init_20 : decode cX2_init 20 = .ok (.invokespecial 20, 3) := by decide +kernel
theorem dX2_init_23 : decode cX2_init 23 = .ok (.putfield 21, 3) := by decide +kernel
theorem dX2_init_26 : decode cX2_init 26 = .ok (.aload_n 0, 1) := by decide +kernel
theorem dX2_init_27 : decode cX2_init 27 = .ok (.iconst 0, 1) := by decide +kernel
theorem dX2_init_28 : decode cX2_init 28 = .ok (.putfield 25, 3) := by decide +kernel
theorem dX2_init_31 : decode cX2_init 31 = .ok (.aload_n 0, 1) := by decide +kernel
theorem dX2_init_32 : decode cX2_init 32 = .ok (.iconst 0, 1) := by decide +kernel
theorem dX2_init_33 : decode cX2_init 33 = .ok (.putfield 29, 3) := by decide +kernel
theorem dX2_init_36 : decode cX2_init 36 = .ok (.return_, 1) := by decide +kernel
theorem dX2_readAll_0 : decode cX2_readAll 0 = .ok (.aload_n 0, 1) := by decide +kernel
theorem dX2_readAll_1 : decode cX2_readAll 1 = .ok (.getfield 21, 3) := by decide +kernel
theorem dX2_readAll_4 : decode cX2_readAll 4 = .ok (.invokevirtual 32, 3) := by decide +kernel
theorem dX2_readAll_7 : decode cX2_readAll 7 = .ok (.aload_n 0, 1) := by decide +kernel
theorem dX2_readAll_8 : decode cX2_readAll 8 = .ok (.iconst 0, 1) := by decide +kernel
theorem dX2_readAll_9 : decode cX2_readAll 9 = .ok (.putfield 25, 3) := by decide +kernel
theorem dX2_readAll_12 : decode cX2_readAll 12 = .ok (.aload_n 0, 1) := by decide +kernel
theorem dX2_readAll_13 : decode cX2_readAll 13 = .ok (.iconst 0, 1) := by decide +kernel
theorem dX2_readAll_14 : decode cX2_readAll 14 = .ok (.putfield 29, 3) := by decide +kernel
theorem dX2_readAll_17 : decode cX2_readAll 17 = .ok (.aload_n 0, 1) := by decide +kernel
theorem dX2_readAll_18 : decode cX2_readAll 18 = .ok (.getfield 12, 3) := by decide +kernel
theorem dX2_readAll_21 : decode cX2_readAll 21 = .ok (.invokevirtual 35, 3) := by decide +kernel
theorem dX2_readAll_24 : decode cX2_readAll 24 = .ok (.iconst 0, 1) := by decide +kernel
theorem dX2_readAll_25 : decode cX2_readAll 25 = .ok (.istore_n 1, 1) := by decide +kernel
theorem dX2_readAll_26 : decode cX2_readAll 26 = .ok (.iload_n 1, 1) := by decide +kernel
theorem dX2_readAll_27 : decode cX2_readAll 27 = .ok (.sipush 200, 3) := by decide +kernel
theorem dX2_readAll_30 : decode cX2_readAll 30 = .ok (.if_icmp .gt 131, 3) := by decide +kernel
theorem dX2_readAll_33 : decode cX2_readAll 33 = .ok (.aload_n 0, 1) := by decide +kernel
theorem dX2_readAll_34 : decode cX2_readAll 34 = .ok (.getfield 12, 3) := by decide +kernel
theorem dX2_readAll_37 : decode cX2_readAll 37 = .ok (.invokevirtual 38, 3) := by decide +kernel
theorem dX2_readAll_40 : decode cX2_readAll 40 = .ok (.aload_n 0, 1) := by decide +kernel
theorem dX2_readAll_41 : decode cX2_readAll 41 = .ok (.getfield 12, 3) := by decide +kernel
theorem dX2_readAll_44 : decode cX2_readAll 44 = .ok (.getfield 41, 3) := by decide +kernel
theorem dX2_readAll_47 : decode cX2_readAll 47 = .ok (.lookupswitch 99 #[(-1, 57), (97, 83), (109, 67), (112, 59), (115, 91), (120, 75)], 57) := by decide +kernel
theorem dX2_readAll_104 : decode cX2_readAll 104 = .ok (.iload_n 1, 1) := by decide +kernel
theorem dX2_readAll_105 : decode cX2_readAll 105 = .ok (.ireturn, 1) := by decide +kernel
theorem dX2_readAll_106 : decode cX2_readAll 106 = .ok (.aload_n 0, 1) := by decide +kernel
theorem dX2_readAll_107 : decode cX2_readAll 107 = .ok (.invokevirtual 45, 3) := by decide +kernel
theorem dX2_readAll_110 : decode cX2_readAll 110 = .ok (.istore_n 2, 1) := by decide +kernel
theorem dX2_readAll_111 : decode cX2_readAll 111 = .ok (.goto 37, 3) := by decide +kernel
theorem dX2_readAll_114 : decode cX2_readAll 114 = .ok (.aload_n 0, 1) := by decide +kernel
theorem dX2_readAll_115 : decode cX2_readAll 115 = .ok (.invokevirtual 49, 3) := by decide +kernel
theorem dX2_readAll_118 : decode cX2_readAll 118 = .ok (.istore_n 2, 1) := by decide +kernel
theorem dX2_readAll_119 : decode cX2_readAll 119 = .ok (.goto 29, 3) := by decide +kernel
theorem dX2_readAll_122 : decode cX2_readAll 122 = .ok (.aload_n 0, 1) := by decide +kernel
theorem dX2_readAll_123 : decode cX2_readAll 123 = .ok (.invokevirtual 52, 3) := by decide +kernel
theorem dX2_readAll_126 : decode cX2_readAll 126 = .ok (.istore_n 2, 1) := by decide +kernel
theorem dX2_readAll_127 : decode cX2_readAll 127 = .ok (.goto 21, 3) := by decide +kernel
theorem dX2_readAll_130 : decode cX2_readAll 130 = .ok (.aload_n 0, 1) := by decide +kernel
theorem dX2_readAll_131 : decode cX2_readAll 131 = .ok (.invokevirtual 55, 3) := by decide +kernel
theorem dX2_readAll_134 : decode cX2_readAll 134 = .ok (.istore_n 2, 1) := by decide +kernel
theorem dX2_readAll_135 : decode cX2_readAll 135 = .ok (.goto 13, 3) := by decide +kernel
theorem dX2_readAll_138 : decode cX2_readAll 138 = .ok (.aload_n 0, 1) := by decide +kernel
theorem dX2_readAll_139 : decode cX2_readAll 139 = .ok (.invokevirtual 58, 3) := by decide +kernel
theorem dX2_readAll_142 : decode cX2_readAll 142 = .ok (.istore_n 2, 1) := by decide +kernel
theorem dX2_readAll_143 : decode cX2_readAll 143 = .ok (.goto 5, 3) := by decide +kernel
theorem dX2_readAll_146 : decode cX2_readAll 146 = .ok (.iconst 0, 1) := by decide +kernel
theorem dX2_readAll_147 : decode cX2_readAll 147 = .ok (.istore_n 2, 1) := by decide +kernel
theorem dX2_readAll_148 : decode cX2_readAll 148 = .ok (.iload_n 2, 1) := by decide +kernel
theorem dX2_readAll_149 : decode cX2_readAll 149 = .ok (.ifCond .ne 6, 3) := by decide +kernel
theorem dX2_readAll_152 : decode cX2_readAll 152 = .ok (.goto 9, 3) := by decide +kernel
theorem dX2_readAll_155 : decode cX2_readAll 155 = .ok (.iinc 1 1, 3) := by decide +kernel
theorem dX2_readAll_158 : decode cX2_readAll 158 = .ok (.goto (-132), 3) := by decide +kernel
theorem dX2_readAll_161 : decode cX2_readAll 161 = .ok (.bipush (-10), 2) := by decide +kernel
theorem dX2_readAll_163 : decode cX2_readAll 163 = .ok (.aload_n 0, 1) := by decide +kernel
theorem dX2_readAll_164 : decode cX2_readAll 164 = .ok (.getfield 12, 3) := by decide +kernel
theorem dX2_readAll_167 : decode cX2_readAll 167 = .ok (.getfield 61, 3) := by decide +kernel
theorem dX2_readAll_170 : decode cX2_readAll 170 = .ok (.isub, 1) := by decide +kernel
theorem dX2_readAll_171 : decode cX2_readAll 171 = .ok (.ireturn, 1) := by decide +kernel
theorem dX2_readPerson_0 : decode cX2_readPerson 0 = .ok (.aload_n 0, 1) := by decide +kernel
theorem dX2_readPerson_1 : decode cX2_readPerson 1 = .ok (.getfield 21, 3) := by decide +kernel
theorem dX2_readPerson_4 : decode cX2_readPerson 4 = .ok (.getfield 64, 3) := by decide +kernel
theorem dX2_readPerson_7 : decode cX2_readPerson 7 = .ok (.istore_n 1, 1) := by decide +kernel
theorem dX2_readPerson_8 : decode cX2_readPerson 8 = .ok (.iload_n 1, 1) := by decide +kernel
theorem dX2_readPerson_9 : decode cX2_readPerson 9 = .ok (.bipush 6, 2) := by decide +kernel
theorem dX2_readPerson_11 : decode cX2_readPerson 11 = .ok (.if_icmp .ge 13, 3) := by decide +kernel
theorem dX2_readPerson_14 : decode cX2_readPerson 14 = .ok (.aload_n 0, 1) := by decide +kernel
theorem dX2_readPerson_15 : decode cX2_readPerson 15 = .ok (.iconst 0, 1) := by decide +kernel
theorem dX2_readPerson_16 : decode cX2_readPerson 16 = .ok (.bipush 99, 2) := by decide +kernel
theorem dX2_readPerson_18 : decode cX2_readPerson 18 = .ok (.invokevirtual 67, 3) := by decide +kernel
theorem dX2_readPerson_21 : decode cX2_readPerson 21 = .ok (.ifCond .ne 5, 3) := by decide +kernel
theorem dX2_readPerson_24 : decode cX2_readPerson 24 = .ok (.iconst 0, 1) := by decide +kernel
theorem dX2_readPerson_25 : decode cX2_readPerson 25 = .ok (.ireturn, 1) := by decide +kernel
theorem dX2_readPerson_26 : decode cX2_readPerson 26 = .ok (.aload_n 0, 1) := by decide +kernel
theorem dX2_readPerson_27 : decode cX2_readPerson 27 = .ok (.getfield 21, 3) := by decide +kernel
theorem dX2_readPerson_30 : decode cX2_readPerson 30 = .ok (.getfield 71, 3) := by decide +kernel
theorem dX2_readPerson_33 : decode cX2_readPerson 33 = .ok (.iload_n 1, 1) := by decide +kernel
theorem dX2_readPerson_34 : decode cX2_readPerson 34 = .ok (.aload_n 0, 1) := by decide +kernel
theorem dX2_readPerson_35 : decode cX2_readPerson 35 = .ok (.getfield 12, 3) := by decide +kernel
theorem dX2_readPerson_38 : decode cX2_readPerson 38 = .ok (.getfield 75, 3) := by decide +kernel
theorem dX2_readPerson_41 : decode cX2_readPerson 41 = .ok (.iastore, 1) := by decide +kernel
theorem dX2_readPerson_42 : decode cX2_readPerson 42 = .ok (.aload_n 0, 1) := by decide +kernel
theorem dX2_readPerson_43 : decode cX2_readPerson 43 = .ok (.iconst 0, 1) := by decide +kernel
theorem dX2_readPerson_44 : decode cX2_readPerson 44 = .ok (.bipush 9, 2) := by decide +kernel
theorem dX2_readPerson_46 : decode cX2_readPerson 46 = .ok (.invokevirtual 67, 3) := by decide +kernel
theorem dX2_readPerson_49 : decode cX2_readPerson 49 = .ok (.ifCond .eq 26, 3) := by decide +kernel
theorem dX2_readPerson_52 : decode cX2_readPerson 52 = .ok (.aload_n 0, 1) := by decide +kernel
theorem dX2_readPerson_53 : decode cX2_readPerson 53 = .ok (.getfield 12, 3) := by decide +kernel
theorem dX2_readPerson_56 : decode cX2_readPerson 56 = .ok (.getfield 75, 3) := by decide +kernel
theorem dX2_readPerson_59 : decode cX2_readPerson 59 = .ok (.iload_n 1, 1) := by decide +kernel
theorem dX2_readPerson_60 : decode cX2_readPerson 60 = .ok (.if_icmp .lt 17, 3) := by decide +kernel
theorem dX2_readPerson_63 : decode cX2_readPerson 63 = .ok (.aload_n 0, 1) := by decide +kernel
theorem dX2_readPerson_64 : decode cX2_readPerson 64 = .ok (.getfield 12, 3) := by decide +kernel
theorem dX2_readPerson_67 : decode cX2_readPerson 67 = .ok (.getfield 75, 3) := by decide +kernel
theorem dX2_readPerson_70 : decode cX2_readPerson 70 = .ok (.bipush 9, 2) := by decide +kernel
theorem dX2_readPerson_72 : decode cX2_readPerson 72 = .ok (.if_icmp .eq 5, 3) := by decide +kernel
theorem dX2_readPerson_75 : decode cX2_readPerson 75 = .ok (.iconst 0, 1) := by decide +kernel
theorem dX2_readPerson_76 : decode cX2_readPerson 76 = .ok (.ireturn, 1) := by decide +kernel
theorem dX2_readPerson_77 : decode cX2_readPerson 77 = .ok (.aload_n 0, 1) := by decide +kernel
theorem dX2_readPerson_78 : decode cX2_readPerson 78 = .ok (.getfield 21, 3) := by decide +kernel
theorem dX2_readPerson_81 : decode cX2_readPerson 81 = .ok (.getfield 78, 3) := by decide +kernel
theorem dX2_readPerson_84 : decode cX2_readPerson 84 = .ok (.iload_n 1, 1) := by decide +kernel
theorem dX2_readPerson_85 : decode cX2_readPerson 85 = .ok (.aload_n 0, 1) := by decide +kernel
theorem dX2_readPerson_86 : decode cX2_readPerson 86 = .ok (.getfield 12, 3) := by decide +kernel
theorem dX2_readPerson_89 : decode cX2_readPerson 89 = .ok (.getfield 75, 3) := by decide +kernel
theorem dX2_readPerson_92 : decode cX2_readPerson 92 = .ok (.bipush 9, 2) := by decide +kernel
theorem dX2_readPerson_94 : decode cX2_readPerson 94 = .ok (.if_icmp .ne 8, 3) := by decide +kernel
theorem dX2_readPerson_97 : decode cX2_readPerson 97 = .ok (.bipush (-9), 2) := by decide +kernel
theorem dX2_readPerson_99 : decode cX2_readPerson 99 = .ok (.goto 10, 3) := by decide +kernel
theorem dX2_readPerson_102 : decode cX2_readPerson 102 = .ok (.aload_n 0, 1) := by decide +kernel
theorem dX2_readPerson_103 : decode cX2_readPerson 103 = .ok (.getfield 12, 3) := by decide +kernel
theorem dX2_readPerson_106 : decode cX2_readPerson 106 = .ok (.getfield 75, 3) := by decide +kernel
theorem dX2_readPerson_109 : decode cX2_readPerson 109 = .ok (.iastore, 1) := by decide +kernel
theorem dX2_readPerson_110 : decode cX2_readPerson 110 = .ok (.aload_n 0, 1) := by decide +kernel
theorem dX2_readPerson_111 : decode cX2_readPerson 111 = .ok (.getfield 21, 3) := by decide +kernel
theorem dX2_readPerson_114 : decode cX2_readPerson 114 = .ok (.dup, 1) := by decide +kernel
theorem dX2_readPerson_115 : decode cX2_readPerson 115 = .ok (.getfield 64, 3) := by decide +kernel
theorem dX2_readPerson_118 : decode cX2_readPerson 118 = .ok (.iconst 1, 1) := by decide +kernel
theorem dX2_readPerson_119 : decode cX2_readPerson 119 = .ok (.iadd, 1) := by decide +kernel
theorem dX2_readPerson_120 : decode cX2_readPerson 120 = .ok (.putfield 64, 3) := by decide +kernel
theorem dX2_readPerson_123 : decode cX2_readPerson 123 = .ok (.aload_n 0, 1) := by decide +kernel
theorem dX2_readPerson_124 : decode cX2_readPerson 124 = .ok (.invokevirtual 81, 3) := by decide +kernel
theorem dX2_readPerson_127 : decode cX2_readPerson 127 = .ok (.ireturn, 1) := by decide +kernel
theorem dX2_readPromise_0 : decode cX2_readPromise 0 = .ok (.aload_n 0, 1) := by decide +kernel
theorem dX2_readPromise_1 : decode cX2_readPromise 1 = .ok (.getfield 21, 3) := by decide +kernel
theorem dX2_readPromise_4 : decode cX2_readPromise 4 = .ok (.getfield 84, 3) := by decide +kernel
theorem dX2_readPromise_7 : decode cX2_readPromise 7 = .ok (.istore_n 1, 1) := by decide +kernel
theorem dX2_readPromise_8 : decode cX2_readPromise 8 = .ok (.iload_n 1, 1) := by decide +kernel
theorem dX2_readPromise_9 : decode cX2_readPromise 9 = .ok (.bipush 8, 2) := by decide +kernel
theorem dX2_readPromise_11 : decode cX2_readPromise 11 = .ok (.if_icmp .ge 20, 3) := by decide +kernel
theorem dX2_readPromise_14 : decode cX2_readPromise 14 = .ok (.aload_n 0, 1) := by decide +kernel
theorem dX2_readPromise_15 : decode cX2_readPromise 15 = .ok (.iconst 0, 1) := by decide +kernel
theorem dX2_readPromise_16 : decode cX2_readPromise 16 = .ok (.aload_n 0, 1) := by decide +kernel
theorem dX2_readPromise_17 : decode cX2_readPromise 17 = .ok (.getfield 21, 3) := by decide +kernel
theorem dX2_readPromise_20 : decode cX2_readPromise 20 = .ok (.getfield 64, 3) := by decide +kernel
theorem dX2_readPromise_23 : decode cX2_readPromise 23 = .ok (.iconst 1, 1) := by decide +kernel
theorem dX2_readPromise_24 : decode cX2_readPromise 24 = .ok (.isub, 1) := by decide +kernel
theorem dX2_readPromise_25 : decode cX2_readPromise 25 = .ok (.invokevirtual 67, 3) := by decide +kernel
theorem dX2_readPromise_28 : decode cX2_readPromise 28 = .ok (.ifCond .ne 5, 3) := by decide +kernel
theorem dX2_readPromise_31 : decode cX2_readPromise 31 = .ok (.iconst 0, 1) := by decide +kernel
theorem dX2_readPromise_32 : decode cX2_readPromise 32 = .ok (.ireturn, 1) := by decide +kernel
theorem dX2_readPromise_33 : decode cX2_readPromise 33 = .ok (.aload_n 0, 1) := by decide +kernel
theorem dX2_readPromise_34 : decode cX2_readPromise 34 = .ok (.getfield 21, 3) := by decide +kernel
theorem dX2_readPromise_37 : decode cX2_readPromise 37 = .ok (.getfield 87, 3) := by decide +kernel
theorem dX2_readPromise_40 : decode cX2_readPromise 40 = .ok (.iload_n 1, 1) := by decide +kernel
theorem dX2_readPromise_41 : decode cX2_readPromise 41 = .ok (.aload_n 0, 1) := by decide +kernel
theorem dX2_readPromise_42 : decode cX2_readPromise 42 = .ok (.getfield 12, 3) := by decide +kernel
theorem dX2_readPromise_45 : decode cX2_readPromise 45 = .ok (.getfield 75, 3) := by decide +kernel
theorem dX2_readPromise_48 : decode cX2_readPromise 48 = .ok (.iastore, 1) := by decide +kernel
theorem dX2_readPromise_49 : decode cX2_readPromise 49 = .ok (.aload_n 0, 1) := by decide +kernel
theorem dX2_readPromise_50 : decode cX2_readPromise 50 = .ok (.iconst 0, 1) := by decide +kernel
theorem dX2_readPromise_51 : decode cX2_readPromise 51 = .ok (.iconst 5, 1) := by decide +kernel
theorem dX2_readPromise_52 : decode cX2_readPromise 52 = .ok (.invokevirtual 67, 3) := by decide +kernel
theorem dX2_readPromise_55 : decode cX2_readPromise 55 = .ok (.ifCond .ne 5, 3) := by decide +kernel
theorem dX2_readPromise_58 : decode cX2_readPromise 58 = .ok (.iconst 0, 1) := by decide +kernel
theorem dX2_readPromise_59 : decode cX2_readPromise 59 = .ok (.ireturn, 1) := by decide +kernel
theorem dX2_readPromise_60 : decode cX2_readPromise 60 = .ok (.aload_n 0, 1) := by decide +kernel
theorem dX2_readPromise_61 : decode cX2_readPromise 61 = .ok (.getfield 21, 3) := by decide +kernel
theorem dX2_readPromise_64 : decode cX2_readPromise 64 = .ok (.getfield 90, 3) := by decide +kernel
theorem dX2_readPromise_67 : decode cX2_readPromise 67 = .ok (.iload_n 1, 1) := by decide +kernel
theorem dX2_readPromise_68 : decode cX2_readPromise 68 = .ok (.aload_n 0, 1) := by decide +kernel
theorem dX2_readPromise_69 : decode cX2_readPromise 69 = .ok (.getfield 12, 3) := by decide +kernel
theorem dX2_readPromise_72 : decode cX2_readPromise 72 = .ok (.getfield 75, 3) := by decide +kernel
theorem dX2_readPromise_75 : decode cX2_readPromise 75 = .ok (.iastore, 1) := by decide +kernel
theorem dX2_readPromise_76 : decode cX2_readPromise 76 = .ok (.aload_n 0, 1) := by decide +kernel
theorem dX2_readPromise_77 : decode cX2_readPromise 77 = .ok (.iconst 0, 1) := by decide +kernel
theorem dX2_readPromise_78 : decode cX2_readPromise 78 = .ok (.iconst 5, 1) := by decide +kernel
theorem dX2_readPromise_79 : decode cX2_readPromise 79 = .ok (.invokevirtual 67, 3) := by decide +kernel
theorem dX2_readPromise_82 : decode cX2_readPromise 82 = .ok (.ifCond .ne 5, 3) := by decide +kernel
theorem dX2_readPromise_85 : decode cX2_readPromise 85 = .ok (.iconst 0, 1) := by decide +kernel
theorem dX2_readPromise_86 : decode cX2_readPromise 86 = .ok (.ireturn, 1) := by decide +kernel
theorem dX2_readPromise_87 : decode cX2_readPromise 87 = .ok (.aload_n 0, 1) := by decide +kernel
theorem dX2_readPromise_88 : decode cX2_readPromise 88 = .ok (.getfield 21, 3) := by decide +kernel
theorem dX2_readPromise_91 : decode cX2_readPromise 91 = .ok (.getfield 93, 3) := by decide +kernel
theorem dX2_readPromise_94 : decode cX2_readPromise 94 = .ok (.iload_n 1, 1) := by decide +kernel
theorem dX2_readPromise_95 : decode cX2_readPromise 95 = .ok (.aload_n 0, 1) := by decide +kernel
theorem dX2_readPromise_96 : decode cX2_readPromise 96 = .ok (.getfield 12, 3) := by decide +kernel
theorem dX2_readPromise_99 : decode cX2_readPromise 99 = .ok (.getfield 75, 3) := by decide +kernel
theorem dX2_readPromise_102 : decode cX2_readPromise 102 = .ok (.iastore, 1) := by decide +kernel
theorem dX2_readPromise_103 : decode cX2_readPromise 103 = .ok (.aload_n 0, 1) := by decide +kernel
theorem dX2_readPromise_104 : decode cX2_readPromise 104 = .ok (.iconst 1, 1) := by decide +kernel
theorem dX2_readPromise_105 : decode cX2_readPromise 105 = .ok (.bipush 9, 2) := by decide +kernel
theorem dX2_readPromise_107 : decode cX2_readPromise 107 = .ok (.invokevirtual 67, 3) := by decide +kernel
theorem dX2_readPromise_110 : decode cX2_readPromise 110 = .ok (.ifCond .ne 5, 3) := by decide +kernel
theorem dX2_readPromise_113 : decode cX2_readPromise 113 = .ok (.iconst 0, 1) := by decide +kernel
theorem dX2_readPromise_114 : decode cX2_readPromise 114 = .ok (.ireturn, 1) := by decide +kernel
theorem dX2_readPromise_115 : decode cX2_readPromise 115 = .ok (.aload_n 0, 1) := by decide +kernel
theorem dX2_readPromise_116 : decode cX2_readPromise 116 = .ok (.getfield 21, 3) := by decide +kernel
theorem dX2_readPromise_119 : decode cX2_readPromise 119 = .ok (.getfield 96, 3) := by decide +kernel
theorem dX2_readPromise_122 : decode cX2_readPromise 122 = .ok (.iload_n 1, 1) := by decide +kernel
theorem dX2_readPromise_123 : decode cX2_readPromise 123 = .ok (.aload_n 0, 1) := by decide +kernel
theorem dX2_readPromise_124 : decode cX2_readPromise 124 = .ok (.getfield 12, 3) := by decide +kernel
theorem dX2_readPromise_127 : decode cX2_readPromise 127 = .ok (.getfield 75, 3) := by decide +kernel
theorem dX2_readPromise_130 : decode cX2_readPromise 130 = .ok (.iastore, 1) := by decide +kernel
theorem dX2_readPromise_131 : decode cX2_readPromise 131 = .ok (.aload_n 0, 1) := by decide +kernel
theorem dX2_readPromise_132 : decode cX2_readPromise 132 = .ok (.iconst 0, 1) := by decide +kernel
theorem dX2_readPromise_133 : decode cX2_readPromise 133 = .ok (.bipush 99, 2) := by decide +kernel
theorem dX2_readPromise_135 : decode cX2_readPromise 135 = .ok (.invokevirtual 67, 3) := by decide +kernel
theorem dX2_readPromise_138 : decode cX2_readPromise 138 = .ok (.ifCond .ne 5, 3) := by decide +kernel
theorem dX2_readPromise_141 : decode cX2_readPromise 141 = .ok (.iconst 0, 1) := by decide +kernel
theorem dX2_readPromise_142 : decode cX2_readPromise 142 = .ok (.ireturn, 1) := by decide +kernel
theorem dX2_readPromise_143 : decode cX2_readPromise 143 = .ok (.aload_n 0, 1) := by decide +kernel
theorem dX2_readPromise_144 : decode cX2_readPromise 144 = .ok (.getfield 21, 3) := by decide +kernel
theorem dX2_readPromise_147 : decode cX2_readPromise 147 = .ok (.getfield 99, 3) := by decide +kernel
theorem dX2_readPromise_150 : decode cX2_readPromise 150 = .ok (.iload_n 1, 1) := by decide +kernel
theorem dX2_readPromise_151 : decode cX2_readPromise 151 = .ok (.aload_n 0, 1) := by decide +kernel
theorem dX2_readPromise_152 : decode cX2_readPromise 152 = .ok (.getfield 12, 3) := by decide +kernel
theorem dX2_readPromise_155 : decode cX2_readPromise 155 = .ok (.getfield 75, 3) := by decide +kernel
theorem dX2_readPromise_158 : decode cX2_readPromise 158 = .ok (.iastore, 1) := by decide +kernel
theorem dX2_readPromise_159 : decode cX2_readPromise 159 = .ok (.aload_n 0, 1) := by decide +kernel
theorem dX2_readPromise_160 : decode cX2_readPromise 160 = .ok (.getfield 21, 3) := by decide +kernel
theorem dX2_readPromise_163 : decode cX2_readPromise 163 = .ok (.getfield 102, 3) := by decide +kernel
theorem dX2_readPromise_166 : decode cX2_readPromise 166 = .ok (.iload_n 1, 1) := by decide +kernel
theorem dX2_readPromise_167 : decode cX2_readPromise 167 = .ok (.iconst 0, 1) := by decide +kernel
theorem dX2_readPromise_168 : decode cX2_readPromise 168 = .ok (.iastore, 1) := by decide +kernel
theorem dX2_readPromise_169 : decode cX2_readPromise 169 = .ok (.aload_n 0, 1) := by decide +kernel
theorem dX2_readPromise_170 : decode cX2_readPromise 170 = .ok (.getfield 21, 3) := by decide +kernel
theorem dX2_readPromise_173 : decode cX2_readPromise 173 = .ok (.dup, 1) := by decide +kernel
theorem dX2_readPromise_174 : decode cX2_readPromise 174 = .ok (.getfield 84, 3) := by decide +kernel
theorem dX2_readPromise_177 : decode cX2_readPromise 177 = .ok (.iconst 1, 1) := by decide +kernel
theorem dX2_readPromise_178 : decode cX2_readPromise 178 = .ok (.iadd, 1) := by decide +kernel
theorem dX2_readPromise_179 : decode cX2_readPromise 179 = .ok (.putfield 84, 3) := by decide +kernel
theorem dX2_readPromise_182 : decode cX2_readPromise 182 = .ok (.aload_n 0, 1) := by decide +kernel
theorem dX2_readPromise_183 : decode cX2_readPromise 183 = .ok (.iload_n 1, 1) := by decide +kernel
theorem dX2_readPromise_184 : decode cX2_readPromise 184 = .ok (.invokevirtual 105, 3) := by decide +kernel
theorem dX2_readPromise_187 : decode cX2_readPromise 187 = .ok (.ireturn, 1) := by decide +kernel
theorem dX2_readWords_0 : decode cX2_readWords 0 = .ok (.iconst 0, 1) := by decide +kernel
theorem dX2_readWords_1 : decode cX2_readWords 1 = .ok (.istore_n 2, 1) := by decide +kernel
theorem dX2_readWords_2 : decode cX2_readWords 2 = .ok (.iload_n 2, 1) := by decide +kernel
theorem dX2_readWords_3 : decode cX2_readWords 3 = .ok (.iconst 4, 1) := by decide +kernel
theorem dX2_readWords_4 : decode cX2_readWords 4 = .ok (.if_icmp .gt 101, 3) := by decide +kernel
theorem dX2_readWords_7 : decode cX2_readWords 7 = .ok (.aload_n 0, 1) := by decide +kernel
theorem dX2_readWords_8 : decode cX2_readWords 8 = .ok (.getfield 12, 3) := by decide +kernel
theorem dX2_readWords_11 : decode cX2_readWords 11 = .ok (.invokevirtual 38, 3) := by decide +kernel
theorem dX2_readWords_14 : decode cX2_readWords 14 = .ok (.aload_n 0, 1) := by decide +kernel
theorem dX2_readWords_15 : decode cX2_readWords 15 = .ok (.getfield 12, 3) := by decide +kernel
theorem dX2_readWords_18 : decode cX2_readWords 18 = .ok (.getfield 41, 3) := by decide +kernel
theorem dX2_readWords_21 : decode cX2_readWords 21 = .ok (.bipush 59, 2) := by decide +kernel
theorem dX2_readWords_23 : decode cX2_readWords 23 = .ok (.if_icmp .ne 13, 3) := by decide +kernel
theorem dX2_readWords_26 : decode cX2_readWords 26 = .ok (.iload_n 2, 1) := by decide +kernel
theorem dX2_readWords_27 : decode cX2_readWords 27 = .ok (.ifCond .le 7, 3) := by decide +kernel
theorem dX2_readWords_30 : decode cX2_readWords 30 = .ok (.iconst 1, 1) := by decide +kernel
theorem dX2_readWords_31 : decode cX2_readWords 31 = .ok (.goto 4, 3) := by decide +kernel
theorem dX2_readWords_34 : decode cX2_readWords 34 = .ok (.iconst 0, 1) := by decide +kernel
theorem dX2_readWords_35 : decode cX2_readWords 35 = .ok (.ireturn, 1) := by decide +kernel
theorem dX2_readWords_36 : decode cX2_readWords 36 = .ok (.aload_n 0, 1) := by decide +kernel
theorem dX2_readWords_37 : decode cX2_readWords 37 = .ok (.getfield 12, 3) := by decide +kernel
theorem dX2_readWords_40 : decode cX2_readWords 40 = .ok (.getfield 41, 3) := by decide +kernel
theorem dX2_readWords_43 : decode cX2_readWords 43 = .ok (.bipush 48, 2) := by decide +kernel
theorem dX2_readWords_45 : decode cX2_readWords 45 = .ok (.if_icmp .ne 20, 3) := by decide +kernel
theorem dX2_readWords_48 : decode cX2_readWords 48 = .ok (.aload_n 0, 1) := by decide +kernel
theorem dX2_readWords_49 : decode cX2_readWords 49 = .ok (.getfield 12, 3) := by decide +kernel
theorem dX2_readWords_52 : decode cX2_readWords 52 = .ok (.getfield 75, 3) := by decide +kernel
theorem dX2_readWords_55 : decode cX2_readWords 55 = .ok (.bipush 9, 2) := by decide +kernel
theorem dX2_readWords_57 : decode cX2_readWords 57 = .ok (.if_icmp .gt 8, 3) := by decide +kernel
theorem dX2_readWords_60 : decode cX2_readWords 60 = .ok (.iload_n 2, 1) := by decide +kernel
theorem dX2_readWords_61 : decode cX2_readWords 61 = .ok (.iconst 4, 1) := by decide +kernel
theorem dX2_readWords_62 : decode cX2_readWords 62 = .ok (.if_icmp .ne 5, 3) := by decide +kernel
theorem dX2_readWords_65 : decode cX2_readWords 65 = .ok (.iconst 0, 1) := by decide +kernel
theorem dX2_readWords_66 : decode cX2_readWords 66 = .ok (.ireturn, 1) := by decide +kernel
theorem dX2_readWords_67 : decode cX2_readWords 67 = .ok (.aload_n 0, 1) := by decide +kernel
theorem dX2_readWords_68 : decode cX2_readWords 68 = .ok (.getfield 21, 3) := by decide +kernel
theorem dX2_readWords_71 : decode cX2_readWords 71 = .ok (.getfield 109, 3) := by decide +kernel
theorem dX2_readWords_74 : decode cX2_readWords 74 = .ok (.iload_n 1, 1) := by decide +kernel
theorem dX2_readWords_75 : decode cX2_readWords 75 = .ok (.iconst 4, 1) := by decide +kernel
theorem dX2_readWords_76 : decode cX2_readWords 76 = .ok (.imul, 1) := by decide +kernel
theorem dX2_readWords_77 : decode cX2_readWords 77 = .ok (.iload_n 2, 1) := by decide +kernel
theorem dX2_readWords_78 : decode cX2_readWords 78 = .ok (.iadd, 1) := by decide +kernel
theorem dX2_readWords_79 : decode cX2_readWords 79 = .ok (.aload_n 0, 1) := by decide +kernel
theorem dX2_readWords_80 : decode cX2_readWords 80 = .ok (.getfield 12, 3) := by decide +kernel
theorem dX2_readWords_83 : decode cX2_readWords 83 = .ok (.getfield 75, 3) := by decide +kernel
theorem dX2_readWords_86 : decode cX2_readWords 86 = .ok (.iastore, 1) := by decide +kernel
theorem dX2_readWords_87 : decode cX2_readWords 87 = .ok (.aload_n 0, 1) := by decide +kernel
theorem dX2_readWords_88 : decode cX2_readWords 88 = .ok (.getfield 21, 3) := by decide +kernel
theorem dX2_readWords_91 : decode cX2_readWords 91 = .ok (.getfield 112, 3) := by decide +kernel
theorem dX2_readWords_94 : decode cX2_readWords 94 = .ok (.iload_n 1, 1) := by decide +kernel
theorem dX2_readWords_95 : decode cX2_readWords 95 = .ok (.iload_n 2, 1) := by decide +kernel
theorem dX2_readWords_96 : decode cX2_readWords 96 = .ok (.iconst 1, 1) := by decide +kernel
theorem dX2_readWords_97 : decode cX2_readWords 97 = .ok (.iadd, 1) := by decide +kernel
theorem dX2_readWords_98 : decode cX2_readWords 98 = .ok (.iastore, 1) := by decide +kernel
theorem dX2_readWords_99 : decode cX2_readWords 99 = .ok (.iinc 2 1, 3) := by decide +kernel
theorem dX2_readWords_102 : decode cX2_readWords 102 = .ok (.goto (-100), 3) := by decide +kernel
theorem dX2_readWords_105 : decode cX2_readWords 105 = .ok (.iconst 0, 1) := by decide +kernel
theorem dX2_readWords_106 : decode cX2_readWords 106 = .ok (.ireturn, 1) := by decide +kernel
theorem dX2_readClash_0 : decode cX2_readClash 0 = .ok (.aload_n 0, 1) := by decide +kernel
theorem dX2_readClash_1 : decode cX2_readClash 1 = .ok (.iconst 0, 1) := by decide +kernel
theorem dX2_readClash_2 : decode cX2_readClash 2 = .ok (.aload_n 0, 1) := by decide +kernel
theorem dX2_readClash_3 : decode cX2_readClash 3 = .ok (.getfield 21, 3) := by decide +kernel
theorem dX2_readClash_6 : decode cX2_readClash 6 = .ok (.getfield 84, 3) := by decide +kernel
theorem dX2_readClash_9 : decode cX2_readClash 9 = .ok (.iconst 1, 1) := by decide +kernel
theorem dX2_readClash_10 : decode cX2_readClash 10 = .ok (.isub, 1) := by decide +kernel
theorem dX2_readClash_11 : decode cX2_readClash 11 = .ok (.invokevirtual 67, 3) := by decide +kernel
theorem dX2_readClash_14 : decode cX2_readClash 14 = .ok (.ifCond .ne 5, 3) := by decide +kernel
theorem dX2_readClash_17 : decode cX2_readClash 17 = .ok (.iconst 0, 1) := by decide +kernel
theorem dX2_readClash_18 : decode cX2_readClash 18 = .ok (.ireturn, 1) := by decide +kernel
theorem dX2_readClash_19 : decode cX2_readClash 19 = .ok (.aload_n 0, 1) := by decide +kernel
theorem dX2_readClash_20 : decode cX2_readClash 20 = .ok (.getfield 12, 3) := by decide +kernel
theorem dX2_readClash_23 : decode cX2_readClash 23 = .ok (.getfield 75, 3) := by decide +kernel
theorem dX2_readClash_26 : decode cX2_readClash 26 = .ok (.istore_n 1, 1) := by decide +kernel
theorem dX2_readClash_27 : decode cX2_readClash 27 = .ok (.aload_n 0, 1) := by decide +kernel
theorem dX2_readClash_28 : decode cX2_readClash 28 = .ok (.iconst 0, 1) := by decide +kernel
theorem dX2_readClash_29 : decode cX2_readClash 29 = .ok (.aload_n 0, 1) := by decide +kernel
theorem dX2_readClash_30 : decode cX2_readClash 30 = .ok (.getfield 21, 3) := by decide +kernel
theorem dX2_readClash_33 : decode cX2_readClash 33 = .ok (.getfield 84, 3) := by decide +kernel
theorem dX2_readClash_36 : decode cX2_readClash 36 = .ok (.iconst 1, 1) := by decide +kernel
theorem dX2_readClash_37 : decode cX2_readClash 37 = .ok (.isub, 1) := by decide +kernel
theorem dX2_readClash_38 : decode cX2_readClash 38 = .ok (.invokevirtual 67, 3) := by decide +kernel
theorem dX2_readClash_41 : decode cX2_readClash 41 = .ok (.ifCond .eq 14, 3) := by decide +kernel
theorem dX2_readClash_44 : decode cX2_readClash 44 = .ok (.aload_n 0, 1) := by decide +kernel
theorem dX2_readClash_45 : decode cX2_readClash 45 = .ok (.getfield 12, 3) := by decide +kernel
theorem dX2_readClash_48 : decode cX2_readClash 48 = .ok (.getfield 75, 3) := by decide +kernel
theorem dX2_readClash_51 : decode cX2_readClash 51 = .ok (.iload_n 1, 1) := by decide +kernel
theorem dX2_readClash_52 : decode cX2_readClash 52 = .ok (.if_icmp .ne 5, 3) := by decide +kernel
theorem dX2_readClash_55 : decode cX2_readClash 55 = .ok (.iconst 0, 1) := by decide +kernel
theorem dX2_readClash_56 : decode cX2_readClash 56 = .ok (.ireturn, 1) := by decide +kernel
theorem dX2_readClash_57 : decode cX2_readClash 57 = .ok (.aload_n 0, 1) := by decide +kernel
theorem dX2_readClash_58 : decode cX2_readClash 58 = .ok (.getfield 12, 3) := by decide +kernel
theorem dX2_readClash_61 : decode cX2_readClash 61 = .ok (.getfield 75, 3) := by decide +kernel
theorem dX2_readClash_64 : decode cX2_readClash 64 = .ok (.istore_n 2, 1) := by decide +kernel
theorem dX2_readClash_65 : decode cX2_readClash 65 = .ok (.aload_n 0, 1) := by decide +kernel
theorem dX2_readClash_66 : decode cX2_readClash 66 = .ok (.getfield 21, 3) := by decide +kernel
theorem dX2_readClash_69 : decode cX2_readClash 69 = .ok (.getfield 102, 3) := by decide +kernel
theorem dX2_readClash_72 : decode cX2_readClash 72 = .ok (.iload_n 1, 1) := by decide +kernel
theorem dX2_readClash_73 : decode cX2_readClash 73 = .ok (.dup2, 1) := by decide +kernel
theorem dX2_readClash_74 : decode cX2_readClash 74 = .ok (.iaload, 1) := by decide +kernel
theorem dX2_readClash_75 : decode cX2_readClash 75 = .ok (.iconst 1, 1) := by decide +kernel
theorem dX2_readClash_76 : decode cX2_readClash 76 = .ok (.iload_n 2, 1) := by decide +kernel
theorem dX2_readClash_77 : decode cX2_readClash 77 = .ok (.ishl, 1) := by decide +kernel
theorem dX2_readClash_78 : decode cX2_readClash 78 = .ok (.ior, 1) := by decide +kernel
theorem dX2_readClash_79 : decode cX2_readClash 79 = .ok (.iastore, 1) := by decide +kernel
theorem dX2_readClash_80 : decode cX2_readClash 80 = .ok (.aload_n 0, 1) := by decide +kernel
theorem dX2_readClash_81 : decode cX2_readClash 81 = .ok (.getfield 21, 3) := by decide +kernel
theorem dX2_readClash_84 : decode cX2_readClash 84 = .ok (.getfield 102, 3) := by decide +kernel
theorem dX2_readClash_87 : decode cX2_readClash 87 = .ok (.iload_n 2, 1) := by decide +kernel
theorem dX2_readClash_88 : decode cX2_readClash 88 = .ok (.dup2, 1) := by decide +kernel
theorem dX2_readClash_89 : decode cX2_readClash 89 = .ok (.iaload, 1) := by decide +kernel
theorem dX2_readClash_90 : decode cX2_readClash 90 = .ok (.iconst 1, 1) := by decide +kernel
theorem dX2_readClash_91 : decode cX2_readClash 91 = .ok (.iload_n 1, 1) := by decide +kernel
theorem dX2_readClash_92 : decode cX2_readClash 92 = .ok (.ishl, 1) := by decide +kernel
theorem dX2_readClash_93 : decode cX2_readClash 93 = .ok (.ior, 1) := by decide +kernel
theorem dX2_readClash_94 : decode cX2_readClash 94 = .ok (.iastore, 1) := by decide +kernel
theorem dX2_readClash_95 : decode cX2_readClash 95 = .ok (.aload_n 0, 1) := by decide +kernel
theorem dX2_readClash_96 : decode cX2_readClash 96 = .ok (.invokevirtual 81, 3) := by decide +kernel
theorem dX2_readClash_99 : decode cX2_readClash 99 = .ok (.ireturn, 1) := by decide +kernel
theorem dX2_readAcid_0 : decode cX2_readAcid 0 = .ok (.aload_n 0, 1) := by decide +kernel
theorem dX2_readAcid_1 : decode cX2_readAcid 1 = .ok (.getfield 25, 3) := by decide +kernel
theorem dX2_readAcid_4 : decode cX2_readAcid 4 = .ok (.ifCond .ne 13, 3) := by decide +kernel
theorem dX2_readAcid_7 : decode cX2_readAcid 7 = .ok (.aload_n 0, 1) := by decide +kernel
theorem dX2_readAcid_8 : decode cX2_readAcid 8 = .ok (.iconst 1, 1) := by decide +kernel
theorem dX2_readAcid_9 : decode cX2_readAcid 9 = .ok (.bipush 20, 2) := by decide +kernel
theorem dX2_readAcid_11 : decode cX2_readAcid 11 = .ok (.invokevirtual 67, 3) := by decide +kernel
theorem dX2_readAcid_14 : decode cX2_readAcid 14 = .ok (.ifCond .ne 5, 3) := by decide +kernel
theorem dX2_readAcid_17 : decode cX2_readAcid 17 = .ok (.iconst 0, 1) := by decide +kernel
theorem dX2_readAcid_18 : decode cX2_readAcid 18 = .ok (.ireturn, 1) := by decide +kernel
theorem dX2_readAcid_19 : decode cX2_readAcid 19 = .ok (.aload_n 0, 1) := by decide +kernel
theorem dX2_readAcid_20 : decode cX2_readAcid 20 = .ok (.iconst 1, 1) := by decide +kernel
theorem dX2_readAcid_21 : decode cX2_readAcid 21 = .ok (.putfield 25, 3) := by decide +kernel
theorem dX2_readAcid_24 : decode cX2_readAcid 24 = .ok (.aload_n 0, 1) := by decide +kernel
theorem dX2_readAcid_25 : decode cX2_readAcid 25 = .ok (.getfield 21, 3) := by decide +kernel
theorem dX2_readAcid_28 : decode cX2_readAcid 28 = .ok (.aload_n 0, 1) := by decide +kernel
theorem dX2_readAcid_29 : decode cX2_readAcid 29 = .ok (.getfield 12, 3) := by decide +kernel
theorem dX2_readAcid_32 : decode cX2_readAcid 32 = .ok (.getfield 75, 3) := by decide +kernel
theorem dX2_readAcid_35 : decode cX2_readAcid 35 = .ok (.putfield 115, 3) := by decide +kernel
theorem dX2_readAcid_38 : decode cX2_readAcid 38 = .ok (.aload_n 0, 1) := by decide +kernel
theorem dX2_readAcid_39 : decode cX2_readAcid 39 = .ok (.invokevirtual 81, 3) := by decide +kernel
theorem dX2_readAcid_42 : decode cX2_readAcid 42 = .ok (.ireturn, 1) := by decide +kernel
theorem dX2_readSlide_0 : decode cX2_readSlide 0 = .ok (.aload_n 0, 1) := by decide +kernel
theorem dX2_readSlide_1 : decode cX2_readSlide 1 = .ok (.getfield 29, 3) := by decide +kernel
theorem dX2_readSlide_4 : decode cX2_readSlide 4 = .ok (.ifCond .ne 13, 3) := by decide +kernel
theorem dX2_readSlide_7 : decode cX2_readSlide 7 = .ok (.aload_n 0, 1) := by decide +kernel
theorem dX2_readSlide_8 : decode cX2_readSlide 8 = .ok (.iconst 1, 1) := by decide +kernel
theorem dX2_readSlide_9 : decode cX2_readSlide 9 = .ok (.bipush 27, 2) := by decide +kernel
theorem dX2_readSlide_11 : decode cX2_readSlide 11 = .ok (.invokevirtual 67, 3) := by decide +kernel
theorem dX2_readSlide_14 : decode cX2_readSlide 14 = .ok (.ifCond .ne 5, 3) := by decide +kernel
theorem dX2_readSlide_17 : decode cX2_readSlide 17 = .ok (.iconst 0, 1) := by decide +kernel
theorem dX2_readSlide_18 : decode cX2_readSlide 18 = .ok (.ireturn, 1) := by decide +kernel
theorem dX2_readSlide_19 : decode cX2_readSlide 19 = .ok (.aload_n 0, 1) := by decide +kernel
theorem dX2_readSlide_20 : decode cX2_readSlide 20 = .ok (.iconst 1, 1) := by decide +kernel
theorem dX2_readSlide_21 : decode cX2_readSlide 21 = .ok (.putfield 29, 3) := by decide +kernel
theorem dX2_readSlide_24 : decode cX2_readSlide 24 = .ok (.aload_n 0, 1) := by decide +kernel
theorem dX2_readSlide_25 : decode cX2_readSlide 25 = .ok (.getfield 21, 3) := by decide +kernel
theorem dX2_readSlide_28 : decode cX2_readSlide 28 = .ok (.aload_n 0, 1) := by decide +kernel
theorem dX2_readSlide_29 : decode cX2_readSlide 29 = .ok (.getfield 12, 3) := by decide +kernel
theorem dX2_readSlide_32 : decode cX2_readSlide 32 = .ok (.getfield 75, 3) := by decide +kernel
theorem dX2_readSlide_35 : decode cX2_readSlide 35 = .ok (.putfield 118, 3) := by decide +kernel
theorem dX2_readSlide_38 : decode cX2_readSlide 38 = .ok (.aload_n 0, 1) := by decide +kernel
theorem dX2_readSlide_39 : decode cX2_readSlide 39 = .ok (.invokevirtual 81, 3) := by decide +kernel
theorem dX2_readSlide_42 : decode cX2_readSlide 42 = .ok (.ireturn, 1) := by decide +kernel
theorem dX2_readNumber_0 : decode cX2_readNumber 0 = .ok (.aload_n 0, 1) := by decide +kernel
theorem dX2_readNumber_1 : decode cX2_readNumber 1 = .ok (.getfield 12, 3) := by decide +kernel
theorem dX2_readNumber_4 : decode cX2_readNumber 4 = .ok (.invokevirtual 38, 3) := by decide +kernel
theorem dX2_readNumber_7 : decode cX2_readNumber 7 = .ok (.aload_n 0, 1) := by decide +kernel
theorem dX2_readNumber_8 : decode cX2_readNumber 8 = .ok (.getfield 12, 3) := by decide +kernel
theorem dX2_readNumber_11 : decode cX2_readNumber 11 = .ok (.getfield 41, 3) := by decide +kernel
theorem dX2_readNumber_14 : decode cX2_readNumber 14 = .ok (.bipush 48, 2) := by decide +kernel
theorem dX2_readNumber_16 : decode cX2_readNumber 16 = .ok (.if_icmp .ne 29, 3) := by decide +kernel
theorem dX2_readNumber_19 : decode cX2_readNumber 19 = .ok (.aload_n 0, 1) := by decide +kernel
theorem dX2_readNumber_20 : decode cX2_readNumber 20 = .ok (.getfield 12, 3) := by decide +kernel
theorem dX2_readNumber_23 : decode cX2_readNumber 23 = .ok (.getfield 75, 3) := by decide +kernel
theorem dX2_readNumber_26 : decode cX2_readNumber 26 = .ok (.iload_n 1, 1) := by decide +kernel
theorem dX2_readNumber_27 : decode cX2_readNumber 27 = .ok (.if_icmp .lt 18, 3) := by decide +kernel
theorem dX2_readNumber_30 : decode cX2_readNumber 30 = .ok (.aload_n 0, 1) := by decide +kernel
theorem dX2_readNumber_31 : decode cX2_readNumber 31 = .ok (.getfield 12, 3) := by decide +kernel
theorem dX2_readNumber_34 : decode cX2_readNumber 34 = .ok (.getfield 75, 3) := by decide +kernel
theorem dX2_readNumber_37 : decode cX2_readNumber 37 = .ok (.iload_n 2, 1) := by decide +kernel
theorem dX2_readNumber_38 : decode cX2_readNumber 38 = .ok (.if_icmp .gt 7, 3) := by decide +kernel
theorem dX2_readNumber_41 : decode cX2_readNumber 41 = .ok (.iconst 1, 1) := by decide +kernel
theorem dX2_readNumber_42 : decode cX2_readNumber 42 = .ok (.goto 4, 3) := by decide +kernel
theorem dX2_readNumber_45 : decode cX2_readNumber 45 = .ok (.iconst 0, 1) := by decide +kernel
theorem dX2_readNumber_46 : decode cX2_readNumber 46 = .ok (.ireturn, 1) := by decide +kernel
theorem dX2_readEnd_0 : decode cX2_readEnd 0 = .ok (.aload_n 0, 1) := by decide +kernel
theorem dX2_readEnd_1 : decode cX2_readEnd 1 = .ok (.getfield 12, 3) := by decide +kernel
theorem dX2_readEnd_4 : decode cX2_readEnd 4 = .ok (.invokevirtual 38, 3) := by decide +kernel
theorem dX2_readEnd_7 : decode cX2_readEnd 7 = .ok (.aload_n 0, 1) := by decide +kernel
theorem dX2_readEnd_8 : decode cX2_readEnd 8 = .ok (.getfield 12, 3) := by decide +kernel
theorem dX2_readEnd_11 : decode cX2_readEnd 11 = .ok (.getfield 41, 3) := by decide +kernel
theorem dX2_readEnd_14 : decode cX2_readEnd 14 = .ok (.bipush 59, 2) := by decide +kernel
theorem dX2_readEnd_16 : decode cX2_readEnd 16 = .ok (.if_icmp .ne 7, 3) := by decide +kernel
theorem dX2_readEnd_19 : decode cX2_readEnd 19 = .ok (.iconst 1, 1) := by decide +kernel
theorem dX2_readEnd_20 : decode cX2_readEnd 20 = .ok (.goto 4, 3) := by decide +kernel
theorem dX2_readEnd_23 : decode cX2_readEnd 23 = .ok (.iconst 0, 1) := by decide +kernel
theorem dX2_readEnd_24 : decode cX2_readEnd 24 = .ok (.ireturn, 1) := by decide +kernel
theorem dX3_init_0 : decode cX3_init 0 = .ok (.aload_n 0, 1) := by decide +kernel
theorem dX3_init_1 : decode cX3_init 1 = .ok (.invokespecial 3, 3) := by decide +kernel
theorem dX3_init_4 : decode cX3_init 4 = .ok (.aload_n 0, 1) := by decide +kernel
theorem dX3_init_5 : decode cX3_init 5 = .ok (.sipush 200, 3) := by decide +kernel
theorem dX3_init_8 : decode cX3_init 8 = .ok (.newarray .int, 2) := by decide +kernel
theorem dX3_init_10 : decode cX3_init 10 = .ok (.putfield 9, 3) := by decide +kernel
theorem dX3_init_13 : decode cX3_init 13 = .ok (.aload_n 0, 1) := by decide +kernel
theorem dX3_init_14 : decode cX3_init 14 = .ok (.iconst 0, 1) := by decide +kernel
theorem dX3_init_15 : decode cX3_init 15 = .ok (.putfield 15, 3) := by decide +kernel
theorem dX3_init_18 : decode cX3_init 18 = .ok (.aload_n 0, 1) := by decide +kernel
theorem dX3_init_19 : decode cX3_init 19 = .ok (.iconst (-1), 1) := by decide +kernel
theorem dX3_init_20 : decode cX3_init 20 = .ok (.putfield 19, 3) := by decide +kernel
theorem dX3_init_23 : decode cX3_init 23 = .ok (.aload_n 0, 1) := by decide +kernel
theorem dX3_init_24 : decode cX3_init 24 = .ok (.iconst 0, 1) := by decide +kernel
theorem dX3_init_25 : decode cX3_init 25 = .ok (.putfield 22, 3) := by decide +kernel
theorem dX3_init_28 : decode cX3_init 28 = .ok (.aload_n 0, 1) := by decide +kernel
theorem dX3_init_29 : decode cX3_init 29 = .ok (.iconst 0, 1) := by decide +kernel
theorem dX3_init_30 : decode cX3_init 30 = .ok (.putfield 25, 3) := by decide +kernel
theorem dX3_init_33 : decode cX3_init 33 = .ok (.aload_n 0, 1) := by decide +kernel
theorem dX3_init_34 : decode cX3_init 34 = .ok (.iconst 0, 1) := by decide +kernel
theorem dX3_init_35 : decode cX3_init 35 = .ok (.putfield 28, 3) := by decide +kernel
theorem dX3_init_38 : decode cX3_init 38 = .ok (.return_, 1) := by decide +kernel
theorem dX3_add_0 : decode cX3_add 0 = .ok (.aload_n 0, 1) := by decide +kernel
theorem dX3_add_1 : decode cX3_add 1 = .ok (.getfield 15, 3) := by decide +kernel
theorem dX3_add_4 : decode cX3_add 4 = .ok (.ifCond .lt 13, 3) := by decide +kernel
theorem dX3_add_7 : decode cX3_add 7 = .ok (.aload_n 0, 1) := by decide +kernel
theorem dX3_add_8 : decode cX3_add 8 = .ok (.getfield 15, 3) := by decide +kernel
theorem dX3_add_11 : decode cX3_add 11 = .ok (.sipush 200, 3) := by decide +kernel
theorem dX3_add_14 : decode cX3_add 14 = .ok (.if_icmp .lt 5, 3) := by decide +kernel
theorem dX3_add_17 : decode cX3_add 17 = .ok (.iconst 0, 1) := by decide +kernel
theorem dX3_add_18 : decode cX3_add 18 = .ok (.ireturn, 1) := by decide +kernel
theorem dX3_add_19 : decode cX3_add 19 = .ok (.aload_n 0, 1) := by decide +kernel
theorem dX3_add_20 : decode cX3_add 20 = .ok (.getfield 9, 3) := by decide +kernel
theorem dX3_add_23 : decode cX3_add 23 = .ok (.aload_n 0, 1) := by decide +kernel
theorem dX3_add_24 : decode cX3_add 24 = .ok (.getfield 15, 3) := by decide +kernel
theorem dX3_add_27 : decode cX3_add 27 = .ok (.iload_n 1, 1) := by decide +kernel
theorem dX3_add_28 : decode cX3_add 28 = .ok (.iastore, 1) := by decide +kernel
theorem dX3_add_29 : decode cX3_add 29 = .ok (.aload_n 0, 1) := by decide +kernel
theorem dX3_add_30 : decode cX3_add 30 = .ok (.dup, 1) := by decide +kernel
theorem dX3_add_31 : decode cX3_add 31 = .ok (.getfield 15, 3) := by decide +kernel
theorem dX3_add_34 : decode cX3_add 34 = .ok (.iconst 1, 1) := by decide +kernel
theorem dX3_add_35 : decode cX3_add 35 = .ok (.iadd, 1) := by decide +kernel
theorem dX3_add_36 : decode cX3_add 36 = .ok (.putfield 15, 3) := by decide +kernel
theorem dX3_add_39 : decode cX3_add 39 = .ok (.iconst 1, 1) := by decide +kernel
theorem dX3_add_40 : decode cX3_add 40 = .ok (.ireturn, 1) := by decide +kernel
theorem dX3_toFront_0 : decode cX3_toFront 0 = .ok (.aload_n 0, 1) := by decide +kernel
theorem dX3_toFront_1 : decode cX3_toFront 1 = .ok (.iconst 0, 1) := by decide +kernel
theorem dX3_toFront_2 : decode cX3_toFront 2 = .ok (.putfield 25, 3) := by decide +kernel
theorem dX3_toFront_5 : decode cX3_toFront 5 = .ok (.return_, 1) := by decide +kernel
theorem dX3_readToken_0 : decode cX3_readToken 0 = .ok (.aload_n 0, 1) := by decide +kernel
theorem dX3_readToken_1 : decode cX3_readToken 1 = .ok (.aload_n 0, 1) := by decide +kernel
theorem dX3_readToken_2 : decode cX3_readToken 2 = .ok (.getfield 25, 3) := by decide +kernel
theorem dX3_readToken_5 : decode cX3_readToken 5 = .ok (.putfield 22, 3) := by decide +kernel
theorem dX3_readToken_8 : decode cX3_readToken 8 = .ok (.aload_n 0, 1) := by decide +kernel
theorem dX3_readToken_9 : decode cX3_readToken 9 = .ok (.getfield 22, 3) := by decide +kernel
theorem dX3_readToken_12 : decode cX3_readToken 12 = .ok (.aload_n 0, 1) := by decide +kernel
theorem dX3_readToken_13 : decode cX3_readToken 13 = .ok (.getfield 15, 3) := by decide +kernel
theorem dX3_readToken_16 : decode cX3_readToken 16 = .ok (.if_icmp .ge 29, 3) := by decide +kernel
theorem dX3_readToken_19 : decode cX3_readToken 19 = .ok (.aload_n 0, 1) := by decide +kernel
theorem dX3_readToken_20 : decode cX3_readToken 20 = .ok (.aload_n 0, 1) := by decide +kernel
theorem dX3_readToken_21 : decode cX3_readToken 21 = .ok (.getfield 22, 3) := by decide +kernel
theorem dX3_readToken_24 : decode cX3_readToken 24 = .ok (.invokevirtual 31, 3) := by decide +kernel
theorem dX3_readToken_27 : decode cX3_readToken 27 = .ok (.bipush 32, 2) := by decide +kernel
theorem dX3_readToken_29 : decode cX3_readToken 29 = .ok (.if_icmp .ne 16, 3) := by decide +kernel
theorem dX3_readToken_32 : decode cX3_readToken 32 = .ok (.aload_n 0, 1) := by decide +kernel
theorem dX3_readToken_33 : decode cX3_readToken 33 = .ok (.dup, 1) := by decide +kernel
theorem dX3_readToken_34 : decode cX3_readToken 34 = .ok (.getfield 22, 3) := by decide +kernel
theorem dX3_readToken_37 : decode cX3_readToken 37 = .ok (.iconst 1, 1) := by decide +kernel
theorem dX3_readToken_38 : decode cX3_readToken 38 = .ok (.iadd, 1) := by decide +kernel
theorem dX3_readToken_39 : decode cX3_readToken 39 = .ok (.putfield 22, 3) := by decide +kernel
theorem dX3_readToken_42 : decode cX3_readToken 42 = .ok (.goto (-34), 3) := by decide +kernel
theorem dX3_readToken_45 : decode cX3_readToken 45 = .ok (.aload_n 0, 1) := by decide +kernel
theorem dX3_readToken_46 : decode cX3_readToken 46 = .ok (.aload_n 0, 1) := by decide +kernel
theorem dX3_readToken_47 : decode cX3_readToken 47 = .ok (.getfield 22, 3) := by decide +kernel
theorem dX3_readToken_50 : decode cX3_readToken 50 = .ok (.iconst 1, 1) := by decide +kernel
theorem dX3_readToken_51 : decode cX3_readToken 51 = .ok (.iadd, 1) := by decide +kernel
theorem dX3_readToken_52 : decode cX3_readToken 52 = .ok (.aload_n 0, 1) := by decide +kernel
theorem dX3_readToken_53 : decode cX3_readToken 53 = .ok (.getfield 15, 3) := by decide +kernel
theorem dX3_readToken_56 : decode cX3_readToken 56 = .ok (.invokestatic 35, 3) := by decide +kernel
theorem dX3_readToken_59 : decode cX3_readToken 59 = .ok (.putfield 25, 3) := by decide +kernel
theorem dX3_readToken_62 : decode cX3_readToken 62 = .ok (.aload_n 0, 1) := by decide +kernel
theorem dX3_readToken_63 : decode cX3_readToken 63 = .ok (.aload_n 0, 1) := by decide +kernel
theorem dX3_readToken_64 : decode cX3_readToken 64 = .ok (.getfield 22, 3) := by decide +kernel
theorem dX3_readToken_67 : decode cX3_readToken 67 = .ok (.invokevirtual 31, 3) := by decide +kernel
theorem dX3_readToken_70 : decode cX3_readToken 70 = .ok (.istore_n 1, 1) := by decide +kernel
theorem dX3_readToken_71 : decode cX3_readToken 71 = .ok (.iload_n 1, 1) := by decide +kernel
theorem dX3_readToken_72 : decode cX3_readToken 72 = .ok (.lookupswitch 76 #[(-1, 68), (59, 68), (97, 68), (109, 68), (112, 68), (115, 68), (120, 68)], 68) := by decide +kernel
theorem dX3_readToken_140 : decode cX3_readToken 140 = .ok (.aload_n 0, 1) := by decide +kernel
theorem dX3_readToken_141 : decode cX3_readToken 141 = .ok (.iload_n 1, 1) := by decide +kernel
theorem dX3_readToken_142 : decode cX3_readToken 142 = .ok (.putfield 19, 3) := by decide +kernel
theorem dX3_readToken_145 : decode cX3_readToken 145 = .ok (.goto 20, 3) := by decide +kernel
theorem dX3_readToken_148 : decode cX3_readToken 148 = .ok (.aload_n 0, 1) := by decide +kernel
theorem dX3_readToken_149 : decode cX3_readToken 149 = .ok (.bipush (-2), 2) := by decide +kernel
theorem dX3_readToken_151 : decode cX3_readToken 151 = .ok (.putfield 19, 3) := by decide +kernel
theorem dX3_readToken_154 : decode cX3_readToken 154 = .ok (.iload_n 1, 1) := by decide +kernel
theorem dX3_readToken_155 : decode cX3_readToken 155 = .ok (.invokestatic 41, 3) := by decide +kernel
theorem dX3_readToken_158 : decode cX3_readToken 158 = .ok (.ifCond .eq 7, 3) := by decide +kernel
theorem dX3_readToken_161 : decode cX3_readToken 161 = .ok (.aload_n 0, 1) := by decide +kernel
theorem dX3_readToken_162 : decode cX3_readToken 162 = .ok (.invokevirtual 45, 3) := by decide +kernel
theorem dX3_readToken_165 : decode cX3_readToken 165 = .ok (.return_, 1) := by decide +kernel
theorem dX3_readDigits_0 : decode cX3_readDigits 0 = .ok (.aload_n 0, 1) := by decide +kernel
theorem dX3_readDigits_1 : decode cX3_readDigits 1 = .ok (.iconst 0, 1) := by decide +kernel
theorem dX3_readDigits_2 : decode cX3_readDigits 2 = .ok (.putfield 28, 3) := by decide +kernel
theorem dX3_readDigits_5 : decode cX3_readDigits 5 = .ok (.aload_n 0, 1) := by decide +kernel
theorem dX3_readDigits_6 : decode cX3_readDigits 6 = .ok (.aload_n 0, 1) := by decide +kernel
theorem dX3_readDigits_7 : decode cX3_readDigits 7 = .ok (.getfield 22, 3) := by decide +kernel
theorem dX3_readDigits_10 : decode cX3_readDigits 10 = .ok (.putfield 25, 3) := by decide +kernel
theorem dX3_readDigits_13 : decode cX3_readDigits 13 = .ok (.aload_n 0, 1) := by decide +kernel
theorem dX3_readDigits_14 : decode cX3_readDigits 14 = .ok (.getfield 25, 3) := by decide +kernel
theorem dX3_readDigits_17 : decode cX3_readDigits 17 = .ok (.aload_n 0, 1) := by decide +kernel
theorem dX3_readDigits_18 : decode cX3_readDigits 18 = .ok (.getfield 15, 3) := by decide +kernel
theorem dX3_readDigits_21 : decode cX3_readDigits 21 = .ok (.if_icmp .ge 58, 3) := by decide +kernel
theorem dX3_readDigits_24 : decode cX3_readDigits 24 = .ok (.aload_n 0, 1) := by decide +kernel
theorem dX3_readDigits_25 : decode cX3_readDigits 25 = .ok (.aload_n 0, 1) := by decide +kernel
theorem dX3_readDigits_26 : decode cX3_readDigits 26 = .ok (.getfield 25, 3) := by decide +kernel
theorem dX3_readDigits_29 : decode cX3_readDigits 29 = .ok (.invokevirtual 31, 3) := by decide +kernel
theorem dX3_readDigits_32 : decode cX3_readDigits 32 = .ok (.invokestatic 41, 3) := by decide +kernel
theorem dX3_readDigits_35 : decode cX3_readDigits 35 = .ok (.ifCond .eq 44, 3) := by decide +kernel
theorem dX3_readDigits_38 : decode cX3_readDigits 38 = .ok (.aload_n 0, 1) := by decide +kernel
theorem dX3_readDigits_39 : decode cX3_readDigits 39 = .ok (.bipush 100, 2) := by decide +kernel
theorem dX3_readDigits_41 : decode cX3_readDigits 41 = .ok (.aload_n 0, 1) := by decide +kernel
theorem dX3_readDigits_42 : decode cX3_readDigits 42 = .ok (.getfield 28, 3) := by decide +kernel
theorem dX3_readDigits_45 : decode cX3_readDigits 45 = .ok (.bipush 10, 2) := by decide +kernel
theorem dX3_readDigits_47 : decode cX3_readDigits 47 = .ok (.imul, 1) := by decide +kernel
theorem dX3_readDigits_48 : decode cX3_readDigits 48 = .ok (.aload_n 0, 1) := by decide +kernel
theorem dX3_readDigits_49 : decode cX3_readDigits 49 = .ok (.aload_n 0, 1) := by decide +kernel
theorem dX3_readDigits_50 : decode cX3_readDigits 50 = .ok (.getfield 25, 3) := by decide +kernel
theorem dX3_readDigits_53 : decode cX3_readDigits 53 = .ok (.invokevirtual 31, 3) := by decide +kernel
theorem dX3_readDigits_56 : decode cX3_readDigits 56 = .ok (.iadd, 1) := by decide +kernel
theorem dX3_readDigits_57 : decode cX3_readDigits 57 = .ok (.bipush 48, 2) := by decide +kernel
theorem dX3_readDigits_59 : decode cX3_readDigits 59 = .ok (.isub, 1) := by decide +kernel
theorem dX3_readDigits_60 : decode cX3_readDigits 60 = .ok (.invokestatic 35, 3) := by decide +kernel
theorem dX3_readDigits_63 : decode cX3_readDigits 63 = .ok (.putfield 28, 3) := by decide +kernel
theorem dX3_readDigits_66 : decode cX3_readDigits 66 = .ok (.aload_n 0, 1) := by decide +kernel
theorem dX3_readDigits_67 : decode cX3_readDigits 67 = .ok (.dup, 1) := by decide +kernel
theorem dX3_readDigits_68 : decode cX3_readDigits 68 = .ok (.getfield 25, 3) := by decide +kernel
theorem dX3_readDigits_71 : decode cX3_readDigits 71 = .ok (.iconst 1, 1) := by decide +kernel
theorem dX3_readDigits_72 : decode cX3_readDigits 72 = .ok (.iadd, 1) := by decide +kernel
theorem dX3_readDigits_73 : decode cX3_readDigits 73 = .ok (.putfield 25, 3) := by decide +kernel
theorem dX3_readDigits_76 : decode cX3_readDigits 76 = .ok (.goto (-63), 3) := by decide +kernel
theorem dX3_readDigits_79 : decode cX3_readDigits 79 = .ok (.aload_n 0, 1) := by decide +kernel
theorem dX3_readDigits_80 : decode cX3_readDigits 80 = .ok (.aload_n 0, 1) := by decide +kernel
theorem dX3_readDigits_81 : decode cX3_readDigits 81 = .ok (.getfield 22, 3) := by decide +kernel
theorem dX3_readDigits_84 : decode cX3_readDigits 84 = .ok (.invokevirtual 31, 3) := by decide +kernel
theorem dX3_readDigits_87 : decode cX3_readDigits 87 = .ok (.bipush 48, 2) := by decide +kernel
theorem dX3_readDigits_89 : decode cX3_readDigits 89 = .ok (.if_icmp .ne 20, 3) := by decide +kernel
theorem dX3_readDigits_92 : decode cX3_readDigits 92 = .ok (.aload_n 0, 1) := by decide +kernel
theorem dX3_readDigits_93 : decode cX3_readDigits 93 = .ok (.getfield 25, 3) := by decide +kernel
theorem dX3_readDigits_96 : decode cX3_readDigits 96 = .ok (.aload_n 0, 1) := by decide +kernel
theorem dX3_readDigits_97 : decode cX3_readDigits 97 = .ok (.getfield 22, 3) := by decide +kernel
theorem dX3_readDigits_100 : decode cX3_readDigits 100 = .ok (.iconst 1, 1) := by decide +kernel
theorem dX3_readDigits_101 : decode cX3_readDigits 101 = .ok (.iadd, 1) := by decide +kernel
theorem dX3_readDigits_102 : decode cX3_readDigits 102 = .ok (.if_icmp .le 7, 3) := by decide +kernel
theorem dX3_readDigits_105 : decode cX3_readDigits 105 = .ok (.iconst 1, 1) := by decide +kernel
theorem dX3_readDigits_106 : decode cX3_readDigits 106 = .ok (.goto 4, 3) := by decide +kernel
theorem dX3_readDigits_109 : decode cX3_readDigits 109 = .ok (.iconst 0, 1) := by decide +kernel
theorem dX3_readDigits_110 : decode cX3_readDigits 110 = .ok (.istore_n 1, 1) := by decide +kernel
theorem dX3_readDigits_111 : decode cX3_readDigits 111 = .ok (.aload_n 0, 1) := by decide +kernel
theorem dX3_readDigits_112 : decode cX3_readDigits 112 = .ok (.iload_n 1, 1) := by decide +kernel
theorem dX3_readDigits_113 : decode cX3_readDigits 113 = .ok (.ifCond .ne 12, 3) := by decide +kernel
theorem dX3_readDigits_116 : decode cX3_readDigits 116 = .ok (.aload_n 0, 1) := by decide +kernel
theorem dX3_readDigits_117 : decode cX3_readDigits 117 = .ok (.getfield 28, 3) := by decide +kernel
theorem dX3_readDigits_120 : decode cX3_readDigits 120 = .ok (.bipush 100, 2) := by decide +kernel
theorem dX3_readDigits_122 : decode cX3_readDigits 122 = .ok (.if_icmp .ne 8, 3) := by decide +kernel
theorem dX3_readDigits_125 : decode cX3_readDigits 125 = .ok (.bipush (-2), 2) := by decide +kernel
theorem dX3_readDigits_127 : decode cX3_readDigits 127 = .ok (.goto 5, 3) := by decide +kernel
theorem dX3_readDigits_130 : decode cX3_readDigits 130 = .ok (.bipush 48, 2) := by decide +kernel
theorem dX3_readDigits_132 : decode cX3_readDigits 132 = .ok (.putfield 19, 3) := by decide +kernel
theorem dX3_readDigits_135 : decode cX3_readDigits 135 = .ok (.return_, 1) := by decide +kernel
theorem dX3_letterAt_0 : decode cX3_letterAt 0 = .ok (.iload_n 1, 1) := by decide +kernel
theorem dX3_letterAt_1 : decode cX3_letterAt 1 = .ok (.ifCond .lt 27, 3) := by decide +kernel
theorem dX3_letterAt_4 : decode cX3_letterAt 4 = .ok (.iload_n 1, 1) := by decide +kernel
theorem dX3_letterAt_5 : decode cX3_letterAt 5 = .ok (.aload_n 0, 1) := by decide +kernel
theorem dX3_letterAt_6 : decode cX3_letterAt 6 = .ok (.getfield 15, 3) := by decide +kernel
theorem dX3_letterAt_9 : decode cX3_letterAt 9 = .ok (.if_icmp .ge 19, 3) := by decide +kernel
theorem dX3_letterAt_12 : decode cX3_letterAt 12 = .ok (.iload_n 1, 1) := by decide +kernel
theorem dX3_letterAt_13 : decode cX3_letterAt 13 = .ok (.sipush 200, 3) := by decide +kernel
theorem dX3_letterAt_16 : decode cX3_letterAt 16 = .ok (.if_icmp .ge 12, 3) := by decide +kernel
theorem dX3_letterAt_19 : decode cX3_letterAt 19 = .ok (.aload_n 0, 1) := by decide +kernel
theorem dX3_letterAt_20 : decode cX3_letterAt 20 = .ok (.getfield 9, 3) := by decide +kernel
theorem dX3_letterAt_23 : decode cX3_letterAt 23 = .ok (.iload_n 1, 1) := by decide +kernel
theorem dX3_letterAt_24 : decode cX3_letterAt 24 = .ok (.iaload, 1) := by decide +kernel
theorem dX3_letterAt_25 : decode cX3_letterAt 25 = .ok (.goto 4, 3) := by decide +kernel
theorem dX3_letterAt_28 : decode cX3_letterAt 28 = .ok (.iconst (-1), 1) := by decide +kernel
theorem dX3_letterAt_29 : decode cX3_letterAt 29 = .ok (.ireturn, 1) := by decide +kernel
theorem dX3_isDigit_0 : decode cX3_isDigit 0 = .ok (.iload_n 0, 1) := by decide +kernel
theorem dX3_isDigit_1 : decode cX3_isDigit 1 = .ok (.bipush 48, 2) := by decide +kernel
theorem dX3_isDigit_3 : decode cX3_isDigit 3 = .ok (.if_icmp .lt 13, 3) := by decide +kernel
theorem dX3_isDigit_6 : decode cX3_isDigit 6 = .ok (.iload_n 0, 1) := by decide +kernel
theorem dX3_isDigit_7 : decode cX3_isDigit 7 = .ok (.bipush 57, 2) := by decide +kernel
theorem dX3_isDigit_9 : decode cX3_isDigit 9 = .ok (.if_icmp .gt 7, 3) := by decide +kernel
theorem dX3_isDigit_12 : decode cX3_isDigit 12 = .ok (.iconst 1, 1) := by decide +kernel
theorem dX3_isDigit_13 : decode cX3_isDigit 13 = .ok (.goto 4, 3) := by decide +kernel
theorem dX3_isDigit_16 : decode cX3_isDigit 16 = .ok (.iconst 0, 1) := by decide +kernel
theorem dX3_isDigit_17 : decode cX3_isDigit 17 = .ok (.ireturn, 1) := by decide +kernel
theorem dX4_init_0 : decode cX4_init 0 = .ok (.aload_n 0, 1) := by decide +kernel
theorem dX4_init_1 : decode cX4_init 1 = .ok (.invokespecial 3, 3) := by decide +kernel
theorem dX4_init_4 : decode cX4_init 4 = .ok (.aload_n 0, 1) := by decide +kernel
theorem dX4_init_5 : decode cX4_init 5 = .ok (.bipush 6, 2) := by decide +kernel
theorem dX4_init_7 : decode cX4_init 7 = .ok (.newarray .int, 2) := by decide +kernel
theorem dX4_init_9 : decode cX4_init 9 = .ok (.putfield 9, 3) := by decide +kernel
theorem dX4_init_12 : decode cX4_init 12 = .ok (.aload_n 0, 1) := by decide +kernel
theorem dX4_init_13 : decode cX4_init 13 = .ok (.bipush 6, 2) := by decide +kernel
theorem dX4_init_15 : decode cX4_init 15 = .ok (.newarray .int, 2) := by decide +kernel
theorem dX4_init_17 : decode cX4_init 17 = .ok (.putfield 15, 3) := by decide +kernel
theorem dX4_init_20 : decode cX4_init 20 = .ok (.aload_n 0, 1) := by decide +kernel
theorem dX4_init_21 : decode cX4_init 21 = .ok (.bipush 8, 2) := by decide +kernel
theorem dX4_init_23 : decode cX4_init 23 = .ok (.newarray .int, 2) := by decide +kernel
theorem dX4_init_25 : decode cX4_init 25 = .ok (.putfield 18, 3) := by decide +kernel
theorem dX4_init_28 : decode cX4_init 28 = .ok (.aload_n 0, 1) := by decide +kernel
theorem dX4_init_29 : decode cX4_init 29 = .ok (.bipush 8, 2) := by decide +kernel
theorem dX4_init_31 : decode cX4_init 31 = .ok (.newarray .int, 2) := by decide +kernel
theorem dX4_init_33 : decode cX4_init 33 = .ok (.putfield 21, 3) := by decide +kernel
theorem dX4_init_36 : decode cX4_init 36 = .ok (.aload_n 0, 1) := by decide +kernel
theorem dX4_init_37 : decode cX4_init 37 = .ok (.bipush 8, 2) := by decide +kernel
theorem dX4_init_39 : decode cX4_init 39 = .ok (.newarray .int, 2) := by decide +kernel
theorem dX4_init_41 : decode cX4_init 41 = .ok (.putfield 24, 3) := by decide +kernel
theorem dX4_init_44 : decode cX4_init 44 = .ok (.aload_n 0, 1) := by decide +kernel
theorem dX4_init_45 : decode cX4_init 45 = .ok (.bipush 8, 2) := by decide +kernel
theorem dX4_init_47 : decode cX4_init 47 = .ok (.newarray .int, 2) := by decide +kernel
theorem dX4_init_49 : decode cX4_init 49 = .ok (.putfield 27, 3) := by decide +kernel
theorem dX4_init_52 : decode cX4_init 52 = .ok (.aload_n 0, 1) := by decide +kernel
theorem dX4_init_53 : decode cX4_init 53 = .ok (.bipush 8, 2) := by decide +kernel
theorem dX4_init_55 : decode cX4_init 55 = .ok (.newarray .int, 2) := by decide +kernel
theorem dX4_init_57 : decode cX4_init 57 = .ok (.putfield 30, 3) := by decide +kernel
theorem dX4_init_60 : decode cX4_init 60 = .ok (.aload_n 0, 1) := by decide +kernel
theorem dX4_init_61 : decode cX4_init 61 = .ok (.bipush 8, 2) := by decide +kernel
theorem dX4_init_63 : decode cX4_init 63 = .ok (.newarray .int, 2) := by decide +kernel
theorem dX4_init_65 : decode cX4_init 65 = .ok (.putfield 33, 3) := by decide +kernel
theorem dX4_init_68 : decode cX4_init 68 = .ok (.aload_n 0, 1) := by decide +kernel
theorem dX4_init_69 : decode cX4_init 69 = .ok (.bipush 32, 2) := by decide +kernel
theorem dX4_init_71 : decode cX4_init 71 = .ok (.newarray .int, 2) := by decide +kernel
theorem dX4_init_73 : decode cX4_init 73 = .ok (.putfield 36, 3) := by decide +kernel
theorem dX4_init_76 : decode cX4_init 76 = .ok (.aload_n 0, 1) := by decide +kernel
theorem dX4_init_77 : decode cX4_init 77 = .ok (.bipush 8, 2) := by decide +kernel
theorem dX4_init_79 : decode cX4_init 79 = .ok (.newarray .int, 2) := by decide +kernel
theorem dX4_init_81 : decode cX4_init 81 = .ok (.putfield 39, 3) := by decide +kernel
theorem dX4_init_84 : decode cX4_init 84 = .ok (.aload_n 0, 1) := by decide +kernel
theorem dX4_init_85 : decode cX4_init 85 = .ok (.iconst 0, 1) := by decide +kernel
theorem dX4_init_86 : decode cX4_init 86 = .ok (.putfield 42, 3) := by decide +kernel
theorem dX4_init_89 : decode cX4_init 89 = .ok (.aload_n 0, 1) := by decide +kernel
theorem dX4_init_90 : decode cX4_init 90 = .ok (.iconst 0, 1) := by decide +kernel
theorem dX4_init_91 : decode cX4_init 91 = .ok (.putfield 46, 3) := by decide +kernel
theorem dX4_init_94 : decode cX4_init 94 = .ok (.aload_n 0, 1) := by decide +kernel
theorem dX4_init_95 : decode cX4_init 95 = .ok (.bipush 10, 2) := by decide +kernel
theorem dX4_init_97 : decode cX4_init 97 = .ok (.putfield 49, 3) := by decide +kernel
theorem dX4_init_100 : decode cX4_init 100 = .ok (.aload_n 0, 1) := by decide +kernel
theorem dX4_init_101 : decode cX4_init 101 = .ok (.bipush 12, 2) := by decide +kernel
theorem dX4_init_103 : decode cX4_init 103 = .ok (.putfield 52, 3) := by decide +kernel
theorem dX4_init_106 : decode cX4_init 106 = .ok (.return_, 1) := by decide +kernel
theorem dX4_beginAgain_0 : decode cX4_beginAgain 0 = .ok (.aload_n 0, 1) := by decide +kernel
theorem dX4_beginAgain_1 : decode cX4_beginAgain 1 = .ok (.iconst 0, 1) := by decide +kernel
theorem dX4_beginAgain_2 : decode cX4_beginAgain 2 = .ok (.putfield 42, 3) := by decide +kernel
theorem dX4_beginAgain_5 : decode cX4_beginAgain 5 = .ok (.aload_n 0, 1) := by decide +kernel
theorem dX4_beginAgain_6 : decode cX4_beginAgain 6 = .ok (.iconst 0, 1) := by decide +kernel
theorem dX4_beginAgain_7 : decode cX4_beginAgain 7 = .ok (.putfield 46, 3) := by decide +kernel
theorem dX4_beginAgain_10 : decode cX4_beginAgain 10 = .ok (.aload_n 0, 1) := by decide +kernel
theorem dX4_beginAgain_11 : decode cX4_beginAgain 11 = .ok (.bipush 10, 2) := by decide +kernel
theorem dX4_beginAgain_13 : decode cX4_beginAgain 13 = .ok (.putfield 49, 3) := by decide +kernel
theorem dX4_beginAgain_16 : decode cX4_beginAgain 16 = .ok (.aload_n 0, 1) := by decide +kernel
theorem dX4_beginAgain_17 : decode cX4_beginAgain 17 = .ok (.bipush 12, 2) := by decide +kernel
theorem dX4_beginAgain_19 : decode cX4_beginAgain 19 = .ok (.putfield 52, 3) := by decide +kernel
theorem dX4_beginAgain_22 : decode cX4_beginAgain 22 = .ok (.return_, 1) := by decide +kernel
theorem dX4_become_0 : decode cX4_become 0 = .ok (.aload_n 1, 1) := by decide +kernel
theorem dX4_become_1 : decode cX4_become 1 = .ok (.getfield 9, 3) := by decide +kernel
theorem dX4_become_4 : decode cX4_become 4 = .ok (.iconst 0, 1) := by decide +kernel
theorem dX4_become_5 : decode cX4_become 5 = .ok (.aload_n 0, 1) := by decide +kernel
theorem dX4_become_6 : decode cX4_become 6 = .ok (.getfield 9, 3) := by decide +kernel
theorem dX4_become_9 : decode cX4_become 9 = .ok (.iconst 0, 1) := by decide +kernel
theorem dX4_become_10 : decode cX4_become 10 = .ok (.bipush 6, 2) := by decide +kernel
theorem dX4_become_12 : decode cX4_become 12 = .ok (.invokestatic 55, 3) := by decide +kernel
theorem dX4_become_15 : decode cX4_become 15 = .ok (.aload_n 1, 1) := by decide +kernel
theorem dX4_become_16 : decode cX4_become 16 = .ok (.getfield 15, 3) := by decide +kernel
theorem dX4_become_19 : decode cX4_become 19 = .ok (.iconst 0, 1) := by decide +kernel
theorem dX4_become_20 : decode cX4_become 20 = .ok (.aload_n 0, 1) := by decide +kernel
theorem dX4_become_21 : decode cX4_become 21 = .ok (.getfield 15, 3) := by decide +kernel
theorem dX4_become_24 : decode cX4_become 24 = .ok (.iconst 0, 1) := by decide +kernel
theorem dX4_become_25 : decode cX4_become 25 = .ok (.bipush 6, 2) := by decide +kernel
theorem dX4_become_27 : decode cX4_become 27 = .ok (.invokestatic 55, 3) := by decide +kernel
theorem dX4_become_30 : decode cX4_become 30 = .ok (.aload_n 1, 1) := by decide +kernel
theorem dX4_become_31 : decode cX4_become 31 = .ok (.getfield 18, 3) := by decide +kernel
theorem dX4_become_34 : decode cX4_become 34 = .ok (.iconst 0, 1) := by decide +kernel
theorem dX4_become_35 : decode cX4_become 35 = .ok (.aload_n 0, 1) := by decide +kernel
theorem dX4_become_36 : decode cX4_become 36 = .ok (.getfield 18, 3) := by decide +kernel
theorem dX4_become_39 : decode cX4_become 39 = .ok (.iconst 0, 1) := by decide +kernel
theorem dX4_become_40 : decode cX4_become 40 = .ok (.bipush 8, 2) := by decide +kernel
theorem dX4_become_42 : decode cX4_become 42 = .ok (.invokestatic 55, 3) := by decide +kernel
theorem dX4_become_45 : decode cX4_become 45 = .ok (.aload_n 1, 1) := by decide +kernel
theorem dX4_become_46 : decode cX4_become 46 = .ok (.getfield 21, 3) := by decide +kernel
theorem dX4_become_49 : decode cX4_become 49 = .ok (.iconst 0, 1) := by decide +kernel
theorem dX4_become_50 : decode cX4_become 50 = .ok (.aload_n 0, 1) := by decide +kernel
theorem dX4_become_51 : decode cX4_become 51 = .ok (.getfield 21, 3) := by decide +kernel
theorem dX4_become_54 : decode cX4_become 54 = .ok (.iconst 0, 1) := by decide +kernel
theorem dX4_become_55 : decode cX4_become 55 = .ok (.bipush 8, 2) := by decide +kernel
theorem dX4_become_57 : decode cX4_become 57 = .ok (.invokestatic 55, 3) := by decide +kernel
theorem dX4_become_60 : decode cX4_become 60 = .ok (.aload_n 1, 1) := by decide +kernel
theorem dX4_become_61 : decode cX4_become 61 = .ok (.getfield 24, 3) := by decide +kernel
theorem dX4_become_64 : decode cX4_become 64 = .ok (.iconst 0, 1) := by decide +kernel
theorem dX4_become_65 : decode cX4_become 65 = .ok (.aload_n 0, 1) := by decide +kernel
theorem dX4_become_66 : decode cX4_become 66 = .ok (.getfield 24, 3) := by decide +kernel
theorem dX4_become_69 : decode cX4_become 69 = .ok (.iconst 0, 1) := by decide +kernel
theorem dX4_become_70 : decode cX4_become 70 = .ok (.bipush 8, 2) := by decide +kernel
theorem dX4_become_72 : decode cX4_become 72 = .ok (.invokestatic 55, 3) := by decide +kernel
theorem dX4_become_75 : decode cX4_become 75 = .ok (.aload_n 1, 1) := by decide +kernel
theorem dX4_become_76 : decode cX4_become 76 = .ok (.getfield 27, 3) := by decide +kernel
theorem dX4_become_79 : decode cX4_become 79 = .ok (.iconst 0, 1) := by decide +kernel
theorem dX4_become_80 : decode cX4_become 80 = .ok (.aload_n 0, 1) := by decide +kernel
theorem dX4_become_81 : decode cX4_become 81 = .ok (.getfield 27, 3) := by decide +kernel
theorem dX4_become_84 : decode cX4_become 84 = .ok (.iconst 0, 1) := by decide +kernel
theorem dX4_become_85 : decode cX4_become 85 = .ok (.bipush 8, 2) := by decide +kernel
theorem dX4_become_87 : decode cX4_become 87 = .ok (.invokestatic 55, 3) := by decide +kernel
theorem dX4_become_90 : decode cX4_become 90 = .ok (.aload_n 1, 1) := by decide +kernel
theorem dX4_become_91 : decode cX4_become 91 = .ok (.getfield 30, 3) := by decide +kernel
theorem dX4_become_94 : decode cX4_become 94 = .ok (.iconst 0, 1) := by decide +kernel
theorem dX4_become_95 : decode cX4_become 95 = .ok (.aload_n 0, 1) := by decide +kernel
theorem dX4_become_96 : decode cX4_become 96 = .ok (.getfield 30, 3) := by decide +kernel
theorem dX4_become_99 : decode cX4_become 99 = .ok (.iconst 0, 1) := by decide +kernel
theorem dX4_become_100 : decode cX4_become 100 = .ok (.bipush 8, 2) := by decide +kernel
theorem dX4_become_102 : decode cX4_become 102 = .ok (.invokestatic 55, 3) := by decide +kernel
theorem dX4_become_105 : decode cX4_become 105 = .ok (.aload_n 1, 1) := by decide +kernel
theorem dX4_become_106 : decode cX4_become 106 = .ok (.getfield 33, 3) := by decide +kernel
theorem dX4_become_109 : decode cX4_become 109 = .ok (.iconst 0, 1) := by decide +kernel
theorem dX4_become_110 : decode cX4_become 110 = .ok (.aload_n 0, 1) := by decide +kernel
theorem dX4_become_111 : decode cX4_become 111 = .ok (.getfield 33, 3) := by decide +kernel
theorem dX4_become_114 : decode cX4_become 114 = .ok (.iconst 0, 1) := by decide +kernel
theorem dX4_become_115 : decode cX4_become 115 = .ok (.bipush 8, 2) := by decide +kernel
theorem dX4_become_117 : decode cX4_become 117 = .ok (.invokestatic 55, 3) := by decide +kernel
theorem dX4_become_120 : decode cX4_become 120 = .ok (.aload_n 1, 1) := by decide +kernel
theorem dX4_become_121 : decode cX4_become 121 = .ok (.getfield 36, 3) := by decide +kernel
theorem dX4_become_124 : decode cX4_become 124 = .ok (.iconst 0, 1) := by decide +kernel
theorem dX4_become_125 : decode cX4_become 125 = .ok (.aload_n 0, 1) := by decide +kernel
theorem dX4_become_126 : decode cX4_become 126 = .ok (.getfield 36, 3) := by decide +kernel
theorem dX4_become_129 : decode cX4_become 129 = .ok (.iconst 0, 1) := by decide +kernel
theorem dX4_become_130 : decode cX4_become 130 = .ok (.bipush 32, 2) := by decide +kernel
theorem dX4_become_132 : decode cX4_become 132 = .ok (.invokestatic 55, 3) := by decide +kernel
theorem dX4_become_135 : decode cX4_become 135 = .ok (.aload_n 1, 1) := by decide +kernel
theorem dX4_become_136 : decode cX4_become 136 = .ok (.getfield 39, 3) := by decide +kernel
theorem dX4_become_139 : decode cX4_become 139 = .ok (.iconst 0, 1) := by decide +kernel
theorem dX4_become_140 : decode cX4_become 140 = .ok (.aload_n 0, 1) := by decide +kernel
theorem dX4_become_141 : decode cX4_become 141 = .ok (.getfield 39, 3) := by decide +kernel
theorem dX4_become_144 : decode cX4_become 144 = .ok (.iconst 0, 1) := by decide +kernel
theorem dX4_become_145 : decode cX4_become 145 = .ok (.bipush 8, 2) := by decide +kernel
theorem dX4_become_147 : decode cX4_become 147 = .ok (.invokestatic 55, 3) := by decide +kernel
theorem dX4_become_150 : decode cX4_become 150 = .ok (.aload_n 0, 1) := by decide +kernel
theorem dX4_become_151 : decode cX4_become 151 = .ok (.aload_n 1, 1) := by decide +kernel
theorem dX4_become_152 : decode cX4_become 152 = .ok (.getfield 42, 3) := by decide +kernel
theorem dX4_become_155 : decode cX4_become 155 = .ok (.putfield 42, 3) := by decide +kernel
theorem dX4_become_158 : decode cX4_become 158 = .ok (.aload_n 0, 1) := by decide +kernel
theorem dX4_become_159 : decode cX4_become 159 = .ok (.aload_n 1, 1) := by decide +kernel
theorem dX4_become_160 : decode cX4_become 160 = .ok (.getfield 46, 3) := by decide +kernel
theorem dX4_become_163 : decode cX4_become 163 = .ok (.putfield 46, 3) := by decide +kernel
theorem dX4_become_166 : decode cX4_become 166 = .ok (.aload_n 0, 1) := by decide +kernel
theorem dX4_become_167 : decode cX4_become 167 = .ok (.aload_n 1, 1) := by decide +kernel
theorem dX4_become_168 : decode cX4_become 168 = .ok (.getfield 49, 3) := by decide +kernel
theorem dX4_become_171 : decode cX4_become 171 = .ok (.putfield 49, 3) := by decide +kernel
theorem dX4_become_174 : decode cX4_become 174 = .ok (.aload_n 0, 1) := by decide +kernel
theorem dX4_become_175 : decode cX4_become 175 = .ok (.aload_n 1, 1) := by decide +kernel
theorem dX4_become_176 : decode cX4_become 176 = .ok (.getfield 52, 3) := by decide +kernel
theorem dX4_become_179 : decode cX4_become 179 = .ok (.putfield 52, 3) := by decide +kernel
theorem dX4_become_182 : decode cX4_become 182 = .ok (.return_, 1) := by decide +kernel
theorem dX4_hasPerson_0 : decode cX4_hasPerson 0 = .ok (.iload_n 1, 1) := by decide +kernel
theorem dX4_hasPerson_1 : decode cX4_hasPerson 1 = .ok (.ifCond .lt 21, 3) := by decide +kernel
theorem dX4_hasPerson_4 : decode cX4_hasPerson 4 = .ok (.iload_n 1, 1) := by decide +kernel
theorem dX4_hasPerson_5 : decode cX4_hasPerson 5 = .ok (.aload_n 0, 1) := by decide +kernel
theorem dX4_hasPerson_6 : decode cX4_hasPerson 6 = .ok (.getfield 42, 3) := by decide +kernel
theorem dX4_hasPerson_9 : decode cX4_hasPerson 9 = .ok (.if_icmp .ge 13, 3) := by decide +kernel
theorem dX4_hasPerson_12 : decode cX4_hasPerson 12 = .ok (.iload_n 1, 1) := by decide +kernel
theorem dX4_hasPerson_13 : decode cX4_hasPerson 13 = .ok (.bipush 6, 2) := by decide +kernel
theorem dX4_hasPerson_15 : decode cX4_hasPerson 15 = .ok (.if_icmp .ge 7, 3) := by decide +kernel
theorem dX4_hasPerson_18 : decode cX4_hasPerson 18 = .ok (.iconst 1, 1) := by decide +kernel
theorem dX4_hasPerson_19 : decode cX4_hasPerson 19 = .ok (.goto 4, 3) := by decide +kernel
theorem dX4_hasPerson_22 : decode cX4_hasPerson 22 = .ok (.iconst 0, 1) := by decide +kernel
theorem dX4_hasPerson_23 : decode cX4_hasPerson 23 = .ok (.ireturn, 1) := by decide +kernel
theorem dX4_hasPromise_0 : decode cX4_hasPromise 0 = .ok (.iload_n 1, 1) := by decide +kernel
theorem dX4_hasPromise_1 : decode cX4_hasPromise 1 = .ok (.ifCond .lt 21, 3) := by decide +kernel
theorem dX4_hasPromise_4 : decode cX4_hasPromise 4 = .ok (.iload_n 1, 1) := by decide +kernel
theorem dX4_hasPromise_5 : decode cX4_hasPromise 5 = .ok (.aload_n 0, 1) := by decide +kernel
theorem dX4_hasPromise_6 : decode cX4_hasPromise 6 = .ok (.getfield 46, 3) := by decide +kernel
theorem dX4_hasPromise_9 : decode cX4_hasPromise 9 = .ok (.if_icmp .ge 13, 3) := by decide +kernel
theorem dX4_hasPromise_12 : decode cX4_hasPromise 12 = .ok (.iload_n 1, 1) := by decide +kernel
theorem dX4_hasPromise_13 : decode cX4_hasPromise 13 = .ok (.bipush 8, 2) := by decide +kernel
theorem dX4_hasPromise_15 : decode cX4_hasPromise 15 = .ok (.if_icmp .ge 7, 3) := by decide +kernel
theorem dX4_hasPromise_18 : decode cX4_hasPromise 18 = .ok (.iconst 1, 1) := by decide +kernel
theorem dX4_hasPromise_19 : decode cX4_hasPromise 19 = .ok (.goto 4, 3) := by decide +kernel
theorem dX4_hasPromise_22 : decode cX4_hasPromise 22 = .ok (.iconst 0, 1) := by decide +kernel
theorem dX4_hasPromise_23 : decode cX4_hasPromise 23 = .ok (.ireturn, 1) := by decide +kernel
theorem dX4_wordAt_0 : decode cX4_wordAt 0 = .ok (.aload_n 0, 1) := by decide +kernel
theorem dX4_wordAt_1 : decode cX4_wordAt 1 = .ok (.iload_n 1, 1) := by decide +kernel
theorem dX4_wordAt_2 : decode cX4_wordAt 2 = .ok (.invokevirtual 61, 3) := by decide +kernel
theorem dX4_wordAt_5 : decode cX4_wordAt 5 = .ok (.ifCond .eq 35, 3) := by decide +kernel
theorem dX4_wordAt_8 : decode cX4_wordAt 8 = .ok (.iload_n 2, 1) := by decide +kernel
theorem dX4_wordAt_9 : decode cX4_wordAt 9 = .ok (.ifCond .lt 31, 3) := by decide +kernel
theorem dX4_wordAt_12 : decode cX4_wordAt 12 = .ok (.iload_n 2, 1) := by decide +kernel
theorem dX4_wordAt_13 : decode cX4_wordAt 13 = .ok (.aload_n 0, 1) := by decide +kernel
theorem dX4_wordAt_14 : decode cX4_wordAt 14 = .ok (.getfield 33, 3) := by decide +kernel
theorem dX4_wordAt_17 : decode cX4_wordAt 17 = .ok (.iload_n 1, 1) := by decide +kernel
theorem dX4_wordAt_18 : decode cX4_wordAt 18 = .ok (.iaload, 1) := by decide +kernel
theorem dX4_wordAt_19 : decode cX4_wordAt 19 = .ok (.if_icmp .ge 21, 3) := by decide +kernel
theorem dX4_wordAt_22 : decode cX4_wordAt 22 = .ok (.iload_n 2, 1) := by decide +kernel
theorem dX4_wordAt_23 : decode cX4_wordAt 23 = .ok (.iconst 4, 1) := by decide +kernel
theorem dX4_wordAt_24 : decode cX4_wordAt 24 = .ok (.if_icmp .ge 16, 3) := by decide +kernel
theorem dX4_wordAt_27 : decode cX4_wordAt 27 = .ok (.aload_n 0, 1) := by decide +kernel
theorem dX4_wordAt_28 : decode cX4_wordAt 28 = .ok (.getfield 36, 3) := by decide +kernel
theorem dX4_wordAt_31 : decode cX4_wordAt 31 = .ok (.iload_n 1, 1) := by decide +kernel
theorem dX4_wordAt_32 : decode cX4_wordAt 32 = .ok (.iconst 4, 1) := by decide +kernel
theorem dX4_wordAt_33 : decode cX4_wordAt 33 = .ok (.imul, 1) := by decide +kernel
theorem dX4_wordAt_34 : decode cX4_wordAt 34 = .ok (.iload_n 2, 1) := by decide +kernel
theorem dX4_wordAt_35 : decode cX4_wordAt 35 = .ok (.iadd, 1) := by decide +kernel
theorem dX4_wordAt_36 : decode cX4_wordAt 36 = .ok (.iaload, 1) := by decide +kernel
theorem dX4_wordAt_37 : decode cX4_wordAt 37 = .ok (.goto 5, 3) := by decide +kernel
theorem dX4_wordAt_40 : decode cX4_wordAt 40 = .ok (.bipush (-9), 2) := by decide +kernel
theorem dX4_wordAt_42 : decode cX4_wordAt 42 = .ok (.ireturn, 1) := by decide +kernel
theorem dJ6_bitCount_0f7a4_0 : decode cJ6_bitCount_0f7a4 0 = .ok (.iload_n 0, 1) := by decide +kernel
theorem dJ6_bitCount_0f7a4_1 : decode cJ6_bitCount_0f7a4 1 = .ok (.iload_n 0, 1) := by decide +kernel
theorem dJ6_bitCount_0f7a4_2 : decode cJ6_bitCount_0f7a4 2 = .ok (.iconst 1, 1) := by decide +kernel
theorem dJ6_bitCount_0f7a4_3 : decode cJ6_bitCount_0f7a4 3 = .ok (.iushr, 1) := by decide +kernel
theorem dJ6_bitCount_0f7a4_4 : decode cJ6_bitCount_0f7a4 4 = .ok (.ldc_w 265, 3) := by decide +kernel
theorem dJ6_bitCount_0f7a4_7 : decode cJ6_bitCount_0f7a4 7 = .ok (.iand, 1) := by decide +kernel
theorem dJ6_bitCount_0f7a4_8 : decode cJ6_bitCount_0f7a4 8 = .ok (.isub, 1) := by decide +kernel
theorem dJ6_bitCount_0f7a4_9 : decode cJ6_bitCount_0f7a4 9 = .ok (.istore_n 0, 1) := by decide +kernel
theorem dJ6_bitCount_0f7a4_10 : decode cJ6_bitCount_0f7a4 10 = .ok (.iload_n 0, 1) := by decide +kernel
theorem dJ6_bitCount_0f7a4_11 : decode cJ6_bitCount_0f7a4 11 = .ok (.ldc_w 266, 3) := by decide +kernel
theorem dJ6_bitCount_0f7a4_14 : decode cJ6_bitCount_0f7a4 14 = .ok (.iand, 1) := by decide +kernel
theorem dJ6_bitCount_0f7a4_15 : decode cJ6_bitCount_0f7a4 15 = .ok (.iload_n 0, 1) := by decide +kernel
theorem dJ6_bitCount_0f7a4_16 : decode cJ6_bitCount_0f7a4 16 = .ok (.iconst 2, 1) := by decide +kernel
theorem dJ6_bitCount_0f7a4_17 : decode cJ6_bitCount_0f7a4 17 = .ok (.iushr, 1) := by decide +kernel
theorem dJ6_bitCount_0f7a4_18 : decode cJ6_bitCount_0f7a4 18 = .ok (.ldc_w 266, 3) := by decide +kernel
theorem dJ6_bitCount_0f7a4_21 : decode cJ6_bitCount_0f7a4 21 = .ok (.iand, 1) := by decide +kernel
theorem dJ6_bitCount_0f7a4_22 : decode cJ6_bitCount_0f7a4 22 = .ok (.iadd, 1) := by decide +kernel
theorem dJ6_bitCount_0f7a4_23 : decode cJ6_bitCount_0f7a4 23 = .ok (.istore_n 0, 1) := by decide +kernel
theorem dJ6_bitCount_0f7a4_24 : decode cJ6_bitCount_0f7a4 24 = .ok (.iload_n 0, 1) := by decide +kernel
theorem dJ6_bitCount_0f7a4_25 : decode cJ6_bitCount_0f7a4 25 = .ok (.iload_n 0, 1) := by decide +kernel
theorem dJ6_bitCount_0f7a4_26 : decode cJ6_bitCount_0f7a4 26 = .ok (.iconst 4, 1) := by decide +kernel
theorem dJ6_bitCount_0f7a4_27 : decode cJ6_bitCount_0f7a4 27 = .ok (.iushr, 1) := by decide +kernel
theorem dJ6_bitCount_0f7a4_28 : decode cJ6_bitCount_0f7a4 28 = .ok (.iadd, 1) := by decide +kernel
theorem dJ6_bitCount_0f7a4_29 : decode cJ6_bitCount_0f7a4 29 = .ok (.ldc_w 267, 3) := by decide +kernel
theorem dJ6_bitCount_0f7a4_32 : decode cJ6_bitCount_0f7a4 32 = .ok (.iand, 1) := by decide +kernel
theorem dJ6_bitCount_0f7a4_33 : decode cJ6_bitCount_0f7a4 33 = .ok (.istore_n 0, 1) := by decide +kernel
theorem dJ6_bitCount_0f7a4_34 : decode cJ6_bitCount_0f7a4 34 = .ok (.iload_n 0, 1) := by decide +kernel
theorem dJ6_bitCount_0f7a4_35 : decode cJ6_bitCount_0f7a4 35 = .ok (.iload_n 0, 1) := by decide +kernel
theorem dJ6_bitCount_0f7a4_36 : decode cJ6_bitCount_0f7a4 36 = .ok (.bipush 8, 2) := by decide +kernel
theorem dJ6_bitCount_0f7a4_38 : decode cJ6_bitCount_0f7a4 38 = .ok (.iushr, 1) := by decide +kernel
theorem dJ6_bitCount_0f7a4_39 : decode cJ6_bitCount_0f7a4 39 = .ok (.iadd, 1) := by decide +kernel
theorem dJ6_bitCount_0f7a4_40 : decode cJ6_bitCount_0f7a4 40 = .ok (.istore_n 0, 1) := by decide +kernel
theorem dJ6_bitCount_0f7a4_41 : decode cJ6_bitCount_0f7a4 41 = .ok (.iload_n 0, 1) := by decide +kernel
theorem dJ6_bitCount_0f7a4_42 : decode cJ6_bitCount_0f7a4 42 = .ok (.iload_n 0, 1) := by decide +kernel
theorem dJ6_bitCount_0f7a4_43 : decode cJ6_bitCount_0f7a4 43 = .ok (.bipush 16, 2) := by decide +kernel
theorem dJ6_bitCount_0f7a4_45 : decode cJ6_bitCount_0f7a4 45 = .ok (.iushr, 1) := by decide +kernel
theorem dJ6_bitCount_0f7a4_46 : decode cJ6_bitCount_0f7a4 46 = .ok (.iadd, 1) := by decide +kernel
theorem dJ6_bitCount_0f7a4_47 : decode cJ6_bitCount_0f7a4 47 = .ok (.istore_n 0, 1) := by decide +kernel
theorem dJ6_bitCount_0f7a4_48 : decode cJ6_bitCount_0f7a4 48 = .ok (.iload_n 0, 1) := by decide +kernel
theorem dJ6_bitCount_0f7a4_49 : decode cJ6_bitCount_0f7a4 49 = .ok (.bipush 63, 2) := by decide +kernel
theorem dJ6_bitCount_0f7a4_51 : decode cJ6_bitCount_0f7a4 51 = .ok (.iand, 1) := by decide +kernel
theorem dJ6_bitCount_0f7a4_52 : decode cJ6_bitCount_0f7a4 52 = .ok (.ireturn, 1) := by decide +kernel
theorem dJ9_max_7cf53_0 : decode cJ9_max_7cf53 0 = .ok (.iload_n 0, 1) := by decide +kernel
theorem dJ9_max_7cf53_1 : decode cJ9_max_7cf53 1 = .ok (.iload_n 1, 1) := by decide +kernel
theorem dJ9_max_7cf53_2 : decode cJ9_max_7cf53 2 = .ok (.if_icmp .lt 7, 3) := by decide +kernel
theorem dJ9_max_7cf53_5 : decode cJ9_max_7cf53 5 = .ok (.iload_n 0, 1) := by decide +kernel
theorem dJ9_max_7cf53_6 : decode cJ9_max_7cf53 6 = .ok (.goto 4, 3) := by decide +kernel
theorem dJ9_max_7cf53_9 : decode cJ9_max_7cf53 9 = .ok (.iload_n 1, 1) := by decide +kernel
theorem dJ9_max_7cf53_10 : decode cJ9_max_7cf53 10 = .ok (.ireturn, 1) := by decide +kernel
theorem dJ9_min_7cf53_0 : decode cJ9_min_7cf53 0 = .ok (.iload_n 0, 1) := by decide +kernel
theorem dJ9_min_7cf53_1 : decode cJ9_min_7cf53 1 = .ok (.iload_n 1, 1) := by decide +kernel
theorem dJ9_min_7cf53_2 : decode cJ9_min_7cf53 2 = .ok (.if_icmp .gt 7, 3) := by decide +kernel
theorem dJ9_min_7cf53_5 : decode cJ9_min_7cf53 5 = .ok (.iload_n 0, 1) := by decide +kernel
theorem dJ9_min_7cf53_6 : decode cJ9_min_7cf53 6 = .ok (.goto 4, 3) := by decide +kernel
theorem dJ9_min_7cf53_9 : decode cJ9_min_7cf53 9 = .ok (.iload_n 1, 1) := by decide +kernel
theorem dJ9_min_7cf53_10 : decode cJ9_min_7cf53 10 = .ok (.ireturn, 1) := by decide +kernel
theorem dL_law_0 : decode cL_law 0 = .ok (.new 7, 3) := by decide +kernel
theorem dL_law_3 : decode cL_law 3 = .ok (.dup, 1) := by decide +kernel
theorem dL_law_4 : decode cL_law 4 = .ok (.invokespecial 9, 3) := by decide +kernel
theorem dL_law_7 : decode cL_law 7 = .ok (.astore_n 1, 1) := by decide +kernel
theorem dL_law_8 : decode cL_law 8 = .ok (.new 10, 3) := by decide +kernel
theorem dL_law_11 : decode cL_law 11 = .ok (.dup, 1) := by decide +kernel
theorem dL_law_12 : decode cL_law 12 = .ok (.invokespecial 12, 3) := by decide +kernel
theorem dL_law_15 : decode cL_law 15 = .ok (.astore_n 2, 1) := by decide +kernel
theorem dL_law_16 : decode cL_law 16 = .ok (.iconst 0, 1) := by decide +kernel
theorem dL_law_17 : decode cL_law 17 = .ok (.istore_n 3, 1) := by decide +kernel
theorem dL_law_18 : decode cL_law 18 = .ok (.iload_n 3, 1) := by decide +kernel
theorem dL_law_19 : decode cL_law 19 = .ok (.aload_n 0, 1) := by decide +kernel
theorem dL_law_20 : decode cL_law 20 = .ok (.arraylength, 1) := by decide +kernel
theorem dL_law_21 : decode cL_law 21 = .ok (.iconst 5, 1) := by decide +kernel
theorem dL_law_22 : decode cL_law 22 = .ok (.isub, 1) := by decide +kernel
theorem dL_law_23 : decode cL_law 23 = .ok (.if_icmp .gt 855, 3) := by decide +kernel
theorem dL_law_26 : decode cL_law 26 = .ok (.aload_n 0, 1) := by decide +kernel
theorem dL_law_27 : decode cL_law 27 = .ok (.iload_n 3, 1) := by decide +kernel
theorem dL_law_28 : decode cL_law 28 = .ok (.iaload, 1) := by decide +kernel
theorem dL_law_29 : decode cL_law 29 = .ok (.bipush 31, 2) := by decide +kernel
theorem dL_law_31 : decode cL_law 31 = .ok (.iand, 1) := by decide +kernel
theorem dL_law_32 : decode cL_law 32 = .ok (.tableswitch 840 0 28 #[132, 155, 168, 181, 214, 247, 280, 313, 336, 359, 382, 405, 418, 431, 464, 507, 540, 563, 576, 589, 602, 625, 648, 671, 724, 757, 780, 803, 826], 132) := by decide +kernel
theorem dL_law_164 : decode cL_law 164 = .ok (.aload_n 1, 1) := by decide +kernel
theorem dL_law_165 : decode cL_law 165 = .ok (.aload_n 0, 1) := by decide +kernel
theorem dL_law_166 : decode cL_law 166 = .ok (.iload_n 3, 1) := by decide +kernel
theorem dL_law_167 : decode cL_law 167 = .ok (.iconst 1, 1) := by decide +kernel
theorem dL_law_168 : decode cL_law 168 = .ok (.iadd, 1) := by decide +kernel
theorem dL_law_169 : decode cL_law 169 = .ok (.iaload, 1) := by decide +kernel
theorem dL_law_170 : decode cL_law 170 = .ok (.invokevirtual 13, 3) := by decide +kernel
theorem dL_law_173 : decode cL_law 173 = .ok (.aload_n 2, 1) := by decide +kernel
theorem dL_law_174 : decode cL_law 174 = .ok (.aload_n 0, 1) := by decide +kernel
theorem dL_law_175 : decode cL_law 175 = .ok (.iload_n 3, 1) := by decide +kernel
theorem dL_law_176 : decode cL_law 176 = .ok (.iconst 1, 1) := by decide +kernel
theorem dL_law_177 : decode cL_law 177 = .ok (.iadd, 1) := by decide +kernel
theorem dL_law_178 : decode cL_law 178 = .ok (.iaload, 1) := by decide +kernel
theorem dL_law_179 : decode cL_law 179 = .ok (.invokevirtual 17, 3) := by decide +kernel
theorem dL_law_182 : decode cL_law 182 = .ok (.if_icmp .eq 690, 3) := by decide +kernel
theorem dL_law_185 : decode cL_law 185 = .ok (.iconst 0, 1) := by decide +kernel
theorem dL_law_186 : decode cL_law 186 = .ok (.ireturn, 1) := by decide +kernel
theorem dL_law_187 : decode cL_law 187 = .ok (.aload_n 1, 1) := by decide +kernel
theorem dL_law_188 : decode cL_law 188 = .ok (.invokevirtual 18, 3) := by decide +kernel
theorem dL_law_191 : decode cL_law 191 = .ok (.aload_n 2, 1) := by decide +kernel
theorem dL_law_192 : decode cL_law 192 = .ok (.invokevirtual 22, 3) := by decide +kernel
theorem dL_law_195 : decode cL_law 195 = .ok (.if_icmp .eq 677, 3) := by decide +kernel
theorem dL_law_198 : decode cL_law 198 = .ok (.iconst 0, 1) := by decide +kernel
theorem dL_law_199 : decode cL_law 199 = .ok (.ireturn, 1) := by decide +kernel
theorem dL_law_200 : decode cL_law 200 = .ok (.aload_n 1, 1) := by decide +kernel
theorem dL_law_201 : decode cL_law 201 = .ok (.invokevirtual 23, 3) := by decide +kernel
theorem dL_law_204 : decode cL_law 204 = .ok (.aload_n 2, 1) := by decide +kernel
theorem dL_law_205 : decode cL_law 205 = .ok (.invokevirtual 26, 3) := by decide +kernel
theorem dL_law_208 : decode cL_law 208 = .ok (.if_icmp .eq 664, 3) := by decide +kernel
theorem dL_law_211 : decode cL_law 211 = .ok (.iconst 0, 1) := by decide +kernel
theorem dL_law_212 : decode cL_law 212 = .ok (.ireturn, 1) := by decide +kernel
theorem dL_law_213 : decode cL_law 213 = .ok (.aload_n 1, 1) := by decide +kernel
theorem dL_law_214 : decode cL_law 214 = .ok (.aload_n 0, 1) := by decide +kernel
theorem dL_law_215 : decode cL_law 215 = .ok (.iload_n 3, 1) := by decide +kernel
theorem dL_law_216 : decode cL_law 216 = .ok (.iconst 1, 1) := by decide +kernel
theorem dL_law_217 : decode cL_law 217 = .ok (.iadd, 1) := by decide +kernel
theorem dL_law_218 : decode cL_law 218 = .ok (.iaload, 1) := by decide +kernel
theorem dL_law_219 : decode cL_law 219 = .ok (.aload_n 0, 1) := by decide +kernel
theorem dL_law_220 : decode cL_law 220 = .ok (.iload_n 3, 1) := by decide +kernel
theorem dL_law_221 : decode cL_law 221 = .ok (.iconst 2, 1) := by decide +kernel
theorem dL_law_222 : decode cL_law 222 = .ok (.iadd, 1) := by decide +kernel
theorem dL_law_223 : decode cL_law 223 = .ok (.iaload, 1) := by decide +kernel
theorem dL_law_224 : decode cL_law 224 = .ok (.invokevirtual 27, 3) := by decide +kernel
theorem dL_law_227 : decode cL_law 227 = .ok (.aload_n 2, 1) := by decide +kernel
theorem dL_law_228 : decode cL_law 228 = .ok (.aload_n 0, 1) := by decide +kernel
theorem dL_law_229 : decode cL_law 229 = .ok (.iload_n 3, 1) := by decide +kernel
theorem dL_law_230 : decode cL_law 230 = .ok (.iconst 1, 1) := by decide +kernel
theorem dL_law_231 : decode cL_law 231 = .ok (.iadd, 1) := by decide +kernel
theorem dL_law_232 : decode cL_law 232 = .ok (.iaload, 1) := by decide +kernel
theorem dL_law_233 : decode cL_law 233 = .ok (.aload_n 0, 1) := by decide +kernel
theorem dL_law_234 : decode cL_law 234 = .ok (.iload_n 3, 1) := by decide +kernel
theorem dL_law_235 : decode cL_law 235 = .ok (.iconst 2, 1) := by decide +kernel
theorem dL_law_236 : decode cL_law 236 = .ok (.iadd, 1) := by decide +kernel
theorem dL_law_237 : decode cL_law 237 = .ok (.iaload, 1) := by decide +kernel
theorem dL_law_238 : decode cL_law 238 = .ok (.invokevirtual 31, 3) := by decide +kernel
theorem dL_law_241 : decode cL_law 241 = .ok (.if_icmp .eq 631, 3) := by decide +kernel
theorem dL_law_244 : decode cL_law 244 = .ok (.iconst 0, 1) := by decide +kernel
theorem dL_law_245 : decode cL_law 245 = .ok (.ireturn, 1) := by decide +kernel
theorem dL_law_246 : decode cL_law 246 = .ok (.aload_n 1, 1) := by decide +kernel
theorem dL_law_247 : decode cL_law 247 = .ok (.aload_n 0, 1) := by decide +kernel
theorem dL_law_248 : decode cL_law 248 = .ok (.iload_n 3, 1) := by decide +kernel
theorem dL_law_249 : decode cL_law 249 = .ok (.iconst 1, 1) := by decide +kernel
theorem dL_law_250 : decode cL_law 250 = .ok (.iadd, 1) := by decide +kernel
theorem dL_law_251 : decode cL_law 251 = .ok (.iaload, 1) := by decide +kernel
theorem dL_law_252 : decode cL_law 252 = .ok (.aload_n 0, 1) := by decide +kernel
theorem dL_law_253 : decode cL_law 253 = .ok (.iload_n 3, 1) := by decide +kernel
theorem dL_law_254 : decode cL_law 254 = .ok (.iconst 2, 1) := by decide +kernel
theorem dL_law_255 : decode cL_law 255 = .ok (.iadd, 1) := by decide +kernel
theorem dL_law_256 : decode cL_law 256 = .ok (.iaload, 1) := by decide +kernel
theorem dL_law_257 : decode cL_law 257 = .ok (.invokevirtual 32, 3) := by decide +kernel
theorem dL_law_260 : decode cL_law 260 = .ok (.aload_n 2, 1) := by decide +kernel
theorem dL_law_261 : decode cL_law 261 = .ok (.aload_n 0, 1) := by decide +kernel
theorem dL_law_262 : decode cL_law 262 = .ok (.iload_n 3, 1) := by decide +kernel
theorem dL_law_263 : decode cL_law 263 = .ok (.iconst 1, 1) := by decide +kernel
theorem dL_law_264 : decode cL_law 264 = .ok (.iadd, 1) := by decide +kernel
theorem dL_law_265 : decode cL_law 265 = .ok (.iaload, 1) := by decide +kernel
theorem dL_law_266 : decode cL_law 266 = .ok (.aload_n 0, 1) := by decide +kernel
theorem dL_law_267 : decode cL_law 267 = .ok (.iload_n 3, 1) := by decide +kernel
theorem dL_law_268 : decode cL_law 268 = .ok (.iconst 2, 1) := by decide +kernel
theorem dL_law_269 : decode cL_law 269 = .ok (.iadd, 1) := by decide +kernel
theorem dL_law_270 : decode cL_law 270 = .ok (.iaload, 1) := by decide +kernel
theorem dL_law_271 : decode cL_law 271 = .ok (.invokevirtual 35, 3) := by decide +kernel
theorem dL_law_274 : decode cL_law 274 = .ok (.if_icmp .eq 598, 3) := by decide +kernel
theorem dL_law_277 : decode cL_law 277 = .ok (.iconst 0, 1) := by decide +kernel
theorem dL_law_278 : decode cL_law 278 = .ok (.ireturn, 1) := by decide +kernel
theorem dL_law_279 : decode cL_law 279 = .ok (.aload_n 1, 1) := by decide +kernel
theorem dL_law_280 : decode cL_law 280 = .ok (.aload_n 0, 1) := by decide +kernel
theorem dL_law_281 : decode cL_law 281 = .ok (.iload_n 3, 1) := by decide +kernel
theorem dL_law_282 : decode cL_law 282 = .ok (.iconst 1, 1) := by decide +kernel
theorem dL_law_283 : decode cL_law 283 = .ok (.iadd, 1) := by decide +kernel
theorem dL_law_284 : decode cL_law 284 = .ok (.iaload, 1) := by decide +kernel
theorem dL_law_285 : decode cL_law 285 = .ok (.aload_n 0, 1) := by decide +kernel
theorem dL_law_286 : decode cL_law 286 = .ok (.iload_n 3, 1) := by decide +kernel
theorem dL_law_287 : decode cL_law 287 = .ok (.iconst 2, 1) := by decide +kernel
theorem dL_law_288 : decode cL_law 288 = .ok (.iadd, 1) := by decide +kernel
theorem dL_law_289 : decode cL_law 289 = .ok (.iaload, 1) := by decide +kernel
theorem dL_law_290 : decode cL_law 290 = .ok (.invokevirtual 36, 3) := by decide +kernel
theorem dL_law_293 : decode cL_law 293 = .ok (.aload_n 2, 1) := by decide +kernel
theorem dL_law_294 : decode cL_law 294 = .ok (.aload_n 0, 1) := by decide +kernel
theorem dL_law_295 : decode cL_law 295 = .ok (.iload_n 3, 1) := by decide +kernel
theorem dL_law_296 : decode cL_law 296 = .ok (.iconst 1, 1) := by decide +kernel
theorem dL_law_297 : decode cL_law 297 = .ok (.iadd, 1) := by decide +kernel
theorem dL_law_298 : decode cL_law 298 = .ok (.iaload, 1) := by decide +kernel
theorem dL_law_299 : decode cL_law 299 = .ok (.aload_n 0, 1) := by decide +kernel
theorem dL_law_300 : decode cL_law 300 = .ok (.iload_n 3, 1) := by decide +kernel
theorem dL_law_301 : decode cL_law 301 = .ok (.iconst 2, 1) := by decide +kernel
theorem dL_law_302 : decode cL_law 302 = .ok (.iadd, 1) := by decide +kernel
theorem dL_law_303 : decode cL_law 303 = .ok (.iaload, 1) := by decide +kernel
theorem dL_law_304 : decode cL_law 304 = .ok (.invokevirtual 39, 3) := by decide +kernel
theorem dL_law_307 : decode cL_law 307 = .ok (.if_icmp .eq 565, 3) := by decide +kernel
theorem dL_law_310 : decode cL_law 310 = .ok (.iconst 0, 1) := by decide +kernel
theorem dL_law_311 : decode cL_law 311 = .ok (.ireturn, 1) := by decide +kernel
theorem dL_law_312 : decode cL_law 312 = .ok (.aload_n 1, 1) := by decide +kernel
theorem dL_law_313 : decode cL_law 313 = .ok (.aload_n 0, 1) := by decide +kernel
theorem dL_law_314 : decode cL_law 314 = .ok (.iload_n 3, 1) := by decide +kernel
theorem dL_law_315 : decode cL_law 315 = .ok (.iconst 1, 1) := by decide +kernel
theorem dL_law_316 : decode cL_law 316 = .ok (.iadd, 1) := by decide +kernel
theorem dL_law_317 : decode cL_law 317 = .ok (.iaload, 1) := by decide +kernel
theorem dL_law_318 : decode cL_law 318 = .ok (.aload_n 0, 1) := by decide +kernel
theorem dL_law_319 : decode cL_law 319 = .ok (.iload_n 3, 1) := by decide +kernel
theorem dL_law_320 : decode cL_law 320 = .ok (.iconst 2, 1) := by decide +kernel
theorem dL_law_321 : decode cL_law 321 = .ok (.iadd, 1) := by decide +kernel
theorem dL_law_322 : decode cL_law 322 = .ok (.iaload, 1) := by decide +kernel
theorem dL_law_323 : decode cL_law 323 = .ok (.invokevirtual 40, 3) := by decide +kernel
theorem dL_law_326 : decode cL_law 326 = .ok (.aload_n 2, 1) := by decide +kernel
theorem dL_law_327 : decode cL_law 327 = .ok (.aload_n 0, 1) := by decide +kernel
theorem dL_law_328 : decode cL_law 328 = .ok (.iload_n 3, 1) := by decide +kernel
theorem dL_law_329 : decode cL_law 329 = .ok (.iconst 1, 1) := by decide +kernel
theorem dL_law_330 : decode cL_law 330 = .ok (.iadd, 1) := by decide +kernel
theorem dL_law_331 : decode cL_law 331 = .ok (.iaload, 1) := by decide +kernel
theorem dL_law_332 : decode cL_law 332 = .ok (.aload_n 0, 1) := by decide +kernel
theorem dL_law_333 : decode cL_law 333 = .ok (.iload_n 3, 1) := by decide +kernel
theorem dL_law_334 : decode cL_law 334 = .ok (.iconst 2, 1) := by decide +kernel
theorem dL_law_335 : decode cL_law 335 = .ok (.iadd, 1) := by decide +kernel
theorem dL_law_336 : decode cL_law 336 = .ok (.iaload, 1) := by decide +kernel
theorem dL_law_337 : decode cL_law 337 = .ok (.invokevirtual 43, 3) := by decide +kernel
theorem dL_law_340 : decode cL_law 340 = .ok (.if_icmp .eq 532, 3) := by decide +kernel
theorem dL_law_343 : decode cL_law 343 = .ok (.iconst 0, 1) := by decide +kernel
theorem dL_law_344 : decode cL_law 344 = .ok (.ireturn, 1) := by decide +kernel
theorem dL_law_345 : decode cL_law 345 = .ok (.aload_n 1, 1) := by decide +kernel
theorem dL_law_346 : decode cL_law 346 = .ok (.aload_n 0, 1) := by decide +kernel
theorem dL_law_347 : decode cL_law 347 = .ok (.iload_n 3, 1) := by decide +kernel
theorem dL_law_348 : decode cL_law 348 = .ok (.iconst 1, 1) := by decide +kernel
theorem dL_law_349 : decode cL_law 349 = .ok (.iadd, 1) := by decide +kernel
theorem dL_law_350 : decode cL_law 350 = .ok (.iaload, 1) := by decide +kernel
theorem dL_law_351 : decode cL_law 351 = .ok (.invokevirtual 44, 3) := by decide +kernel
theorem dL_law_354 : decode cL_law 354 = .ok (.aload_n 2, 1) := by decide +kernel
theorem dL_law_355 : decode cL_law 355 = .ok (.aload_n 0, 1) := by decide +kernel
theorem dL_law_356 : decode cL_law 356 = .ok (.iload_n 3, 1) := by decide +kernel
theorem dL_law_357 : decode cL_law 357 = .ok (.iconst 1, 1) := by decide +kernel
theorem dL_law_358 : decode cL_law 358 = .ok (.iadd, 1) := by decide +kernel
theorem dL_law_359 : decode cL_law 359 = .ok (.iaload, 1) := by decide +kernel
theorem dL_law_360 : decode cL_law 360 = .ok (.invokevirtual 47, 3) := by decide +kernel
theorem dL_law_363 : decode cL_law 363 = .ok (.if_icmp .eq 509, 3) := by decide +kernel
theorem dL_law_366 : decode cL_law 366 = .ok (.iconst 0, 1) := by decide +kernel
theorem dL_law_367 : decode cL_law 367 = .ok (.ireturn, 1) := by decide +kernel
theorem dL_law_368 : decode cL_law 368 = .ok (.aload_n 1, 1) := by decide +kernel
theorem dL_law_369 : decode cL_law 369 = .ok (.aload_n 0, 1) := by decide +kernel
theorem dL_law_370 : decode cL_law 370 = .ok (.iload_n 3, 1) := by decide +kernel
theorem dL_law_371 : decode cL_law 371 = .ok (.iconst 1, 1) := by decide +kernel
theorem dL_law_372 : decode cL_law 372 = .ok (.iadd, 1) := by decide +kernel
theorem dL_law_373 : decode cL_law 373 = .ok (.iaload, 1) := by decide +kernel
theorem dL_law_374 : decode cL_law 374 = .ok (.invokevirtual 48, 3) := by decide +kernel
theorem dL_law_377 : decode cL_law 377 = .ok (.aload_n 2, 1) := by decide +kernel
theorem dL_law_378 : decode cL_law 378 = .ok (.aload_n 0, 1) := by decide +kernel
theorem dL_law_379 : decode cL_law 379 = .ok (.iload_n 3, 1) := by decide +kernel
theorem dL_law_380 : decode cL_law 380 = .ok (.iconst 1, 1) := by decide +kernel
theorem dL_law_381 : decode cL_law 381 = .ok (.iadd, 1) := by decide +kernel
theorem dL_law_382 : decode cL_law 382 = .ok (.iaload, 1) := by decide +kernel
theorem dL_law_383 : decode cL_law 383 = .ok (.invokevirtual 51, 3) := by decide +kernel
theorem dL_law_386 : decode cL_law 386 = .ok (.if_icmp .eq 486, 3) := by decide +kernel
theorem dL_law_389 : decode cL_law 389 = .ok (.iconst 0, 1) := by decide +kernel
theorem dL_law_390 : decode cL_law 390 = .ok (.ireturn, 1) := by decide +kernel
theorem dL_law_391 : decode cL_law 391 = .ok (.aload_n 1, 1) := by decide +kernel
theorem dL_law_392 : decode cL_law 392 = .ok (.aload_n 0, 1) := by decide +kernel
theorem dL_law_393 : decode cL_law 393 = .ok (.iload_n 3, 1) := by decide +kernel
theorem dL_law_394 : decode cL_law 394 = .ok (.iconst 1, 1) := by decide +kernel
theorem dL_law_395 : decode cL_law 395 = .ok (.iadd, 1) := by decide +kernel
theorem dL_law_396 : decode cL_law 396 = .ok (.iaload, 1) := by decide +kernel
theorem dL_law_397 : decode cL_law 397 = .ok (.invokevirtual 52, 3) := by decide +kernel
theorem dL_law_400 : decode cL_law 400 = .ok (.aload_n 2, 1) := by decide +kernel
theorem dL_law_401 : decode cL_law 401 = .ok (.aload_n 0, 1) := by decide +kernel
theorem dL_law_402 : decode cL_law 402 = .ok (.iload_n 3, 1) := by decide +kernel
theorem dL_law_403 : decode cL_law 403 = .ok (.iconst 1, 1) := by decide +kernel
theorem dL_law_404 : decode cL_law 404 = .ok (.iadd, 1) := by decide +kernel
theorem dL_law_405 : decode cL_law 405 = .ok (.iaload, 1) := by decide +kernel
theorem dL_law_406 : decode cL_law 406 = .ok (.invokevirtual 55, 3) := by decide +kernel
theorem dL_law_409 : decode cL_law 409 = .ok (.if_icmp .eq 463, 3) := by decide +kernel
theorem dL_law_412 : decode cL_law 412 = .ok (.iconst 0, 1) := by decide +kernel
theorem dL_law_413 : decode cL_law 413 = .ok (.ireturn, 1) := by decide +kernel
theorem dL_law_414 : decode cL_law 414 = .ok (.aload_n 1, 1) := by decide +kernel
theorem dL_law_415 : decode cL_law 415 = .ok (.aload_n 0, 1) := by decide +kernel
theorem dL_law_416 : decode cL_law 416 = .ok (.iload_n 3, 1) := by decide +kernel
theorem dL_law_417 : decode cL_law 417 = .ok (.iconst 1, 1) := by decide +kernel
theorem dL_law_418 : decode cL_law 418 = .ok (.iadd, 1) := by decide +kernel
theorem dL_law_419 : decode cL_law 419 = .ok (.iaload, 1) := by decide +kernel
theorem dL_law_420 : decode cL_law 420 = .ok (.invokevirtual 56, 3) := by decide +kernel
theorem dL_law_423 : decode cL_law 423 = .ok (.aload_n 2, 1) := by decide +kernel
theorem dL_law_424 : decode cL_law 424 = .ok (.aload_n 0, 1) := by decide +kernel
theorem dL_law_425 : decode cL_law 425 = .ok (.iload_n 3, 1) := by decide +kernel
theorem dL_law_426 : decode cL_law 426 = .ok (.iconst 1, 1) := by decide +kernel
theorem dL_law_427 : decode cL_law 427 = .ok (.iadd, 1) := by decide +kernel
theorem dL_law_428 : decode cL_law 428 = .ok (.iaload, 1) := by decide +kernel
theorem dL_law_429 : decode cL_law 429 = .ok (.invokevirtual 59, 3) := by decide +kernel
theorem dL_law_432 : decode cL_law 432 = .ok (.if_icmp .eq 440, 3) := by decide +kernel
theorem dL_law_435 : decode cL_law 435 = .ok (.iconst 0, 1) := by decide +kernel
theorem dL_law_436 : decode cL_law 436 = .ok (.ireturn, 1) := by decide +kernel
theorem dL_law_437 : decode cL_law 437 = .ok (.aload_n 1, 1) := by decide +kernel
theorem dL_law_438 : decode cL_law 438 = .ok (.invokevirtual 60, 3) := by decide +kernel
theorem dL_law_441 : decode cL_law 441 = .ok (.aload_n 2, 1) := by decide +kernel
theorem dL_law_442 : decode cL_law 442 = .ok (.invokevirtual 63, 3) := by decide +kernel
theorem dL_law_445 : decode cL_law 445 = .ok (.if_icmp .eq 427, 3) := by decide +kernel
theorem dL_law_448 : decode cL_law 448 = .ok (.iconst 0, 1) := by decide +kernel
theorem dL_law_449 : decode cL_law 449 = .ok (.ireturn, 1) := by decide +kernel
theorem dL_law_450 : decode cL_law 450 = .ok (.aload_n 1, 1) := by decide +kernel
theorem dL_law_451 : decode cL_law 451 = .ok (.invokevirtual 64, 3) := by decide +kernel
theorem dL_law_454 : decode cL_law 454 = .ok (.aload_n 2, 1) := by decide +kernel
theorem dL_law_455 : decode cL_law 455 = .ok (.invokevirtual 67, 3) := by decide +kernel
theorem dL_law_458 : decode cL_law 458 = .ok (.if_icmp .eq 414, 3) := by decide +kernel
theorem dL_law_461 : decode cL_law 461 = .ok (.iconst 0, 1) := by decide +kernel
theorem dL_law_462 : decode cL_law 462 = .ok (.ireturn, 1) := by decide +kernel
theorem dL_law_463 : decode cL_law 463 = .ok (.aload_n 1, 1) := by decide +kernel
theorem dL_law_464 : decode cL_law 464 = .ok (.aload_n 0, 1) := by decide +kernel
theorem dL_law_465 : decode cL_law 465 = .ok (.iload_n 3, 1) := by decide +kernel
theorem dL_law_466 : decode cL_law 466 = .ok (.iconst 1, 1) := by decide +kernel
theorem dL_law_467 : decode cL_law 467 = .ok (.iadd, 1) := by decide +kernel
theorem dL_law_468 : decode cL_law 468 = .ok (.iaload, 1) := by decide +kernel
theorem dL_law_469 : decode cL_law 469 = .ok (.aload_n 0, 1) := by decide +kernel
theorem dL_law_470 : decode cL_law 470 = .ok (.iload_n 3, 1) := by decide +kernel
theorem dL_law_471 : decode cL_law 471 = .ok (.iconst 2, 1) := by decide +kernel
theorem dL_law_472 : decode cL_law 472 = .ok (.iadd, 1) := by decide +kernel
theorem dL_law_473 : decode cL_law 473 = .ok (.iaload, 1) := by decide +kernel
theorem dL_law_474 : decode cL_law 474 = .ok (.invokevirtual 68, 3) := by decide +kernel
theorem dL_law_477 : decode cL_law 477 = .ok (.aload_n 2, 1) := by decide +kernel
theorem dL_law_478 : decode cL_law 478 = .ok (.aload_n 0, 1) := by decide +kernel
theorem dL_law_479 : decode cL_law 479 = .ok (.iload_n 3, 1) := by decide +kernel
theorem dL_law_480 : decode cL_law 480 = .ok (.iconst 1, 1) := by decide +kernel
theorem dL_law_481 : decode cL_law 481 = .ok (.iadd, 1) := by decide +kernel
theorem dL_law_482 : decode cL_law 482 = .ok (.iaload, 1) := by decide +kernel
theorem dL_law_483 : decode cL_law 483 = .ok (.aload_n 0, 1) := by decide +kernel
theorem dL_law_484 : decode cL_law 484 = .ok (.iload_n 3, 1) := by decide +kernel
theorem dL_law_485 : decode cL_law 485 = .ok (.iconst 2, 1) := by decide +kernel
theorem dL_law_486 : decode cL_law 486 = .ok (.iadd, 1) := by decide +kernel
theorem dL_law_487 : decode cL_law 487 = .ok (.iaload, 1) := by decide +kernel
theorem dL_law_488 : decode cL_law 488 = .ok (.invokevirtual 71, 3) := by decide +kernel
theorem dL_law_491 : decode cL_law 491 = .ok (.if_icmp .eq 381, 3) := by decide +kernel
theorem dL_law_494 : decode cL_law 494 = .ok (.iconst 0, 1) := by decide +kernel
theorem dL_law_495 : decode cL_law 495 = .ok (.ireturn, 1) := by decide +kernel
theorem dL_law_496 : decode cL_law 496 = .ok (.aload_n 1, 1) := by decide +kernel
theorem dL_law_497 : decode cL_law 497 = .ok (.aload_n 0, 1) := by decide +kernel
theorem dL_law_498 : decode cL_law 498 = .ok (.iload_n 3, 1) := by decide +kernel
theorem dL_law_499 : decode cL_law 499 = .ok (.iconst 1, 1) := by decide +kernel
theorem dL_law_500 : decode cL_law 500 = .ok (.iadd, 1) := by decide +kernel
theorem dL_law_501 : decode cL_law 501 = .ok (.iaload, 1) := by decide +kernel
theorem dL_law_502 : decode cL_law 502 = .ok (.aload_n 0, 1) := by decide +kernel
theorem dL_law_503 : decode cL_law 503 = .ok (.iload_n 3, 1) := by decide +kernel
theorem dL_law_504 : decode cL_law 504 = .ok (.iconst 2, 1) := by decide +kernel
theorem dL_law_505 : decode cL_law 505 = .ok (.iadd, 1) := by decide +kernel
theorem dL_law_506 : decode cL_law 506 = .ok (.iaload, 1) := by decide +kernel
theorem dL_law_507 : decode cL_law 507 = .ok (.aload_n 0, 1) := by decide +kernel
theorem dL_law_508 : decode cL_law 508 = .ok (.iload_n 3, 1) := by decide +kernel
theorem dL_law_509 : decode cL_law 509 = .ok (.iconst 3, 1) := by decide +kernel
theorem dL_law_510 : decode cL_law 510 = .ok (.iadd, 1) := by decide +kernel
theorem dL_law_511 : decode cL_law 511 = .ok (.iaload, 1) := by decide +kernel
theorem dL_law_512 : decode cL_law 512 = .ok (.invokevirtual 72, 3) := by decide +kernel
theorem dL_law_515 : decode cL_law 515 = .ok (.aload_n 2, 1) := by decide +kernel
theorem dL_law_516 : decode cL_law 516 = .ok (.aload_n 0, 1) := by decide +kernel
theorem dL_law_517 : decode cL_law 517 = .ok (.iload_n 3, 1) := by decide +kernel
theorem dL_law_518 : decode cL_law 518 = .ok (.iconst 1, 1) := by decide +kernel
theorem dL_law_519 : decode cL_law 519 = .ok (.iadd, 1) := by decide +kernel
theorem dL_law_520 : decode cL_law 520 = .ok (.iaload, 1) := by decide +kernel
theorem dL_law_521 : decode cL_law 521 = .ok (.aload_n 0, 1) := by decide +kernel
theorem dL_law_522 : decode cL_law 522 = .ok (.iload_n 3, 1) := by decide +kernel
theorem dL_law_523 : decode cL_law 523 = .ok (.iconst 2, 1) := by decide +kernel
theorem dL_law_524 : decode cL_law 524 = .ok (.iadd, 1) := by decide +kernel
theorem dL_law_525 : decode cL_law 525 = .ok (.iaload, 1) := by decide +kernel
theorem dL_law_526 : decode cL_law 526 = .ok (.aload_n 0, 1) := by decide +kernel
theorem dL_law_527 : decode cL_law 527 = .ok (.iload_n 3, 1) := by decide +kernel
theorem dL_law_528 : decode cL_law 528 = .ok (.iconst 3, 1) := by decide +kernel
theorem dL_law_529 : decode cL_law 529 = .ok (.iadd, 1) := by decide +kernel
theorem dL_law_530 : decode cL_law 530 = .ok (.iaload, 1) := by decide +kernel
theorem dL_law_531 : decode cL_law 531 = .ok (.invokevirtual 76, 3) := by decide +kernel
theorem dL_law_534 : decode cL_law 534 = .ok (.if_icmp .eq 338, 3) := by decide +kernel
theorem dL_law_537 : decode cL_law 537 = .ok (.iconst 0, 1) := by decide +kernel
theorem dL_law_538 : decode cL_law 538 = .ok (.ireturn, 1) := by decide +kernel
theorem dL_law_539 : decode cL_law 539 = .ok (.aload_n 1, 1) := by decide +kernel
theorem dL_law_540 : decode cL_law 540 = .ok (.aload_n 0, 1) := by decide +kernel
theorem dL_law_541 : decode cL_law 541 = .ok (.iload_n 3, 1) := by decide +kernel
theorem dL_law_542 : decode cL_law 542 = .ok (.iconst 1, 1) := by decide +kernel
theorem dL_law_543 : decode cL_law 543 = .ok (.iadd, 1) := by decide +kernel
theorem dL_law_544 : decode cL_law 544 = .ok (.iaload, 1) := by decide +kernel
theorem dL_law_545 : decode cL_law 545 = .ok (.aload_n 0, 1) := by decide +kernel
theorem dL_law_546 : decode cL_law 546 = .ok (.iload_n 3, 1) := by decide +kernel
theorem dL_law_547 : decode cL_law 547 = .ok (.iconst 2, 1) := by decide +kernel
theorem dL_law_548 : decode cL_law 548 = .ok (.iadd, 1) := by decide +kernel
theorem dL_law_549 : decode cL_law 549 = .ok (.iaload, 1) := by decide +kernel
theorem dL_law_550 : decode cL_law 550 = .ok (.invokevirtual 77, 3) := by decide +kernel
theorem dL_law_553 : decode cL_law 553 = .ok (.aload_n 2, 1) := by decide +kernel
theorem dL_law_554 : decode cL_law 554 = .ok (.aload_n 0, 1) := by decide +kernel
theorem dL_law_555 : decode cL_law 555 = .ok (.iload_n 3, 1) := by decide +kernel
theorem dL_law_556 : decode cL_law 556 = .ok (.iconst 1, 1) := by decide +kernel
theorem dL_law_557 : decode cL_law 557 = .ok (.iadd, 1) := by decide +kernel
theorem dL_law_558 : decode cL_law 558 = .ok (.iaload, 1) := by decide +kernel
theorem dL_law_559 : decode cL_law 559 = .ok (.aload_n 0, 1) := by decide +kernel
theorem dL_law_560 : decode cL_law 560 = .ok (.iload_n 3, 1) := by decide +kernel
theorem dL_law_561 : decode cL_law 561 = .ok (.iconst 2, 1) := by decide +kernel
theorem dL_law_562 : decode cL_law 562 = .ok (.iadd, 1) := by decide +kernel
theorem dL_law_563 : decode cL_law 563 = .ok (.iaload, 1) := by decide +kernel
theorem dL_law_564 : decode cL_law 564 = .ok (.invokevirtual 80, 3) := by decide +kernel
theorem dL_law_567 : decode cL_law 567 = .ok (.if_icmp .eq 305, 3) := by decide +kernel
theorem dL_law_570 : decode cL_law 570 = .ok (.iconst 0, 1) := by decide +kernel
theorem dL_law_571 : decode cL_law 571 = .ok (.ireturn, 1) := by decide +kernel
theorem dL_law_572 : decode cL_law 572 = .ok (.aload_n 1, 1) := by decide +kernel
theorem dL_law_573 : decode cL_law 573 = .ok (.aload_n 0, 1) := by decide +kernel
theorem dL_law_574 : decode cL_law 574 = .ok (.iload_n 3, 1) := by decide +kernel
theorem dL_law_575 : decode cL_law 575 = .ok (.iconst 1, 1) := by decide +kernel
theorem dL_law_576 : decode cL_law 576 = .ok (.iadd, 1) := by decide +kernel
theorem dL_law_577 : decode cL_law 577 = .ok (.iaload, 1) := by decide +kernel
theorem dL_law_578 : decode cL_law 578 = .ok (.invokevirtual 81, 3) := by decide +kernel
theorem dL_law_581 : decode cL_law 581 = .ok (.aload_n 2, 1) := by decide +kernel
theorem dL_law_582 : decode cL_law 582 = .ok (.aload_n 0, 1) := by decide +kernel
theorem dL_law_583 : decode cL_law 583 = .ok (.iload_n 3, 1) := by decide +kernel
theorem dL_law_584 : decode cL_law 584 = .ok (.iconst 1, 1) := by decide +kernel
theorem dL_law_585 : decode cL_law 585 = .ok (.iadd, 1) := by decide +kernel
theorem dL_law_586 : decode cL_law 586 = .ok (.iaload, 1) := by decide +kernel
theorem dL_law_587 : decode cL_law 587 = .ok (.invokevirtual 84, 3) := by decide +kernel
theorem dL_law_590 : decode cL_law 590 = .ok (.if_icmp .eq 282, 3) := by decide +kernel
theorem dL_law_593 : decode cL_law 593 = .ok (.iconst 0, 1) := by decide +kernel
theorem dL_law_594 : decode cL_law 594 = .ok (.ireturn, 1) := by decide +kernel
theorem dL_law_595 : decode cL_law 595 = .ok (.aload_n 1, 1) := by decide +kernel
theorem dL_law_596 : decode cL_law 596 = .ok (.invokevirtual 85, 3) := by decide +kernel
theorem dL_law_599 : decode cL_law 599 = .ok (.aload_n 2, 1) := by decide +kernel
theorem dL_law_600 : decode cL_law 600 = .ok (.invokevirtual 88, 3) := by decide +kernel
theorem dL_law_603 : decode cL_law 603 = .ok (.if_icmp .eq 269, 3) := by decide +kernel
theorem dL_law_606 : decode cL_law 606 = .ok (.iconst 0, 1) := by decide +kernel
theorem dL_law_607 : decode cL_law 607 = .ok (.ireturn, 1) := by decide +kernel
theorem dL_law_608 : decode cL_law 608 = .ok (.aload_n 1, 1) := by decide +kernel
theorem dL_law_609 : decode cL_law 609 = .ok (.invokevirtual 89, 3) := by decide +kernel
theorem dL_law_612 : decode cL_law 612 = .ok (.aload_n 2, 1) := by decide +kernel
theorem dL_law_613 : decode cL_law 613 = .ok (.invokevirtual 92, 3) := by decide +kernel
theorem dL_law_616 : decode cL_law 616 = .ok (.if_icmp .eq 256, 3) := by decide +kernel
theorem dL_law_619 : decode cL_law 619 = .ok (.iconst 0, 1) := by decide +kernel
theorem dL_law_620 : decode cL_law 620 = .ok (.ireturn, 1) := by decide +kernel
theorem dL_law_621 : decode cL_law 621 = .ok (.aload_n 1, 1) := by decide +kernel
theorem dL_law_622 : decode cL_law 622 = .ok (.invokevirtual 93, 3) := by decide +kernel
theorem dL_law_625 : decode cL_law 625 = .ok (.aload_n 2, 1) := by decide +kernel
theorem dL_law_626 : decode cL_law 626 = .ok (.invokevirtual 96, 3) := by decide +kernel
theorem dL_law_629 : decode cL_law 629 = .ok (.if_icmp .eq 243, 3) := by decide +kernel
theorem dL_law_632 : decode cL_law 632 = .ok (.iconst 0, 1) := by decide +kernel
theorem dL_law_633 : decode cL_law 633 = .ok (.ireturn, 1) := by decide +kernel
theorem dL_law_634 : decode cL_law 634 = .ok (.aload_n 1, 1) := by decide +kernel
theorem dL_law_635 : decode cL_law 635 = .ok (.aload_n 0, 1) := by decide +kernel
theorem dL_law_636 : decode cL_law 636 = .ok (.iload_n 3, 1) := by decide +kernel
theorem dL_law_637 : decode cL_law 637 = .ok (.iconst 1, 1) := by decide +kernel
theorem dL_law_638 : decode cL_law 638 = .ok (.iadd, 1) := by decide +kernel
theorem dL_law_639 : decode cL_law 639 = .ok (.iaload, 1) := by decide +kernel
theorem dL_law_640 : decode cL_law 640 = .ok (.invokevirtual 97, 3) := by decide +kernel
theorem dL_law_643 : decode cL_law 643 = .ok (.aload_n 2, 1) := by decide +kernel
theorem dL_law_644 : decode cL_law 644 = .ok (.aload_n 0, 1) := by decide +kernel
theorem dL_law_645 : decode cL_law 645 = .ok (.iload_n 3, 1) := by decide +kernel
theorem dL_law_646 : decode cL_law 646 = .ok (.iconst 1, 1) := by decide +kernel
theorem dL_law_647 : decode cL_law 647 = .ok (.iadd, 1) := by decide +kernel
theorem dL_law_648 : decode cL_law 648 = .ok (.iaload, 1) := by decide +kernel
theorem dL_law_649 : decode cL_law 649 = .ok (.invokevirtual 100, 3) := by decide +kernel
theorem dL_law_652 : decode cL_law 652 = .ok (.if_icmp .eq 220, 3) := by decide +kernel
theorem dL_law_655 : decode cL_law 655 = .ok (.iconst 0, 1) := by decide +kernel
theorem dL_law_656 : decode cL_law 656 = .ok (.ireturn, 1) := by decide +kernel
theorem dL_law_657 : decode cL_law 657 = .ok (.aload_n 1, 1) := by decide +kernel
theorem dL_law_658 : decode cL_law 658 = .ok (.aload_n 0, 1) := by decide +kernel
theorem dL_law_659 : decode cL_law 659 = .ok (.iload_n 3, 1) := by decide +kernel
theorem dL_law_660 : decode cL_law 660 = .ok (.iconst 1, 1) := by decide +kernel
theorem dL_law_661 : decode cL_law 661 = .ok (.iadd, 1) := by decide +kernel
theorem dL_law_662 : decode cL_law 662 = .ok (.iaload, 1) := by decide +kernel
theorem dL_law_663 : decode cL_law 663 = .ok (.invokevirtual 101, 3) := by decide +kernel
theorem dL_law_666 : decode cL_law 666 = .ok (.aload_n 2, 1) := by decide +kernel
theorem dL_law_667 : decode cL_law 667 = .ok (.aload_n 0, 1) := by decide +kernel
theorem dL_law_668 : decode cL_law 668 = .ok (.iload_n 3, 1) := by decide +kernel
theorem dL_law_669 : decode cL_law 669 = .ok (.iconst 1, 1) := by decide +kernel
theorem dL_law_670 : decode cL_law 670 = .ok (.iadd, 1) := by decide +kernel
theorem dL_law_671 : decode cL_law 671 = .ok (.iaload, 1) := by decide +kernel
theorem dL_law_672 : decode cL_law 672 = .ok (.invokevirtual 104, 3) := by decide +kernel
theorem dL_law_675 : decode cL_law 675 = .ok (.if_icmp .eq 197, 3) := by decide +kernel
theorem dL_law_678 : decode cL_law 678 = .ok (.iconst 0, 1) := by decide +kernel
theorem dL_law_679 : decode cL_law 679 = .ok (.ireturn, 1) := by decide +kernel
theorem dL_law_680 : decode cL_law 680 = .ok (.aload_n 1, 1) := by decide +kernel
theorem dL_law_681 : decode cL_law 681 = .ok (.aload_n 0, 1) := by decide +kernel
theorem dL_law_682 : decode cL_law 682 = .ok (.iload_n 3, 1) := by decide +kernel
theorem dL_law_683 : decode cL_law 683 = .ok (.iconst 1, 1) := by decide +kernel
theorem dL_law_684 : decode cL_law 684 = .ok (.iadd, 1) := by decide +kernel
theorem dL_law_685 : decode cL_law 685 = .ok (.iaload, 1) := by decide +kernel
theorem dL_law_686 : decode cL_law 686 = .ok (.invokevirtual 105, 3) := by decide +kernel
theorem dL_law_689 : decode cL_law 689 = .ok (.aload_n 2, 1) := by decide +kernel
theorem dL_law_690 : decode cL_law 690 = .ok (.aload_n 0, 1) := by decide +kernel
theorem dL_law_691 : decode cL_law 691 = .ok (.iload_n 3, 1) := by decide +kernel
theorem dL_law_692 : decode cL_law 692 = .ok (.iconst 1, 1) := by decide +kernel
theorem dL_law_693 : decode cL_law 693 = .ok (.iadd, 1) := by decide +kernel
theorem dL_law_694 : decode cL_law 694 = .ok (.iaload, 1) := by decide +kernel
theorem dL_law_695 : decode cL_law 695 = .ok (.invokevirtual 108, 3) := by decide +kernel
theorem dL_law_698 : decode cL_law 698 = .ok (.if_icmp .eq 174, 3) := by decide +kernel
theorem dL_law_701 : decode cL_law 701 = .ok (.iconst 0, 1) := by decide +kernel
theorem dL_law_702 : decode cL_law 702 = .ok (.ireturn, 1) := by decide +kernel
theorem dL_law_703 : decode cL_law 703 = .ok (.aload_n 1, 1) := by decide +kernel
theorem dL_law_704 : decode cL_law 704 = .ok (.aload_n 0, 1) := by decide +kernel
theorem dL_law_705 : decode cL_law 705 = .ok (.iload_n 3, 1) := by decide +kernel
theorem dL_law_706 : decode cL_law 706 = .ok (.iconst 1, 1) := by decide +kernel
theorem dL_law_707 : decode cL_law 707 = .ok (.iadd, 1) := by decide +kernel
theorem dL_law_708 : decode cL_law 708 = .ok (.iaload, 1) := by decide +kernel
theorem dL_law_709 : decode cL_law 709 = .ok (.aload_n 0, 1) := by decide +kernel
theorem dL_law_710 : decode cL_law 710 = .ok (.iload_n 3, 1) := by decide +kernel
theorem dL_law_711 : decode cL_law 711 = .ok (.iconst 2, 1) := by decide +kernel
theorem dL_law_712 : decode cL_law 712 = .ok (.iadd, 1) := by decide +kernel
theorem dL_law_713 : decode cL_law 713 = .ok (.iaload, 1) := by decide +kernel
theorem dL_law_714 : decode cL_law 714 = .ok (.aload_n 0, 1) := by decide +kernel
theorem dL_law_715 : decode cL_law 715 = .ok (.iload_n 3, 1) := by decide +kernel
theorem dL_law_716 : decode cL_law 716 = .ok (.iconst 3, 1) := by decide +kernel
theorem dL_law_717 : decode cL_law 717 = .ok (.iadd, 1) := by decide +kernel
theorem dL_law_718 : decode cL_law 718 = .ok (.iaload, 1) := by decide +kernel
theorem dL_law_719 : decode cL_law 719 = .ok (.aload_n 0, 1) := by decide +kernel
theorem dL_law_720 : decode cL_law 720 = .ok (.iload_n 3, 1) := by decide +kernel
theorem dL_law_721 : decode cL_law 721 = .ok (.iconst 4, 1) := by decide +kernel
theorem dL_law_722 : decode cL_law 722 = .ok (.iadd, 1) := by decide +kernel
theorem dL_law_723 : decode cL_law 723 = .ok (.iaload, 1) := by decide +kernel
theorem dL_law_724 : decode cL_law 724 = .ok (.invokevirtual 109, 3) := by decide +kernel
theorem dL_law_727 : decode cL_law 727 = .ok (.aload_n 2, 1) := by decide +kernel
theorem dL_law_728 : decode cL_law 728 = .ok (.aload_n 0, 1) := by decide +kernel
theorem dL_law_729 : decode cL_law 729 = .ok (.iload_n 3, 1) := by decide +kernel
theorem dL_law_730 : decode cL_law 730 = .ok (.iconst 1, 1) := by decide +kernel
theorem dL_law_731 : decode cL_law 731 = .ok (.iadd, 1) := by decide +kernel
theorem dL_law_732 : decode cL_law 732 = .ok (.iaload, 1) := by decide +kernel
theorem dL_law_733 : decode cL_law 733 = .ok (.aload_n 0, 1) := by decide +kernel
theorem dL_law_734 : decode cL_law 734 = .ok (.iload_n 3, 1) := by decide +kernel
theorem dL_law_735 : decode cL_law 735 = .ok (.iconst 2, 1) := by decide +kernel
theorem dL_law_736 : decode cL_law 736 = .ok (.iadd, 1) := by decide +kernel
theorem dL_law_737 : decode cL_law 737 = .ok (.iaload, 1) := by decide +kernel
theorem dL_law_738 : decode cL_law 738 = .ok (.aload_n 0, 1) := by decide +kernel
theorem dL_law_739 : decode cL_law 739 = .ok (.iload_n 3, 1) := by decide +kernel
theorem dL_law_740 : decode cL_law 740 = .ok (.iconst 3, 1) := by decide +kernel
theorem dL_law_741 : decode cL_law 741 = .ok (.iadd, 1) := by decide +kernel
theorem dL_law_742 : decode cL_law 742 = .ok (.iaload, 1) := by decide +kernel
theorem dL_law_743 : decode cL_law 743 = .ok (.aload_n 0, 1) := by decide +kernel
theorem dL_law_744 : decode cL_law 744 = .ok (.iload_n 3, 1) := by decide +kernel
theorem dL_law_745 : decode cL_law 745 = .ok (.iconst 4, 1) := by decide +kernel
theorem dL_law_746 : decode cL_law 746 = .ok (.iadd, 1) := by decide +kernel
theorem dL_law_747 : decode cL_law 747 = .ok (.iaload, 1) := by decide +kernel
theorem dL_law_748 : decode cL_law 748 = .ok (.invokevirtual 113, 3) := by decide +kernel
theorem dL_law_751 : decode cL_law 751 = .ok (.if_icmp .eq 121, 3) := by decide +kernel
theorem dL_law_754 : decode cL_law 754 = .ok (.iconst 0, 1) := by decide +kernel
theorem dL_law_755 : decode cL_law 755 = .ok (.ireturn, 1) := by decide +kernel
theorem dL_law_756 : decode cL_law 756 = .ok (.aload_n 1, 1) := by decide +kernel
theorem dL_law_757 : decode cL_law 757 = .ok (.aload_n 0, 1) := by decide +kernel
theorem dL_law_758 : decode cL_law 758 = .ok (.iload_n 3, 1) := by decide +kernel
theorem dL_law_759 : decode cL_law 759 = .ok (.iconst 1, 1) := by decide +kernel
theorem dL_law_760 : decode cL_law 760 = .ok (.iadd, 1) := by decide +kernel
theorem dL_law_761 : decode cL_law 761 = .ok (.iaload, 1) := by decide +kernel
theorem dL_law_762 : decode cL_law 762 = .ok (.aload_n 0, 1) := by decide +kernel
theorem dL_law_763 : decode cL_law 763 = .ok (.iload_n 3, 1) := by decide +kernel
theorem dL_law_764 : decode cL_law 764 = .ok (.iconst 2, 1) := by decide +kernel
theorem dL_law_765 : decode cL_law 765 = .ok (.iadd, 1) := by decide +kernel
theorem dL_law_766 : decode cL_law 766 = .ok (.iaload, 1) := by decide +kernel
theorem dL_law_767 : decode cL_law 767 = .ok (.invokevirtual 114, 3) := by decide +kernel
theorem dL_law_770 : decode cL_law 770 = .ok (.aload_n 2, 1) := by decide +kernel
theorem dL_law_771 : decode cL_law 771 = .ok (.aload_n 0, 1) := by decide +kernel
theorem dL_law_772 : decode cL_law 772 = .ok (.iload_n 3, 1) := by decide +kernel
theorem dL_law_773 : decode cL_law 773 = .ok (.iconst 1, 1) := by decide +kernel
theorem dL_law_774 : decode cL_law 774 = .ok (.iadd, 1) := by decide +kernel
theorem dL_law_775 : decode cL_law 775 = .ok (.iaload, 1) := by decide +kernel
theorem dL_law_776 : decode cL_law 776 = .ok (.aload_n 0, 1) := by decide +kernel
theorem dL_law_777 : decode cL_law 777 = .ok (.iload_n 3, 1) := by decide +kernel
theorem dL_law_778 : decode cL_law 778 = .ok (.iconst 2, 1) := by decide +kernel
theorem dL_law_779 : decode cL_law 779 = .ok (.iadd, 1) := by decide +kernel
theorem dL_law_780 : decode cL_law 780 = .ok (.iaload, 1) := by decide +kernel
theorem dL_law_781 : decode cL_law 781 = .ok (.invokevirtual 117, 3) := by decide +kernel
theorem dL_law_784 : decode cL_law 784 = .ok (.if_icmp .eq 88, 3) := by decide +kernel
theorem dL_law_787 : decode cL_law 787 = .ok (.iconst 0, 1) := by decide +kernel
theorem dL_law_788 : decode cL_law 788 = .ok (.ireturn, 1) := by decide +kernel
theorem dL_law_789 : decode cL_law 789 = .ok (.aload_n 1, 1) := by decide +kernel
theorem dL_law_790 : decode cL_law 790 = .ok (.aload_n 0, 1) := by decide +kernel
theorem dL_law_791 : decode cL_law 791 = .ok (.iload_n 3, 1) := by decide +kernel
theorem dL_law_792 : decode cL_law 792 = .ok (.iconst 1, 1) := by decide +kernel
theorem dL_law_793 : decode cL_law 793 = .ok (.iadd, 1) := by decide +kernel
theorem dL_law_794 : decode cL_law 794 = .ok (.iaload, 1) := by decide +kernel
theorem dL_law_795 : decode cL_law 795 = .ok (.invokevirtual 118, 3) := by decide +kernel
theorem dL_law_798 : decode cL_law 798 = .ok (.aload_n 2, 1) := by decide +kernel
theorem dL_law_799 : decode cL_law 799 = .ok (.aload_n 0, 1) := by decide +kernel
theorem dL_law_800 : decode cL_law 800 = .ok (.iload_n 3, 1) := by decide +kernel
theorem dL_law_801 : decode cL_law 801 = .ok (.iconst 1, 1) := by decide +kernel
theorem dL_law_802 : decode cL_law 802 = .ok (.iadd, 1) := by decide +kernel
theorem dL_law_803 : decode cL_law 803 = .ok (.iaload, 1) := by decide +kernel
theorem dL_law_804 : decode cL_law 804 = .ok (.invokevirtual 121, 3) := by decide +kernel
theorem dL_law_807 : decode cL_law 807 = .ok (.if_icmp .eq 65, 3) := by decide +kernel
theorem dL_law_810 : decode cL_law 810 = .ok (.iconst 0, 1) := by decide +kernel
theorem dL_law_811 : decode cL_law 811 = .ok (.ireturn, 1) := by decide +kernel
theorem dL_law_812 : decode cL_law 812 = .ok (.aload_n 1, 1) := by decide +kernel
theorem dL_law_813 : decode cL_law 813 = .ok (.aload_n 0, 1) := by decide +kernel
theorem dL_law_814 : decode cL_law 814 = .ok (.iload_n 3, 1) := by decide +kernel
theorem dL_law_815 : decode cL_law 815 = .ok (.iconst 1, 1) := by decide +kernel
theorem dL_law_816 : decode cL_law 816 = .ok (.iadd, 1) := by decide +kernel
theorem dL_law_817 : decode cL_law 817 = .ok (.iaload, 1) := by decide +kernel
theorem dL_law_818 : decode cL_law 818 = .ok (.invokevirtual 122, 3) := by decide +kernel
theorem dL_law_821 : decode cL_law 821 = .ok (.aload_n 2, 1) := by decide +kernel
theorem dL_law_822 : decode cL_law 822 = .ok (.aload_n 0, 1) := by decide +kernel
theorem dL_law_823 : decode cL_law 823 = .ok (.iload_n 3, 1) := by decide +kernel
theorem dL_law_824 : decode cL_law 824 = .ok (.iconst 1, 1) := by decide +kernel
theorem dL_law_825 : decode cL_law 825 = .ok (.iadd, 1) := by decide +kernel
theorem dL_law_826 : decode cL_law 826 = .ok (.iaload, 1) := by decide +kernel
theorem dL_law_827 : decode cL_law 827 = .ok (.invokevirtual 125, 3) := by decide +kernel
theorem dL_law_830 : decode cL_law 830 = .ok (.if_icmp .eq 42, 3) := by decide +kernel
theorem dL_law_833 : decode cL_law 833 = .ok (.iconst 0, 1) := by decide +kernel
theorem dL_law_834 : decode cL_law 834 = .ok (.ireturn, 1) := by decide +kernel
theorem dL_law_835 : decode cL_law 835 = .ok (.aload_n 1, 1) := by decide +kernel
theorem dL_law_836 : decode cL_law 836 = .ok (.aload_n 0, 1) := by decide +kernel
theorem dL_law_837 : decode cL_law 837 = .ok (.iload_n 3, 1) := by decide +kernel
theorem dL_law_838 : decode cL_law 838 = .ok (.iconst 1, 1) := by decide +kernel
theorem dL_law_839 : decode cL_law 839 = .ok (.iadd, 1) := by decide +kernel
theorem dL_law_840 : decode cL_law 840 = .ok (.iaload, 1) := by decide +kernel
theorem dL_law_841 : decode cL_law 841 = .ok (.invokevirtual 126, 3) := by decide +kernel
theorem dL_law_844 : decode cL_law 844 = .ok (.aload_n 2, 1) := by decide +kernel
theorem dL_law_845 : decode cL_law 845 = .ok (.aload_n 0, 1) := by decide +kernel
theorem dL_law_846 : decode cL_law 846 = .ok (.iload_n 3, 1) := by decide +kernel
theorem dL_law_847 : decode cL_law 847 = .ok (.iconst 1, 1) := by decide +kernel
theorem dL_law_848 : decode cL_law 848 = .ok (.iadd, 1) := by decide +kernel
theorem dL_law_849 : decode cL_law 849 = .ok (.iaload, 1) := by decide +kernel
theorem dL_law_850 : decode cL_law 850 = .ok (.invokevirtual 129, 3) := by decide +kernel
theorem dL_law_853 : decode cL_law 853 = .ok (.if_icmp .eq 19, 3) := by decide +kernel
theorem dL_law_856 : decode cL_law 856 = .ok (.iconst 0, 1) := by decide +kernel
theorem dL_law_857 : decode cL_law 857 = .ok (.ireturn, 1) := by decide +kernel
theorem dL_law_858 : decode cL_law 858 = .ok (.aload_n 1, 1) := by decide +kernel
theorem dL_law_859 : decode cL_law 859 = .ok (.invokevirtual 130, 3) := by decide +kernel
theorem dL_law_862 : decode cL_law 862 = .ok (.aload_n 2, 1) := by decide +kernel
theorem dL_law_863 : decode cL_law 863 = .ok (.invokevirtual 134, 3) := by decide +kernel
theorem dL_law_866 : decode cL_law 866 = .ok (.lcmp, 1) := by decide +kernel
theorem dL_law_867 : decode cL_law 867 = .ok (.ifCond .eq 5, 3) := by decide +kernel
theorem dL_law_870 : decode cL_law 870 = .ok (.iconst 0, 1) := by decide +kernel
theorem dL_law_871 : decode cL_law 871 = .ok (.ireturn, 1) := by decide +kernel
theorem dL_law_872 : decode cL_law 872 = .ok (.iinc 3 5, 3) := by decide +kernel
theorem dL_law_875 : decode cL_law 875 = .ok (.goto (-857), 3) := by decide +kernel
theorem dL_law_878 : decode cL_law 878 = .ok (.iconst 1, 1) := by decide +kernel
theorem dL_law_879 : decode cL_law 879 = .ok (.ireturn, 1) := by decide +kernel
