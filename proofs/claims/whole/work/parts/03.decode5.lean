theorem dX5_init_0 : decode cX5_init 0 = .ok (.aload_n 0, 1) := by decide +kernel
theorem dX5_init_1 : decode cX5_init 1 = .ok (.invokespecial 1, 3) := by decide +kernel
theorem dX5_init_4 : decode cX5_init 4 = .ok (.aload_n 0, 1) := by decide +kernel
theorem dX5_init_5 : decode cX5_init 5 = .ok (.new 7, 3) := by decide +kernel
theorem dX5_init_8 : decode cX5_init 8 = .ok (.dup, 1) := by decide +kernel
theorem dX5_init_9 : decode cX5_init 9 = .ok (.invokespecial 9, 3) := by decide +kernel
theorem dX5_init_12 : decode cX5_init 12 = .ok (.putfield 10, 3) := by decide +kernel
theorem dX5_init_15 : decode cX5_init 15 = .ok (.aload_n 0, 1) := by decide +kernel
theorem dX5_init_16 : decode cX5_init 16 = .ok (.new 16, 3) := by decide +kernel
theorem dX5_init_19 : decode cX5_init 19 = .ok (.dup, 1) := by decide +kernel
theorem dX5_init_20 : decode cX5_init 20 = .ok (.invokespecial 18, 3) := by decide +kernel
theorem dX5_init_23 : decode cX5_init 23 = .ok (.putfield 19, 3) := by decide +kernel
theorem dX5_init_26 : decode cX5_init 26 = .ok (.aload_n 0, 1) := by decide +kernel
theorem dX5_init_27 : decode cX5_init 27 = .ok (.new 23, 3) := by decide +kernel
theorem dX5_init_30 : decode cX5_init 30 = .ok (.dup, 1) := by decide +kernel
theorem dX5_init_31 : decode cX5_init 31 = .ok (.invokespecial 25, 3) := by decide +kernel
theorem dX5_init_34 : decode cX5_init 34 = .ok (.putfield 26, 3) := by decide +kernel
theorem dX5_init_37 : decode cX5_init 37 = .ok (.aload_n 0, 1) := by decide +kernel
theorem dX5_init_38 : decode cX5_init 38 = .ok (.new 30, 3) := by decide +kernel
theorem dX5_init_41 : decode cX5_init 41 = .ok (.dup, 1) := by decide +kernel
theorem dX5_init_42 : decode cX5_init 42 = .ok (.invokespecial 32, 3) := by decide +kernel
theorem dX5_init_45 : decode cX5_init 45 = .ok (.putfield 33, 3) := by decide +kernel
theorem dX5_init_48 : decode cX5_init 48 = .ok (.aload_n 0, 1) := by decide +kernel
theorem dX5_init_49 : decode cX5_init 49 = .ok (.iconst 2, 1) := by decide +kernel
theorem dX5_init_50 : decode cX5_init 50 = .ok (.anewarray 23, 3) := by decide +kernel
theorem dX5_init_53 : decode cX5_init 53 = .ok (.putfield 37, 3) := by decide +kernel
theorem dX5_init_56 : decode cX5_init 56 = .ok (.aload_n 0, 1) := by decide +kernel
theorem dX5_init_57 : decode cX5_init 57 = .ok (.iconst 2, 1) := by decide +kernel
theorem dX5_init_58 : decode cX5_init 58 = .ok (.newarray .boolean, 2) := by decide +kernel
theorem dX5_init_60 : decode cX5_init 60 = .ok (.putfield 41, 3) := by decide +kernel
theorem dX5_init_63 : decode cX5_init 63 = .ok (.aload_n 0, 1) := by decide +kernel
theorem dX5_init_64 : decode cX5_init 64 = .ok (.iconst 4, 1) := by decide +kernel
theorem dX5_init_65 : decode cX5_init 65 = .ok (.newarray .int, 2) := by decide +kernel
theorem dX5_init_67 : decode cX5_init 67 = .ok (.putfield 45, 3) := by decide +kernel
theorem dX5_init_70 : decode cX5_init 70 = .ok (.aload_n 0, 1) := by decide +kernel
theorem dX5_init_71 : decode cX5_init 71 = .ok (.bipush 6, 2) := by decide +kernel
theorem dX5_init_73 : decode cX5_init 73 = .ok (.newarray .int, 2) := by decide +kernel
theorem dX5_init_75 : decode cX5_init 75 = .ok (.putfield 49, 3) := by decide +kernel
theorem dX5_init_78 : decode cX5_init 78 = .ok (.aload_n 0, 1) := by decide +kernel
theorem dX5_init_79 : decode cX5_init 79 = .ok (.bipush 10, 2) := by decide +kernel
theorem dX5_init_81 : decode cX5_init 81 = .ok (.newarray .int, 2) := by decide +kernel
theorem dX5_init_83 : decode cX5_init 83 = .ok (.putfield 52, 3) := by decide +kernel
theorem dX5_init_86 : decode cX5_init 86 = .ok (.aload_n 0, 1) := by decide +kernel
theorem dX5_init_87 : decode cX5_init 87 = .ok (.iconst 0, 1) := by decide +kernel
theorem dX5_init_88 : decode cX5_init 88 = .ok (.putfield 55, 3) := by decide +kernel
theorem dX5_init_91 : decode cX5_init 91 = .ok (.aload_n 0, 1) := by decide +kernel
theorem dX5_init_92 : decode cX5_init 92 = .ok (.lconst 0, 1) := by decide +kernel
theorem dX5_init_93 : decode cX5_init 93 = .ok (.putfield 59, 3) := by decide +kernel
theorem dX5_init_96 : decode cX5_init 96 = .ok (.iconst 0, 1) := by decide +kernel
theorem dX5_init_97 : decode cX5_init 97 = .ok (.istore_n 1, 1) := by decide +kernel
theorem dX5_init_98 : decode cX5_init 98 = .ok (.iload_n 1, 1) := by decide +kernel
theorem dX5_init_99 : decode cX5_init 99 = .ok (.iconst 2, 1) := by decide +kernel
theorem dX5_init_100 : decode cX5_init 100 = .ok (.if_icmp .ge 22, 3) := by decide +kernel
theorem dX5_init_103 : decode cX5_init 103 = .ok (.aload_n 0, 1) := by decide +kernel
theorem dX5_init_104 : decode cX5_init 104 = .ok (.getfield 37, 3) := by decide +kernel
theorem dX5_init_107 : decode cX5_init 107 = .ok (.iload_n 1, 1) := by decide +kernel
theorem dX5_init_108 : decode cX5_init 108 = .ok (.new 23, 3) := by decide +kernel
theorem dX5_init_111 : decode cX5_init 111 = .ok (.dup, 1) := by decide +kernel
theorem dX5_init_112 : decode cX5_init 112 = .ok (.invokespecial 25, 3) := by decide +kernel
theorem dX5_init_115 : decode cX5_init 115 = .ok (.aastore, 1) := by decide +kernel
theorem dX5_init_116 : decode cX5_init 116 = .ok (.iinc 1 1, 3) := by decide +kernel
theorem dX5_init_119 : decode cX5_init 119 = .ok (.goto (-21), 3) := by decide +kernel
theorem dX5_init_122 : decode cX5_init 122 = .ok (.return_, 1) := by decide +kernel
theorem dX5_type_0 : decode cX5_type 0 = .ok (.iload_n 1, 1) := by decide +kernel
theorem dX5_type_1 : decode cX5_type 1 = .ok (.ifCond .lt 10, 3) := by decide +kernel
theorem dX5_type_4 : decode cX5_type 4 = .ok (.iload_n 1, 1) := by decide +kernel
theorem dX5_type_5 : decode cX5_type 5 = .ok (.sipush 255, 3) := by decide +kernel
theorem dX5_type_8 : decode cX5_type 8 = .ok (.if_icmp .le 5, 3) := by decide +kernel
theorem dX5_type_11 : decode cX5_type 11 = .ok (.iconst (-1), 1) := by decide +kernel
theorem dX5_type_12 : decode cX5_type 12 = .ok (.ireturn, 1) := by decide +kernel
theorem dX5_type_13 : decode cX5_type 13 = .ok (.aload_n 0, 1) := by decide +kernel
theorem dX5_type_14 : decode cX5_type 14 = .ok (.getfield 10, 3) := by decide +kernel
theorem dX5_type_17 : decode cX5_type 17 = .ok (.getfield 63, 3) := by decide +kernel
theorem dX5_type_20 : decode cX5_type 20 = .ok (.iload_n 1, 1) := by decide +kernel
theorem dX5_type_21 : decode cX5_type 21 = .ok (.invokevirtual 67, 3) := by decide +kernel
theorem dX5_type_24 : decode cX5_type 24 = .ok (.ifCond .eq 16, 3) := by decide +kernel
theorem dX5_type_27 : decode cX5_type 27 = .ok (.aload_n 0, 1) := by decide +kernel
theorem dX5_type_28 : decode cX5_type 28 = .ok (.getfield 10, 3) := by decide +kernel
theorem dX5_type_31 : decode cX5_type 31 = .ok (.getfield 63, 3) := by decide +kernel
theorem dX5_type_34 : decode cX5_type 34 = .ok (.getfield 73, 3) := by decide +kernel
theorem dX5_type_37 : decode cX5_type 37 = .ok (.goto 5, 3) := by decide +kernel
theorem dX5_type_40 : decode cX5_type 40 = .ok (.bipush (-3), 2) := by decide +kernel
theorem dX5_type_42 : decode cX5_type 42 = .ok (.ireturn, 1) := by decide +kernel
theorem dX5_clear_0 : decode cX5_clear 0 = .ok (.aload_n 0, 1) := by decide +kernel
theorem dX5_clear_1 : decode cX5_clear 1 = .ok (.getfield 10, 3) := by decide +kernel
theorem dX5_clear_4 : decode cX5_clear 4 = .ok (.getfield 63, 3) := by decide +kernel
theorem dX5_clear_7 : decode cX5_clear 7 = .ok (.getfield 73, 3) := by decide +kernel
theorem dX5_clear_10 : decode cX5_clear 10 = .ok (.istore_n 1, 1) := by decide +kernel
theorem dX5_clear_11 : decode cX5_clear 11 = .ok (.aload_n 0, 1) := by decide +kernel
theorem dX5_clear_12 : decode cX5_clear 12 = .ok (.getfield 10, 3) := by decide +kernel
theorem dX5_clear_15 : decode cX5_clear 15 = .ok (.getfield 63, 3) := by decide +kernel
theorem dX5_clear_18 : decode cX5_clear 18 = .ok (.iconst 0, 1) := by decide +kernel
theorem dX5_clear_19 : decode cX5_clear 19 = .ok (.putfield 73, 3) := by decide +kernel
theorem dX5_clear_22 : decode cX5_clear 22 = .ok (.iload_n 1, 1) := by decide +kernel
theorem dX5_clear_23 : decode cX5_clear 23 = .ok (.ireturn, 1) := by decide +kernel
theorem dX5_moss_0 : decode cX5_moss 0 = .ok (.aload_n 0, 1) := by decide +kernel
theorem dX5_moss_1 : decode cX5_moss 1 = .ok (.getfield 10, 3) := by decide +kernel
theorem dX5_moss_4 : decode cX5_moss 4 = .ok (.invokevirtual 76, 3) := by decide +kernel
theorem dX5_moss_7 : decode cX5_moss 7 = .ok (.istore_n 1, 1) := by decide +kernel
theorem dX5_moss_8 : decode cX5_moss 8 = .ok (.iload_n 1, 1) := by decide +kernel
theorem dX5_moss_9 : decode cX5_moss 9 = .ok (.ifCond .ge 5, 3) := by decide +kernel
theorem dX5_moss_12 : decode cX5_moss 12 = .ok (.iload_n 1, 1) := by decide +kernel
theorem dX5_moss_13 : decode cX5_moss 13 = .ok (.ireturn, 1) := by decide +kernel
theorem dX5_moss_14 : decode cX5_moss 14 = .ok (.aload_n 0, 1) := by decide +kernel
theorem dX5_moss_15 : decode cX5_moss 15 = .ok (.getfield 19, 3) := by decide +kernel
theorem dX5_moss_18 : decode cX5_moss 18 = .ok (.aload_n 0, 1) := by decide +kernel
theorem dX5_moss_19 : decode cX5_moss 19 = .ok (.getfield 10, 3) := by decide +kernel
theorem dX5_moss_22 : decode cX5_moss 22 = .ok (.getfield 80, 3) := by decide +kernel
theorem dX5_moss_25 : decode cX5_moss 25 = .ok (.invokevirtual 81, 3) := by decide +kernel
theorem dX5_moss_28 : decode cX5_moss 28 = .ok (.aload_n 0, 1) := by decide +kernel
theorem dX5_moss_29 : decode cX5_moss 29 = .ok (.getfield 10, 3) := by decide +kernel
theorem dX5_moss_32 : decode cX5_moss 32 = .ok (.getfield 63, 3) := by decide +kernel
theorem dX5_moss_35 : decode cX5_moss 35 = .ok (.iconst 0, 1) := by decide +kernel
theorem dX5_moss_36 : decode cX5_moss 36 = .ok (.putfield 73, 3) := by decide +kernel
theorem dX5_moss_39 : decode cX5_moss 39 = .ok (.aload_n 0, 1) := by decide +kernel
theorem dX5_moss_40 : decode cX5_moss 40 = .ok (.getfield 26, 3) := by decide +kernel
theorem dX5_moss_43 : decode cX5_moss 43 = .ok (.invokevirtual 85, 3) := by decide +kernel
theorem dX5_moss_46 : decode cX5_moss 46 = .ok (.aload_n 0, 1) := by decide +kernel
theorem dX5_moss_47 : decode cX5_moss 47 = .ok (.getfield 33, 3) := by decide +kernel
theorem dX5_moss_50 : decode cX5_moss 50 = .ok (.invokevirtual 88, 3) := by decide +kernel
theorem dX5_moss_53 : decode cX5_moss 53 = .ok (.aload_n 0, 1) := by decide +kernel
theorem dX5_moss_54 : decode cX5_moss 54 = .ok (.iconst 0, 1) := by decide +kernel
theorem dX5_moss_55 : decode cX5_moss 55 = .ok (.putfield 55, 3) := by decide +kernel
theorem dX5_moss_58 : decode cX5_moss 58 = .ok (.iconst 0, 1) := by decide +kernel
theorem dX5_moss_59 : decode cX5_moss 59 = .ok (.istore_n 2, 1) := by decide +kernel
theorem dX5_moss_60 : decode cX5_moss 60 = .ok (.iload_n 2, 1) := by decide +kernel
theorem dX5_moss_61 : decode cX5_moss 61 = .ok (.iconst 2, 1) := by decide +kernel
theorem dX5_moss_62 : decode cX5_moss 62 = .ok (.if_icmp .ge 16, 3) := by decide +kernel
theorem dX5_moss_65 : decode cX5_moss 65 = .ok (.aload_n 0, 1) := by decide +kernel
theorem dX5_moss_66 : decode cX5_moss 66 = .ok (.getfield 41, 3) := by decide +kernel
theorem dX5_moss_69 : decode cX5_moss 69 = .ok (.iload_n 2, 1) := by decide +kernel
theorem dX5_moss_70 : decode cX5_moss 70 = .ok (.iconst 0, 1) := by decide +kernel
theorem dX5_moss_71 : decode cX5_moss 71 = .ok (.bastore, 1) := by decide +kernel
theorem dX5_moss_72 : decode cX5_moss 72 = .ok (.iinc 2 1, 3) := by decide +kernel
theorem dX5_moss_75 : decode cX5_moss 75 = .ok (.goto (-15), 3) := by decide +kernel
theorem dX5_moss_78 : decode cX5_moss 78 = .ok (.iload_n 1, 1) := by decide +kernel
theorem dX5_moss_79 : decode cX5_moss 79 = .ok (.ireturn, 1) := by decide +kernel
theorem dX5_person_0 : decode cX5_person 0 = .ok (.aload_n 0, 1) := by decide +kernel
theorem dX5_person_1 : decode cX5_person 1 = .ok (.getfield 19, 3) := by decide +kernel
theorem dX5_person_4 : decode cX5_person 4 = .ok (.iload_n 1, 1) := by decide +kernel
theorem dX5_person_5 : decode cX5_person 5 = .ok (.invokevirtual 91, 3) := by decide +kernel
theorem dX5_person_8 : decode cX5_person 8 = .ok (.ifCond .ne 5, 3) := by decide +kernel
theorem dX5_person_11 : decode cX5_person 11 = .ok (.iconst (-1), 1) := by decide +kernel
theorem dX5_person_12 : decode cX5_person 12 = .ok (.ireturn, 1) := by decide +kernel
theorem dX5_person_13 : decode cX5_person 13 = .ok (.iload_n 2, 1) := by decide +kernel
theorem dX5_person_14 : decode cX5_person 14 = .ok (.lookupswitch 46 #[(0, 26), (1, 36)], 26) := by decide +kernel
theorem dX5_person_40 : decode cX5_person 40 = .ok (.aload_n 0, 1) := by decide +kernel
theorem dX5_person_41 : decode cX5_person 41 = .ok (.getfield 19, 3) := by decide +kernel
theorem dX5_person_44 : decode cX5_person 44 = .ok (.getfield 94, 3) := by decide +kernel
theorem dX5_person_47 : decode cX5_person 47 = .ok (.iload_n 1, 1) := by decide +kernel
theorem dX5_person_48 : decode cX5_person 48 = .ok (.iaload, 1) := by decide +kernel
theorem dX5_person_49 : decode cX5_person 49 = .ok (.ireturn, 1) := by decide +kernel
theorem dX5_person_50 : decode cX5_person 50 = .ok (.aload_n 0, 1) := by decide +kernel
theorem dX5_person_51 : decode cX5_person 51 = .ok (.getfield 19, 3) := by decide +kernel
theorem dX5_person_54 : decode cX5_person 54 = .ok (.getfield 97, 3) := by decide +kernel
theorem dX5_person_57 : decode cX5_person 57 = .ok (.iload_n 1, 1) := by decide +kernel
theorem dX5_person_58 : decode cX5_person 58 = .ok (.iaload, 1) := by decide +kernel
theorem dX5_person_59 : decode cX5_person 59 = .ok (.ireturn, 1) := by decide +kernel
theorem dX5_person_60 : decode cX5_person 60 = .ok (.iconst (-1), 1) := by decide +kernel
theorem dX5_person_61 : decode cX5_person 61 = .ok (.ireturn, 1) := by decide +kernel
theorem dX5_promise_0 : decode cX5_promise 0 = .ok (.aload_n 0, 1) := by decide +kernel
theorem dX5_promise_1 : decode cX5_promise 1 = .ok (.getfield 19, 3) := by decide +kernel
theorem dX5_promise_4 : decode cX5_promise 4 = .ok (.iload_n 1, 1) := by decide +kernel
theorem dX5_promise_5 : decode cX5_promise 5 = .ok (.invokevirtual 100, 3) := by decide +kernel
theorem dX5_promise_8 : decode cX5_promise 8 = .ok (.ifCond .ne 5, 3) := by decide +kernel
theorem dX5_promise_11 : decode cX5_promise 11 = .ok (.iconst (-1), 1) := by decide +kernel
theorem dX5_promise_12 : decode cX5_promise 12 = .ok (.ireturn, 1) := by decide +kernel
theorem dX5_promise_13 : decode cX5_promise 13 = .ok (.iload_n 2, 1) := by decide +kernel
theorem dX5_promise_14 : decode cX5_promise 14 = .ok (.tableswitch 126 0 7 #[46, 56, 66, 76, 86, 96, 106, 116], 46) := by decide +kernel
theorem dX5_promise_60 : decode cX5_promise 60 = .ok (.aload_n 0, 1) := by decide +kernel
theorem dX5_promise_61 : decode cX5_promise 61 = .ok (.getfield 19, 3) := by decide +kernel
theorem dX5_promise_64 : decode cX5_promise 64 = .ok (.getfield 103, 3) := by decide +kernel
theorem dX5_promise_67 : decode cX5_promise 67 = .ok (.iload_n 1, 1) := by decide +kernel
theorem dX5_promise_68 : decode cX5_promise 68 = .ok (.iaload, 1) := by decide +kernel
theorem dX5_promise_69 : decode cX5_promise 69 = .ok (.ireturn, 1) := by decide +kernel
theorem dX5_promise_70 : decode cX5_promise 70 = .ok (.aload_n 0, 1) := by decide +kernel
theorem dX5_promise_71 : decode cX5_promise 71 = .ok (.getfield 19, 3) := by decide +kernel
theorem dX5_promise_74 : decode cX5_promise 74 = .ok (.getfield 106, 3) := by decide +kernel
theorem dX5_promise_77 : decode cX5_promise 77 = .ok (.iload_n 1, 1) := by decide +kernel
theorem dX5_promise_78 : decode cX5_promise 78 = .ok (.iaload, 1) := by decide +kernel
theorem dX5_promise_79 : decode cX5_promise 79 = .ok (.ireturn, 1) := by decide +kernel
theorem dX5_promise_80 : decode cX5_promise 80 = .ok (.aload_n 0, 1) := by decide +kernel
theorem dX5_promise_81 : decode cX5_promise 81 = .ok (.getfield 19, 3) := by decide +kernel
theorem dX5_promise_84 : decode cX5_promise 84 = .ok (.getfield 109, 3) := by decide +kernel
theorem dX5_promise_87 : decode cX5_promise 87 = .ok (.iload_n 1, 1) := by decide +kernel
theorem dX5_promise_88 : decode cX5_promise 88 = .ok (.iaload, 1) := by decide +kernel
theorem dX5_promise_89 : decode cX5_promise 89 = .ok (.ireturn, 1) := by decide +kernel
theorem dX5_promise_90 : decode cX5_promise 90 = .ok (.aload_n 0, 1) := by decide +kernel
theorem dX5_promise_91 : decode cX5_promise 91 = .ok (.getfield 19, 3) := by decide +kernel
theorem dX5_promise_94 : decode cX5_promise 94 = .ok (.getfield 112, 3) := by decide +kernel
theorem dX5_promise_97 : decode cX5_promise 97 = .ok (.iload_n 1, 1) := by decide +kernel
theorem dX5_promise_98 : decode cX5_promise 98 = .ok (.iaload, 1) := by decide +kernel
theorem dX5_promise_99 : decode cX5_promise 99 = .ok (.ireturn, 1) := by decide +kernel
theorem dX5_promise_100 : decode cX5_promise 100 = .ok (.aload_n 0, 1) := by decide +kernel
theorem dX5_promise_101 : decode cX5_promise 101 = .ok (.getfield 19, 3) := by decide +kernel
theorem dX5_promise_104 : decode cX5_promise 104 = .ok (.getfield 115, 3) := by decide +kernel
theorem dX5_promise_107 : decode cX5_promise 107 = .ok (.iload_n 1, 1) := by decide +kernel
theorem dX5_promise_108 : decode cX5_promise 108 = .ok (.iaload, 1) := by decide +kernel
theorem dX5_promise_109 : decode cX5_promise 109 = .ok (.ireturn, 1) := by decide +kernel
theorem dX5_promise_110 : decode cX5_promise 110 = .ok (.aload_n 0, 1) := by decide +kernel
theorem dX5_promise_111 : decode cX5_promise 111 = .ok (.getfield 19, 3) := by decide +kernel
theorem dX5_promise_114 : decode cX5_promise 114 = .ok (.getfield 118, 3) := by decide +kernel
theorem dX5_promise_117 : decode cX5_promise 117 = .ok (.iload_n 1, 1) := by decide +kernel
theorem dX5_promise_118 : decode cX5_promise 118 = .ok (.iaload, 1) := by decide +kernel
theorem dX5_promise_119 : decode cX5_promise 119 = .ok (.ireturn, 1) := by decide +kernel
theorem dX5_promise_120 : decode cX5_promise 120 = .ok (.aload_n 0, 1) := by decide +kernel
theorem dX5_promise_121 : decode cX5_promise 121 = .ok (.getfield 19, 3) := by decide +kernel
theorem dX5_promise_124 : decode cX5_promise 124 = .ok (.getfield 121, 3) := by decide +kernel
theorem dX5_promise_127 : decode cX5_promise 127 = .ok (.iload_n 1, 1) := by decide +kernel
theorem dX5_promise_128 : decode cX5_promise 128 = .ok (.iaload, 1) := by decide +kernel
theorem dX5_promise_129 : decode cX5_promise 129 = .ok (.ireturn, 1) := by decide +kernel
theorem dX5_promise_130 : decode cX5_promise 130 = .ok (.aload_n 0, 1) := by decide +kernel
theorem dX5_promise_131 : decode cX5_promise 131 = .ok (.getfield 26, 3) := by decide +kernel
theorem dX5_promise_134 : decode cX5_promise 134 = .ok (.getfield 124, 3) := by decide +kernel
theorem dX5_promise_137 : decode cX5_promise 137 = .ok (.iload_n 1, 1) := by decide +kernel
theorem dX5_promise_138 : decode cX5_promise 138 = .ok (.iaload, 1) := by decide +kernel
theorem dX5_promise_139 : decode cX5_promise 139 = .ok (.ireturn, 1) := by decide +kernel
theorem dX5_promise_140 : decode cX5_promise 140 = .ok (.iconst (-1), 1) := by decide +kernel
theorem dX5_promise_141 : decode cX5_promise 141 = .ok (.ireturn, 1) := by decide +kernel
theorem dX5_word_0 : decode cX5_word 0 = .ok (.aload_n 0, 1) := by decide +kernel
theorem dX5_word_1 : decode cX5_word 1 = .ok (.getfield 19, 3) := by decide +kernel
theorem dX5_word_4 : decode cX5_word 4 = .ok (.iload_n 1, 1) := by decide +kernel
theorem dX5_word_5 : decode cX5_word 5 = .ok (.invokevirtual 100, 3) := by decide +kernel
theorem dX5_word_8 : decode cX5_word 8 = .ok (.ifCond .eq 12, 3) := by decide +kernel
theorem dX5_word_11 : decode cX5_word 11 = .ok (.iload_n 2, 1) := by decide +kernel
theorem dX5_word_12 : decode cX5_word 12 = .ok (.ifCond .lt 8, 3) := by decide +kernel
theorem dX5_word_15 : decode cX5_word 15 = .ok (.iload_n 2, 1) := by decide +kernel
theorem dX5_word_16 : decode cX5_word 16 = .ok (.iconst 4, 1) := by decide +kernel
theorem dX5_word_17 : decode cX5_word 17 = .ok (.if_icmp .lt 5, 3) := by decide +kernel
theorem dX5_word_20 : decode cX5_word 20 = .ok (.iconst (-1), 1) := by decide +kernel
theorem dX5_word_21 : decode cX5_word 21 = .ok (.ireturn, 1) := by decide +kernel
theorem dX5_word_22 : decode cX5_word 22 = .ok (.iload_n 2, 1) := by decide +kernel
theorem dX5_word_23 : decode cX5_word 23 = .ok (.aload_n 0, 1) := by decide +kernel
theorem dX5_word_24 : decode cX5_word 24 = .ok (.iload_n 1, 1) := by decide +kernel
theorem dX5_word_25 : decode cX5_word 25 = .ok (.iconst 0, 1) := by decide +kernel
theorem dX5_word_26 : decode cX5_word 26 = .ok (.invokevirtual 127, 3) := by decide +kernel
theorem dX5_word_29 : decode cX5_word 29 = .ok (.if_icmp .ge 15, 3) := by decide +kernel
theorem dX5_word_32 : decode cX5_word 32 = .ok (.aload_n 0, 1) := by decide +kernel
theorem dX5_word_33 : decode cX5_word 33 = .ok (.getfield 19, 3) := by decide +kernel
theorem dX5_word_36 : decode cX5_word 36 = .ok (.iload_n 1, 1) := by decide +kernel
theorem dX5_word_37 : decode cX5_word 37 = .ok (.iload_n 2, 1) := by decide +kernel
theorem dX5_word_38 : decode cX5_word 38 = .ok (.invokevirtual 131, 3) := by decide +kernel
theorem dX5_word_41 : decode cX5_word 41 = .ok (.goto 5, 3) := by decide +kernel
theorem dX5_word_44 : decode cX5_word 44 = .ok (.bipush (-9), 2) := by decide +kernel
theorem dX5_word_46 : decode cX5_word 46 = .ok (.ireturn, 1) := by decide +kernel
theorem dX5_cell_0 : decode cX5_cell 0 = .ok (.iload_n 1, 1) := by decide +kernel
theorem dX5_cell_1 : decode cX5_cell 1 = .ok (.invokestatic 134, 3) := by decide +kernel
theorem dX5_cell_4 : decode cX5_cell 4 = .ok (.ifCond .ne 5, 3) := by decide +kernel
theorem dX5_cell_7 : decode cX5_cell 7 = .ok (.iconst (-1), 1) := by decide +kernel
theorem dX5_cell_8 : decode cX5_cell 8 = .ok (.ireturn, 1) := by decide +kernel
theorem dX5_cell_9 : decode cX5_cell 9 = .ok (.iload_n 2, 1) := by decide +kernel
theorem dX5_cell_10 : decode cX5_cell 10 = .ok (.tableswitch 62 0 3 #[30, 40, 50, 56], 30) := by decide +kernel
theorem dX5_cell_40 : decode cX5_cell 40 = .ok (.aload_n 0, 1) := by decide +kernel
theorem dX5_cell_41 : decode cX5_cell 41 = .ok (.getfield 26, 3) := by decide +kernel
theorem dX5_cell_44 : decode cX5_cell 44 = .ok (.getfield 137, 3) := by decide +kernel
theorem dX5_cell_47 : decode cX5_cell 47 = .ok (.iload_n 1, 1) := by decide +kernel
theorem dX5_cell_48 : decode cX5_cell 48 = .ok (.iaload, 1) := by decide +kernel
theorem dX5_cell_49 : decode cX5_cell 49 = .ok (.ireturn, 1) := by decide +kernel
theorem dX5_cell_50 : decode cX5_cell 50 = .ok (.aload_n 0, 1) := by decide +kernel
theorem dX5_cell_51 : decode cX5_cell 51 = .ok (.getfield 26, 3) := by decide +kernel
theorem dX5_cell_54 : decode cX5_cell 54 = .ok (.getfield 140, 3) := by decide +kernel
theorem dX5_cell_57 : decode cX5_cell 57 = .ok (.iload_n 1, 1) := by decide +kernel
theorem dX5_cell_58 : decode cX5_cell 58 = .ok (.iaload, 1) := by decide +kernel
theorem dX5_cell_59 : decode cX5_cell 59 = .ok (.ireturn, 1) := by decide +kernel
theorem dX5_cell_60 : decode cX5_cell 60 = .ok (.aload_n 0, 1) := by decide +kernel
theorem dX5_cell_61 : decode cX5_cell 61 = .ok (.iload_n 1, 1) := by decide +kernel
theorem dX5_cell_62 : decode cX5_cell 62 = .ok (.invokevirtual 143, 3) := by decide +kernel
theorem dX5_cell_65 : decode cX5_cell 65 = .ok (.ireturn, 1) := by decide +kernel
theorem dX5_cell_66 : decode cX5_cell 66 = .ok (.aload_n 0, 1) := by decide +kernel
theorem dX5_cell_67 : decode cX5_cell 67 = .ok (.iload_n 1, 1) := by decide +kernel
theorem dX5_cell_68 : decode cX5_cell 68 = .ok (.invokevirtual 147, 3) := by decide +kernel
theorem dX5_cell_71 : decode cX5_cell 71 = .ok (.ireturn, 1) := by decide +kernel
theorem dX5_cell_72 : decode cX5_cell 72 = .ok (.iconst (-1), 1) := by decide +kernel
theorem dX5_cell_73 : decode cX5_cell 73 = .ok (.ireturn, 1) := by decide +kernel
theorem dX5_now_0 : decode cX5_now 0 = .ok (.iload_n 1, 1) := by decide +kernel
theorem dX5_now_1 : decode cX5_now 1 = .ok (.tableswitch 79 0 5 #[39, 47, 53, 59, 65, 71], 39) := by decide +kernel
theorem dX5_now_40 : decode cX5_now 40 = .ok (.aload_n 0, 1) := by decide +kernel
theorem dX5_now_41 : decode cX5_now 41 = .ok (.getfield 26, 3) := by decide +kernel
theorem dX5_now_44 : decode cX5_now 44 = .ok (.getfield 150, 3) := by decide +kernel
theorem dX5_now_47 : decode cX5_now 47 = .ok (.ireturn, 1) := by decide +kernel
theorem dX5_now_48 : decode cX5_now 48 = .ok (.aload_n 0, 1) := by decide +kernel
theorem dX5_now_49 : decode cX5_now 49 = .ok (.iconst 0, 1) := by decide +kernel
theorem dX5_now_50 : decode cX5_now 50 = .ok (.invokevirtual 153, 3) := by decide +kernel
theorem dX5_now_53 : decode cX5_now 53 = .ok (.ireturn, 1) := by decide +kernel
theorem dX5_now_54 : decode cX5_now 54 = .ok (.aload_n 0, 1) := by decide +kernel
theorem dX5_now_55 : decode cX5_now 55 = .ok (.iconst 1, 1) := by decide +kernel
theorem dX5_now_56 : decode cX5_now 56 = .ok (.invokevirtual 153, 3) := by decide +kernel
theorem dX5_now_59 : decode cX5_now 59 = .ok (.ireturn, 1) := by decide +kernel
theorem dX5_now_60 : decode cX5_now 60 = .ok (.aload_n 0, 1) := by decide +kernel
theorem dX5_now_61 : decode cX5_now 61 = .ok (.iconst 2, 1) := by decide +kernel
theorem dX5_now_62 : decode cX5_now 62 = .ok (.invokevirtual 153, 3) := by decide +kernel
theorem dX5_now_65 : decode cX5_now 65 = .ok (.ireturn, 1) := by decide +kernel
theorem dX5_now_66 : decode cX5_now 66 = .ok (.aload_n 0, 1) := by decide +kernel
theorem dX5_now_67 : decode cX5_now 67 = .ok (.iconst 3, 1) := by decide +kernel
theorem dX5_now_68 : decode cX5_now 68 = .ok (.invokevirtual 153, 3) := by decide +kernel
theorem dX5_now_71 : decode cX5_now 71 = .ok (.ireturn, 1) := by decide +kernel
theorem dX5_now_72 : decode cX5_now 72 = .ok (.aload_n 0, 1) := by decide +kernel
theorem dX5_now_73 : decode cX5_now 73 = .ok (.getfield 33, 3) := by decide +kernel
theorem dX5_now_76 : decode cX5_now 76 = .ok (.getfield 156, 3) := by decide +kernel
theorem dX5_now_79 : decode cX5_now 79 = .ok (.ireturn, 1) := by decide +kernel
theorem dX5_now_80 : decode cX5_now 80 = .ok (.iconst (-1), 1) := by decide +kernel
theorem dX5_now_81 : decode cX5_now 81 = .ok (.ireturn, 1) := by decide +kernel
theorem dX5_cuts_0 : decode cX5_cuts 0 = .ok (.iload_n 1, 1) := by decide +kernel
theorem dX5_cuts_1 : decode cX5_cuts 1 = .ok (.invokestatic 134, 3) := by decide +kernel
theorem dX5_cuts_4 : decode cX5_cuts 4 = .ok (.ifCond .ne 5, 3) := by decide +kernel
theorem dX5_cuts_7 : decode cX5_cuts 7 = .ok (.iconst (-1), 1) := by decide +kernel
theorem dX5_cuts_8 : decode cX5_cuts 8 = .ok (.ireturn, 1) := by decide +kernel
theorem dX5_cuts_9 : decode cX5_cuts 9 = .ok (.aload_n 0, 1) := by decide +kernel
theorem dX5_cuts_10 : decode cX5_cuts 10 = .ok (.getfield 26, 3) := by decide +kernel
theorem dX5_cuts_13 : decode cX5_cuts 13 = .ok (.getfield 137, 3) := by decide +kernel
theorem dX5_cuts_16 : decode cX5_cuts 16 = .ok (.iload_n 1, 1) := by decide +kernel
theorem dX5_cuts_17 : decode cX5_cuts 17 = .ok (.iaload, 1) := by decide +kernel
theorem dX5_cuts_18 : decode cX5_cuts 18 = .ok (.bipush 6, 2) := by decide +kernel
theorem dX5_cuts_20 : decode cX5_cuts 20 = .ok (.if_icmp .lt 6, 3) := by decide +kernel
theorem dX5_cuts_23 : decode cX5_cuts 23 = .ok (.bipush (-2), 2) := by decide +kernel
theorem dX5_cuts_25 : decode cX5_cuts 25 = .ok (.ireturn, 1) := by decide +kernel
theorem dX5_cuts_26 : decode cX5_cuts 26 = .ok (.aload_n 0, 1) := by decide +kernel
theorem dX5_cuts_27 : decode cX5_cuts 27 = .ok (.getfield 33, 3) := by decide +kernel
theorem dX5_cuts_30 : decode cX5_cuts 30 = .ok (.aload_n 0, 1) := by decide +kernel
theorem dX5_cuts_31 : decode cX5_cuts 31 = .ok (.getfield 26, 3) := by decide +kernel
theorem dX5_cuts_34 : decode cX5_cuts 34 = .ok (.invokevirtual 159, 3) := by decide +kernel
theorem dX5_cuts_37 : decode cX5_cuts 37 = .ok (.iconst 0, 1) := by decide +kernel
theorem dX5_cuts_38 : decode cX5_cuts 38 = .ok (.istore_n 2, 1) := by decide +kernel
theorem dX5_cuts_39 : decode cX5_cuts 39 = .ok (.iconst 0, 1) := by decide +kernel
theorem dX5_cuts_40 : decode cX5_cuts 40 = .ok (.istore_n 3, 1) := by decide +kernel
theorem dX5_cuts_41 : decode cX5_cuts 41 = .ok (.iload_n 3, 1) := by decide +kernel
theorem dX5_cuts_42 : decode cX5_cuts 42 = .ok (.bipush 8, 2) := by decide +kernel
theorem dX5_cuts_44 : decode cX5_cuts 44 = .ok (.if_icmp .ge 67, 3) := by decide +kernel
theorem dX5_cuts_47 : decode cX5_cuts 47 = .ok (.aload_n 0, 1) := by decide +kernel
theorem dX5_cuts_48 : decode cX5_cuts 48 = .ok (.iload_n 3, 1) := by decide +kernel
theorem dX5_cuts_49 : decode cX5_cuts 49 = .ok (.iload_n 1, 1) := by decide +kernel
theorem dX5_cuts_50 : decode cX5_cuts 50 = .ok (.invokevirtual 163, 3) := by decide +kernel
theorem dX5_cuts_53 : decode cX5_cuts 53 = .ok (.ifCond .eq 52, 3) := by decide +kernel
theorem dX5_cuts_56 : decode cX5_cuts 56 = .ok (.aload_n 0, 1) := by decide +kernel
theorem dX5_cuts_57 : decode cX5_cuts 57 = .ok (.getfield 19, 3) := by decide +kernel
theorem dX5_cuts_60 : decode cX5_cuts 60 = .ok (.getfield 109, 3) := by decide +kernel
theorem dX5_cuts_63 : decode cX5_cuts 63 = .ok (.iload_n 3, 1) := by decide +kernel
theorem dX5_cuts_64 : decode cX5_cuts 64 = .ok (.iaload, 1) := by decide +kernel
theorem dX5_cuts_65 : decode cX5_cuts 65 = .ok (.aload_n 0, 1) := by decide +kernel
theorem dX5_cuts_66 : decode cX5_cuts 66 = .ok (.getfield 26, 3) := by decide +kernel
theorem dX5_cuts_69 : decode cX5_cuts 69 = .ok (.getfield 137, 3) := by decide +kernel
theorem dX5_cuts_72 : decode cX5_cuts 72 = .ok (.iload_n 1, 1) := by decide +kernel
theorem dX5_cuts_73 : decode cX5_cuts 73 = .ok (.iaload, 1) := by decide +kernel
theorem dX5_cuts_74 : decode cX5_cuts 74 = .ok (.if_icmp .ne 31, 3) := by decide +kernel
theorem dX5_cuts_77 : decode cX5_cuts 77 = .ok (.aload_n 0, 1) := by decide +kernel
theorem dX5_cuts_78 : decode cX5_cuts 78 = .ok (.getfield 26, 3) := by decide +kernel
theorem dX5_cuts_81 : decode cX5_cuts 81 = .ok (.getfield 167, 3) := by decide +kernel
theorem dX5_cuts_84 : decode cX5_cuts 84 = .ok (.iload_n 3, 1) := by decide +kernel
theorem dX5_cuts_85 : decode cX5_cuts 85 = .ok (.aload_n 0, 1) := by decide +kernel
theorem dX5_cuts_86 : decode cX5_cuts 86 = .ok (.iload_n 3, 1) := by decide +kernel
theorem dX5_cuts_87 : decode cX5_cuts 87 = .ok (.iconst 0, 1) := by decide +kernel
theorem dX5_cuts_88 : decode cX5_cuts 88 = .ok (.invokevirtual 127, 3) := by decide +kernel
theorem dX5_cuts_91 : decode cX5_cuts 91 = .ok (.iastore, 1) := by decide +kernel
theorem dX5_cuts_92 : decode cX5_cuts 92 = .ok (.aload_n 0, 1) := by decide +kernel
theorem dX5_cuts_93 : decode cX5_cuts 93 = .ok (.getfield 26, 3) := by decide +kernel
theorem dX5_cuts_96 : decode cX5_cuts 96 = .ok (.getfield 124, 3) := by decide +kernel
theorem dX5_cuts_99 : decode cX5_cuts 99 = .ok (.iload_n 3, 1) := by decide +kernel
theorem dX5_cuts_100 : decode cX5_cuts 100 = .ok (.iconst 1, 1) := by decide +kernel
theorem dX5_cuts_101 : decode cX5_cuts 101 = .ok (.iastore, 1) := by decide +kernel
theorem dX5_cuts_102 : decode cX5_cuts 102 = .ok (.iinc 2 1, 3) := by decide +kernel
theorem dX5_cuts_105 : decode cX5_cuts 105 = .ok (.iinc 3 1, 3) := by decide +kernel
theorem dX5_cuts_108 : decode cX5_cuts 108 = .ok (.goto (-67), 3) := by decide +kernel
theorem dX5_cuts_111 : decode cX5_cuts 111 = .ok (.aload_n 0, 1) := by decide +kernel
theorem dX5_cuts_112 : decode cX5_cuts 112 = .ok (.getfield 26, 3) := by decide +kernel
theorem dX5_cuts_115 : decode cX5_cuts 115 = .ok (.getfield 137, 3) := by decide +kernel
theorem dX5_cuts_118 : decode cX5_cuts 118 = .ok (.iload_n 1, 1) := by decide +kernel
theorem dX5_cuts_119 : decode cX5_cuts 119 = .ok (.dup2, 1) := by decide +kernel
theorem dX5_cuts_120 : decode cX5_cuts 120 = .ok (.iaload, 1) := by decide +kernel
theorem dX5_cuts_121 : decode cX5_cuts 121 = .ok (.iconst 1, 1) := by decide +kernel
theorem dX5_cuts_122 : decode cX5_cuts 122 = .ok (.iadd, 1) := by decide +kernel
theorem dX5_cuts_123 : decode cX5_cuts 123 = .ok (.iastore, 1) := by decide +kernel
theorem dX5_cuts_124 : decode cX5_cuts 124 = .ok (.iload_n 2, 1) := by decide +kernel
theorem dX5_cuts_125 : decode cX5_cuts 125 = .ok (.ireturn, 1) := by decide +kernel
theorem dX5_drains_0 : decode cX5_drains 0 = .ok (.iload_n 1, 1) := by decide +kernel
theorem dX5_drains_1 : decode cX5_drains 1 = .ok (.invokestatic 134, 3) := by decide +kernel
theorem dX5_drains_4 : decode cX5_drains 4 = .ok (.ifCond .ne 5, 3) := by decide +kernel
theorem dX5_drains_7 : decode cX5_drains 7 = .ok (.iconst (-1), 1) := by decide +kernel
theorem dX5_drains_8 : decode cX5_drains 8 = .ok (.ireturn, 1) := by decide +kernel
theorem dX5_drains_9 : decode cX5_drains 9 = .ok (.aload_n 0, 1) := by decide +kernel
theorem dX5_drains_10 : decode cX5_drains 10 = .ok (.getfield 26, 3) := by decide +kernel
theorem dX5_drains_13 : decode cX5_drains 13 = .ok (.getfield 140, 3) := by decide +kernel
theorem dX5_drains_16 : decode cX5_drains 16 = .ok (.iload_n 1, 1) := by decide +kernel
theorem dX5_drains_17 : decode cX5_drains 17 = .ok (.iaload, 1) := by decide +kernel
theorem dX5_drains_18 : decode cX5_drains 18 = .ok (.istore_n 2, 1) := by decide +kernel
theorem dX5_drains_19 : decode cX5_drains 19 = .ok (.iload_n 2, 1) := by decide +kernel
theorem dX5_drains_20 : decode cX5_drains 20 = .ok (.ifCond .ne 6, 3) := by decide +kernel
theorem dX5_drains_23 : decode cX5_drains 23 = .ok (.bipush (-2), 2) := by decide +kernel
theorem dX5_drains_25 : decode cX5_drains 25 = .ok (.ireturn, 1) := by decide +kernel
theorem dX5_drains_26 : decode cX5_drains 26 = .ok (.aload_n 0, 1) := by decide +kernel
theorem dX5_drains_27 : decode cX5_drains 27 = .ok (.getfield 33, 3) := by decide +kernel
theorem dX5_drains_30 : decode cX5_drains 30 = .ok (.aload_n 0, 1) := by decide +kernel
theorem dX5_drains_31 : decode cX5_drains 31 = .ok (.getfield 26, 3) := by decide +kernel
theorem dX5_drains_34 : decode cX5_drains 34 = .ok (.invokevirtual 159, 3) := by decide +kernel
theorem dX5_drains_37 : decode cX5_drains 37 = .ok (.aload_n 0, 1) := by decide +kernel
theorem dX5_drains_38 : decode cX5_drains 38 = .ok (.getfield 26, 3) := by decide +kernel
theorem dX5_drains_41 : decode cX5_drains 41 = .ok (.getfield 140, 3) := by decide +kernel
theorem dX5_drains_44 : decode cX5_drains 44 = .ok (.iload_n 1, 1) := by decide +kernel
theorem dX5_drains_45 : decode cX5_drains 45 = .ok (.iconst 0, 1) := by decide +kernel
theorem dX5_drains_46 : decode cX5_drains 46 = .ok (.iastore, 1) := by decide +kernel
theorem dX5_drains_47 : decode cX5_drains 47 = .ok (.iconst 0, 1) := by decide +kernel
theorem dX5_drains_48 : decode cX5_drains 48 = .ok (.istore_n 3, 1) := by decide +kernel
theorem dX5_drains_49 : decode cX5_drains 49 = .ok (.iload_n 3, 1) := by decide +kernel
theorem dX5_drains_50 : decode cX5_drains 50 = .ok (.bipush 8, 2) := by decide +kernel
theorem dX5_drains_52 : decode cX5_drains 52 = .ok (.if_icmp .ge 43, 3) := by decide +kernel
theorem dX5_drains_55 : decode cX5_drains 55 = .ok (.aload_n 0, 1) := by decide +kernel
theorem dX5_drains_56 : decode cX5_drains 56 = .ok (.iload_n 3, 1) := by decide +kernel
theorem dX5_drains_57 : decode cX5_drains 57 = .ok (.iload_n 1, 1) := by decide +kernel
theorem dX5_drains_58 : decode cX5_drains 58 = .ok (.invokevirtual 163, 3) := by decide +kernel
theorem dX5_drains_61 : decode cX5_drains 61 = .ok (.ifCond .eq 28, 3) := by decide +kernel
theorem dX5_drains_64 : decode cX5_drains 64 = .ok (.aload_n 0, 1) := by decide +kernel
theorem dX5_drains_65 : decode cX5_drains 65 = .ok (.getfield 26, 3) := by decide +kernel
theorem dX5_drains_68 : decode cX5_drains 68 = .ok (.getfield 170, 3) := by decide +kernel
theorem dX5_drains_71 : decode cX5_drains 71 = .ok (.iload_n 3, 1) := by decide +kernel
theorem dX5_drains_72 : decode cX5_drains 72 = .ok (.bipush 9, 2) := by decide +kernel
theorem dX5_drains_74 : decode cX5_drains 74 = .ok (.aload_n 0, 1) := by decide +kernel
theorem dX5_drains_75 : decode cX5_drains 75 = .ok (.getfield 26, 3) := by decide +kernel
theorem dX5_drains_78 : decode cX5_drains 78 = .ok (.getfield 170, 3) := by decide +kernel
theorem dX5_drains_81 : decode cX5_drains 81 = .ok (.iload_n 3, 1) := by decide +kernel
theorem dX5_drains_82 : decode cX5_drains 82 = .ok (.iaload, 1) := by decide +kernel
theorem dX5_drains_83 : decode cX5_drains 83 = .ok (.iconst 1, 1) := by decide +kernel
theorem dX5_drains_84 : decode cX5_drains 84 = .ok (.iadd, 1) := by decide +kernel
theorem dX5_drains_85 : decode cX5_drains 85 = .ok (.invokestatic 173, 3) := by decide +kernel
theorem dX5_drains_88 : decode cX5_drains 88 = .ok (.iastore, 1) := by decide +kernel
theorem dX5_drains_89 : decode cX5_drains 89 = .ok (.iinc 3 1, 3) := by decide +kernel
theorem dX5_drains_92 : decode cX5_drains 92 = .ok (.goto (-43), 3) := by decide +kernel
theorem dX5_drains_95 : decode cX5_drains 95 = .ok (.iload_n 2, 1) := by decide +kernel
theorem dX5_drains_96 : decode cX5_drains 96 = .ok (.ireturn, 1) := by decide +kernel
theorem dX5_does_0 : decode cX5_does 0 = .ok (.aload_n 0, 1) := by decide +kernel
theorem dX5_does_1 : decode cX5_does 1 = .ok (.getfield 19, 3) := by decide +kernel
theorem dX5_does_4 : decode cX5_does 4 = .ok (.iload_n 1, 1) := by decide +kernel
theorem dX5_does_5 : decode cX5_does 5 = .ok (.invokevirtual 100, 3) := by decide +kernel
theorem dX5_does_8 : decode cX5_does 8 = .ok (.ifCond .ne 5, 3) := by decide +kernel
theorem dX5_does_11 : decode cX5_does 11 = .ok (.iconst (-1), 1) := by decide +kernel
theorem dX5_does_12 : decode cX5_does 12 = .ok (.ireturn, 1) := by decide +kernel
theorem dX5_does_13 : decode cX5_does 13 = .ok (.aload_n 0, 1) := by decide +kernel
theorem dX5_does_14 : decode cX5_does 14 = .ok (.iload_n 1, 1) := by decide +kernel
theorem dX5_does_15 : decode cX5_does 15 = .ok (.aload_n 0, 1) := by decide +kernel
theorem dX5_does_16 : decode cX5_does 16 = .ok (.iconst 2, 1) := by decide +kernel
theorem dX5_does_17 : decode cX5_does 17 = .ok (.invokevirtual 153, 3) := by decide +kernel
theorem dX5_does_20 : decode cX5_does 20 = .ok (.invokevirtual 178, 3) := by decide +kernel
theorem dX5_does_23 : decode cX5_does 23 = .ok (.ifCond .ne 6, 3) := by decide +kernel
theorem dX5_does_26 : decode cX5_does 26 = .ok (.bipush (-2), 2) := by decide +kernel
theorem dX5_does_28 : decode cX5_does 28 = .ok (.ireturn, 1) := by decide +kernel
theorem dX5_does_29 : decode cX5_does 29 = .ok (.aload_n 0, 1) := by decide +kernel
theorem dX5_does_30 : decode cX5_does 30 = .ok (.getfield 33, 3) := by decide +kernel
theorem dX5_does_33 : decode cX5_does 33 = .ok (.aload_n 0, 1) := by decide +kernel
theorem dX5_does_34 : decode cX5_does 34 = .ok (.getfield 26, 3) := by decide +kernel
theorem dX5_does_37 : decode cX5_does 37 = .ok (.invokevirtual 159, 3) := by decide +kernel
theorem dX5_does_40 : decode cX5_does 40 = .ok (.aload_n 0, 1) := by decide +kernel
theorem dX5_does_41 : decode cX5_does 41 = .ok (.getfield 26, 3) := by decide +kernel
theorem dX5_does_44 : decode cX5_does 44 = .ok (.getfield 124, 3) := by decide +kernel
theorem dX5_does_47 : decode cX5_does 47 = .ok (.iload_n 1, 1) := by decide +kernel
theorem dX5_does_48 : decode cX5_does 48 = .ok (.iconst 2, 1) := by decide +kernel
theorem dX5_does_49 : decode cX5_does 49 = .ok (.iastore, 1) := by decide +kernel
theorem dX5_does_50 : decode cX5_does 50 = .ok (.aload_n 0, 1) := by decide +kernel
theorem dX5_does_51 : decode cX5_does 51 = .ok (.iconst 2, 1) := by decide +kernel
theorem dX5_does_52 : decode cX5_does 52 = .ok (.invokevirtual 153, 3) := by decide +kernel
theorem dX5_does_55 : decode cX5_does 55 = .ok (.invokestatic 181, 3) := by decide +kernel
theorem dX5_does_58 : decode cX5_does 58 = .ok (.ireturn, 1) := by decide +kernel
theorem dX5_year_0 : decode cX5_year 0 = .ok (.aload_n 0, 1) := by decide +kernel
theorem dX5_year_1 : decode cX5_year 1 = .ok (.getfield 26, 3) := by decide +kernel
theorem dX5_year_4 : decode cX5_year 4 = .ok (.getfield 150, 3) := by decide +kernel
theorem dX5_year_7 : decode cX5_year 7 = .ok (.sipush 999, 3) := by decide +kernel
theorem dX5_year_10 : decode cX5_year 10 = .ok (.if_icmp .lt 6, 3) := by decide +kernel
theorem dX5_year_13 : decode cX5_year 13 = .ok (.bipush (-2), 2) := by decide +kernel
theorem dX5_year_15 : decode cX5_year 15 = .ok (.ireturn, 1) := by decide +kernel
theorem dX5_year_16 : decode cX5_year 16 = .ok (.aload_n 0, 1) := by decide +kernel
theorem dX5_year_17 : decode cX5_year 17 = .ok (.getfield 33, 3) := by decide +kernel
theorem dX5_year_20 : decode cX5_year 20 = .ok (.aload_n 0, 1) := by decide +kernel
theorem dX5_year_21 : decode cX5_year 21 = .ok (.getfield 26, 3) := by decide +kernel
theorem dX5_year_24 : decode cX5_year 24 = .ok (.invokevirtual 159, 3) := by decide +kernel
theorem dX5_year_27 : decode cX5_year 27 = .ok (.aload_n 0, 1) := by decide +kernel
theorem dX5_year_28 : decode cX5_year 28 = .ok (.getfield 26, 3) := by decide +kernel
theorem dX5_year_31 : decode cX5_year 31 = .ok (.dup, 1) := by decide +kernel
theorem dX5_year_32 : decode cX5_year 32 = .ok (.getfield 150, 3) := by decide +kernel
theorem dX5_year_35 : decode cX5_year 35 = .ok (.iconst 1, 1) := by decide +kernel
theorem dX5_year_36 : decode cX5_year 36 = .ok (.iadd, 1) := by decide +kernel
theorem dX5_year_37 : decode cX5_year 37 = .ok (.putfield 150, 3) := by decide +kernel
theorem dX5_year_40 : decode cX5_year 40 = .ok (.aload_n 0, 1) := by decide +kernel
theorem dX5_year_41 : decode cX5_year 41 = .ok (.aload_n 0, 1) := by decide +kernel
theorem dX5_year_42 : decode cX5_year 42 = .ok (.getfield 26, 3) := by decide +kernel
theorem dX5_year_45 : decode cX5_year 45 = .ok (.getfield 140, 3) := by decide +kernel
theorem dX5_year_48 : decode cX5_year 48 = .ok (.invokevirtual 186, 3) := by decide +kernel
theorem dX5_year_51 : decode cX5_year 51 = .ok (.istore_n 1, 1) := by decide +kernel
theorem dX5_year_52 : decode cX5_year 52 = .ok (.iconst 0, 1) := by decide +kernel
theorem dX5_year_53 : decode cX5_year 53 = .ok (.istore_n 2, 1) := by decide +kernel
theorem dX5_year_54 : decode cX5_year 54 = .ok (.iconst 0, 1) := by decide +kernel
theorem dX5_year_55 : decode cX5_year 55 = .ok (.istore_n 3, 1) := by decide +kernel
theorem dX5_year_56 : decode cX5_year 56 = .ok (.iload_n 3, 1) := by decide +kernel
theorem dX5_year_57 : decode cX5_year 57 = .ok (.bipush 8, 2) := by decide +kernel
theorem dX5_year_59 : decode cX5_year 59 = .ok (.if_icmp .ge 47, 3) := by decide +kernel
theorem dX5_year_62 : decode cX5_year 62 = .ok (.aload_n 0, 1) := by decide +kernel
theorem dX5_year_63 : decode cX5_year 63 = .ok (.iload_n 3, 1) := by decide +kernel
theorem dX5_year_64 : decode cX5_year 64 = .ok (.iconst 0, 1) := by decide +kernel
theorem dX5_year_65 : decode cX5_year 65 = .ok (.invokevirtual 190, 3) := by decide +kernel
theorem dX5_year_68 : decode cX5_year 68 = .ok (.ifCond .eq 32, 3) := by decide +kernel
theorem dX5_year_71 : decode cX5_year 71 = .ok (.iload_n 1, 1) := by decide +kernel
theorem dX5_year_72 : decode cX5_year 72 = .ok (.aload_n 0, 1) := by decide +kernel
theorem dX5_year_73 : decode cX5_year 73 = .ok (.getfield 19, 3) := by decide +kernel
theorem dX5_year_76 : decode cX5_year 76 = .ok (.getfield 106, 3) := by decide +kernel
theorem dX5_year_79 : decode cX5_year 79 = .ok (.iload_n 3, 1) := by decide +kernel
theorem dX5_year_80 : decode cX5_year 80 = .ok (.iaload, 1) := by decide +kernel
theorem dX5_year_81 : decode cX5_year 81 = .ok (.invokestatic 193, 3) := by decide +kernel
theorem dX5_year_84 : decode cX5_year 84 = .ok (.ifCond .eq 16, 3) := by decide +kernel
theorem dX5_year_87 : decode cX5_year 87 = .ok (.aload_n 0, 1) := by decide +kernel
theorem dX5_year_88 : decode cX5_year 88 = .ok (.getfield 26, 3) := by decide +kernel
theorem dX5_year_91 : decode cX5_year 91 = .ok (.getfield 124, 3) := by decide +kernel
theorem dX5_year_94 : decode cX5_year 94 = .ok (.iload_n 3, 1) := by decide +kernel
theorem dX5_year_95 : decode cX5_year 95 = .ok (.iconst 3, 1) := by decide +kernel
theorem dX5_year_96 : decode cX5_year 96 = .ok (.iastore, 1) := by decide +kernel
theorem dX5_year_97 : decode cX5_year 97 = .ok (.iinc 2 1, 3) := by decide +kernel
theorem dX5_year_100 : decode cX5_year 100 = .ok (.iinc 3 1, 3) := by decide +kernel
theorem dX5_year_103 : decode cX5_year 103 = .ok (.goto (-47), 3) := by decide +kernel
theorem dX5_year_106 : decode cX5_year 106 = .ok (.iload_n 2, 1) := by decide +kernel
theorem dX5_year_107 : decode cX5_year 107 = .ok (.ireturn, 1) := by decide +kernel
theorem dX5_undo_0 : decode cX5_undo 0 = .ok (.aload_n 0, 1) := by decide +kernel
theorem dX5_undo_1 : decode cX5_undo 1 = .ok (.getfield 33, 3) := by decide +kernel
theorem dX5_undo_4 : decode cX5_undo 4 = .ok (.getfield 156, 3) := by decide +kernel
theorem dX5_undo_7 : decode cX5_undo 7 = .ok (.ifCond .ne 6, 3) := by decide +kernel
theorem dX5_undo_10 : decode cX5_undo 10 = .ok (.bipush (-2), 2) := by decide +kernel
theorem dX5_undo_12 : decode cX5_undo 12 = .ok (.ireturn, 1) := by decide +kernel
theorem dX5_undo_13 : decode cX5_undo 13 = .ok (.aload_n 0, 1) := by decide +kernel
theorem dX5_undo_14 : decode cX5_undo 14 = .ok (.getfield 33, 3) := by decide +kernel
theorem dX5_undo_17 : decode cX5_undo 17 = .ok (.aload_n 0, 1) := by decide +kernel
theorem dX5_undo_18 : decode cX5_undo 18 = .ok (.getfield 26, 3) := by decide +kernel
theorem dX5_undo_21 : decode cX5_undo 21 = .ok (.invokevirtual 196, 3) := by decide +kernel
theorem dX5_undo_24 : decode cX5_undo 24 = .ok (.aload_n 0, 1) := by decide +kernel
theorem dX5_undo_25 : decode cX5_undo 25 = .ok (.getfield 33, 3) := by decide +kernel
theorem dX5_undo_28 : decode cX5_undo 28 = .ok (.getfield 156, 3) := by decide +kernel
theorem dX5_undo_31 : decode cX5_undo 31 = .ok (.ireturn, 1) := by decide +kernel
theorem dX5_left_0 : decode cX5_left 0 = .ok (.aload_n 0, 1) := by decide +kernel
theorem dX5_left_1 : decode cX5_left 1 = .ok (.getfield 19, 3) := by decide +kernel
theorem dX5_left_4 : decode cX5_left 4 = .ok (.iload_n 1, 1) := by decide +kernel
theorem dX5_left_5 : decode cX5_left 5 = .ok (.invokevirtual 100, 3) := by decide +kernel
theorem dX5_left_8 : decode cX5_left 8 = .ok (.ifCond .eq 10, 3) := by decide +kernel
theorem dX5_left_11 : decode cX5_left 11 = .ok (.iload_n 2, 1) := by decide +kernel
theorem dX5_left_12 : decode cX5_left 12 = .ok (.invokestatic 199, 3) := by decide +kernel
theorem dX5_left_15 : decode cX5_left 15 = .ok (.ifCond .ne 5, 3) := by decide +kernel
theorem dX5_left_18 : decode cX5_left 18 = .ok (.iconst (-1), 1) := by decide +kernel
theorem dX5_left_19 : decode cX5_left 19 = .ok (.ireturn, 1) := by decide +kernel
theorem dX5_left_20 : decode cX5_left 20 = .ok (.aload_n 0, 1) := by decide +kernel
theorem dX5_left_21 : decode cX5_left 21 = .ok (.iload_n 1, 1) := by decide +kernel
theorem dX5_left_22 : decode cX5_left 22 = .ok (.iload_n 2, 1) := by decide +kernel
theorem dX5_left_23 : decode cX5_left 23 = .ok (.invokevirtual 127, 3) := by decide +kernel
theorem dX5_left_26 : decode cX5_left 26 = .ok (.ireturn, 1) := by decide +kernel
theorem dX5_lasts_0 : decode cX5_lasts 0 = .ok (.iload_n 1, 1) := by decide +kernel
theorem dX5_lasts_1 : decode cX5_lasts 1 = .ok (.iconst 1, 1) := by decide +kernel
theorem dX5_lasts_2 : decode cX5_lasts 2 = .ok (.if_icmp .lt 25, 3) := by decide +kernel
theorem dX5_lasts_5 : decode cX5_lasts 5 = .ok (.iload_n 1, 1) := by decide +kernel
theorem dX5_lasts_6 : decode cX5_lasts 6 = .ok (.iconst 4, 1) := by decide +kernel
theorem dX5_lasts_7 : decode cX5_lasts 7 = .ok (.if_icmp .gt 20, 3) := by decide +kernel
theorem dX5_lasts_10 : decode cX5_lasts 10 = .ok (.iload_n 2, 1) := by decide +kernel
theorem dX5_lasts_11 : decode cX5_lasts 11 = .ok (.iconst 1, 1) := by decide +kernel
theorem dX5_lasts_12 : decode cX5_lasts 12 = .ok (.if_icmp .lt 15, 3) := by decide +kernel
theorem dX5_lasts_15 : decode cX5_lasts 15 = .ok (.iload_n 2, 1) := by decide +kernel
theorem dX5_lasts_16 : decode cX5_lasts 16 = .ok (.iconst 4, 1) := by decide +kernel
theorem dX5_lasts_17 : decode cX5_lasts 17 = .ok (.if_icmp .gt 10, 3) := by decide +kernel
theorem dX5_lasts_20 : decode cX5_lasts 20 = .ok (.iload_n 3, 1) := by decide +kernel
theorem dX5_lasts_21 : decode cX5_lasts 21 = .ok (.invokestatic 199, 3) := by decide +kernel
theorem dX5_lasts_24 : decode cX5_lasts 24 = .ok (.ifCond .ne 5, 3) := by decide +kernel
theorem dX5_lasts_27 : decode cX5_lasts 27 = .ok (.iconst (-1), 1) := by decide +kernel
theorem dX5_lasts_28 : decode cX5_lasts 28 = .ok (.ireturn, 1) := by decide +kernel
theorem dX5_lasts_29 : decode cX5_lasts 29 = .ok (.iconst 5, 1) := by decide +kernel
theorem dX5_lasts_30 : decode cX5_lasts 30 = .ok (.istore 4, 2) := by decide +kernel
theorem dX5_lasts_32 : decode cX5_lasts 32 = .ok (.iload 4, 2) := by decide +kernel
theorem dX5_lasts_34 : decode cX5_lasts 34 = .ok (.ifCond .lt 25, 3) := by decide +kernel
theorem dX5_lasts_37 : decode cX5_lasts 37 = .ok (.aload_n 0, 1) := by decide +kernel
theorem dX5_lasts_38 : decode cX5_lasts 38 = .ok (.iload_n 1, 1) := by decide +kernel
theorem dX5_lasts_39 : decode cX5_lasts 39 = .ok (.iload 4, 2) := by decide +kernel
theorem dX5_lasts_41 : decode cX5_lasts 41 = .ok (.iload_n 3, 1) := by decide +kernel
theorem dX5_lasts_42 : decode cX5_lasts 42 = .ok (.iconst 0, 1) := by decide +kernel
theorem dX5_lasts_43 : decode cX5_lasts 43 = .ok (.invokevirtual 202, 3) := by decide +kernel
theorem dX5_lasts_46 : decode cX5_lasts 46 = .ok (.iload_n 2, 1) := by decide +kernel
theorem dX5_lasts_47 : decode cX5_lasts 47 = .ok (.if_icmp .lt 6, 3) := by decide +kernel
theorem dX5_lasts_50 : decode cX5_lasts 50 = .ok (.iload 4, 2) := by decide +kernel
theorem dX5_lasts_52 : decode cX5_lasts 52 = .ok (.ireturn, 1) := by decide +kernel
theorem dX5_lasts_53 : decode cX5_lasts 53 = .ok (.iinc 4 (-1), 3) := by decide +kernel
theorem dX5_lasts_56 : decode cX5_lasts 56 = .ok (.goto (-24), 3) := by decide +kernel
theorem dX5_lasts_59 : decode cX5_lasts 59 = .ok (.bipush (-9), 2) := by decide +kernel
theorem dX5_lasts_61 : decode cX5_lasts 61 = .ok (.ireturn, 1) := by decide +kernel
theorem dX5_duty_0 : decode cX5_duty 0 = .ok (.aload_n 0, 1) := by decide +kernel
theorem dX5_duty_1 : decode cX5_duty 1 = .ok (.getfield 19, 3) := by decide +kernel
theorem dX5_duty_4 : decode cX5_duty 4 = .ok (.iload_n 1, 1) := by decide +kernel
theorem dX5_duty_5 : decode cX5_duty 5 = .ok (.invokevirtual 100, 3) := by decide +kernel
theorem dX5_duty_8 : decode cX5_duty 8 = .ok (.ifCond .eq 10, 3) := by decide +kernel
theorem dX5_duty_11 : decode cX5_duty 11 = .ok (.iload_n 2, 1) := by decide +kernel
theorem dX5_duty_12 : decode cX5_duty 12 = .ok (.invokestatic 199, 3) := by decide +kernel
theorem dX5_duty_15 : decode cX5_duty 15 = .ok (.ifCond .ne 5, 3) := by decide +kernel
theorem dX5_duty_18 : decode cX5_duty 18 = .ok (.iconst (-1), 1) := by decide +kernel
theorem dX5_duty_19 : decode cX5_duty 19 = .ok (.ireturn, 1) := by decide +kernel
theorem dX5_duty_20 : decode cX5_duty 20 = .ok (.aload_n 0, 1) := by decide +kernel
theorem dX5_duty_21 : decode cX5_duty 21 = .ok (.getfield 19, 3) := by decide +kernel
theorem dX5_duty_24 : decode cX5_duty 24 = .ok (.getfield 103, 3) := by decide +kernel
theorem dX5_duty_27 : decode cX5_duty 27 = .ok (.iload_n 1, 1) := by decide +kernel
theorem dX5_duty_28 : decode cX5_duty 28 = .ok (.iaload, 1) := by decide +kernel
theorem dX5_duty_29 : decode cX5_duty 29 = .ok (.istore_n 3, 1) := by decide +kernel
theorem dX5_duty_30 : decode cX5_duty 30 = .ok (.iconst 0, 1) := by decide +kernel
theorem dX5_duty_31 : decode cX5_duty 31 = .ok (.istore 4, 2) := by decide +kernel
theorem dX5_duty_33 : decode cX5_duty 33 = .ok (.iload 4, 2) := by decide +kernel
theorem dX5_duty_35 : decode cX5_duty 35 = .ok (.bipush 6, 2) := by decide +kernel
theorem dX5_duty_37 : decode cX5_duty 37 = .ok (.if_icmp .ge 53, 3) := by decide +kernel
theorem dX5_duty_40 : decode cX5_duty 40 = .ok (.aload_n 0, 1) := by decide +kernel
theorem dX5_duty_41 : decode cX5_duty 41 = .ok (.getfield 19, 3) := by decide +kernel
theorem dX5_duty_44 : decode cX5_duty 44 = .ok (.iload_n 3, 1) := by decide +kernel
theorem dX5_duty_45 : decode cX5_duty 45 = .ok (.invokevirtual 91, 3) := by decide +kernel
theorem dX5_duty_48 : decode cX5_duty 48 = .ok (.ifCond .eq 42, 3) := by decide +kernel
theorem dX5_duty_51 : decode cX5_duty 51 = .ok (.aload_n 0, 1) := by decide +kernel
theorem dX5_duty_52 : decode cX5_duty 52 = .ok (.getfield 19, 3) := by decide +kernel
theorem dX5_duty_55 : decode cX5_duty 55 = .ok (.getfield 94, 3) := by decide +kernel
theorem dX5_duty_58 : decode cX5_duty 58 = .ok (.iload_n 3, 1) := by decide +kernel
theorem dX5_duty_59 : decode cX5_duty 59 = .ok (.iaload, 1) := by decide +kernel
theorem dX5_duty_60 : decode cX5_duty 60 = .ok (.aload_n 0, 1) := by decide +kernel
theorem dX5_duty_61 : decode cX5_duty 61 = .ok (.getfield 26, 3) := by decide +kernel
theorem dX5_duty_64 : decode cX5_duty 64 = .ok (.getfield 150, 3) := by decide +kernel
theorem dX5_duty_67 : decode cX5_duty 67 = .ok (.iload_n 2, 1) := by decide +kernel
theorem dX5_duty_68 : decode cX5_duty 68 = .ok (.iadd, 1) := by decide +kernel
theorem dX5_duty_69 : decode cX5_duty 69 = .ok (.if_icmp .le 5, 3) := by decide +kernel
theorem dX5_duty_72 : decode cX5_duty 72 = .ok (.iload_n 3, 1) := by decide +kernel
theorem dX5_duty_73 : decode cX5_duty 73 = .ok (.ireturn, 1) := by decide +kernel
theorem dX5_duty_74 : decode cX5_duty 74 = .ok (.aload_n 0, 1) := by decide +kernel
theorem dX5_duty_75 : decode cX5_duty 75 = .ok (.getfield 19, 3) := by decide +kernel
theorem dX5_duty_78 : decode cX5_duty 78 = .ok (.getfield 97, 3) := by decide +kernel
theorem dX5_duty_81 : decode cX5_duty 81 = .ok (.iload_n 3, 1) := by decide +kernel
theorem dX5_duty_82 : decode cX5_duty 82 = .ok (.iaload, 1) := by decide +kernel
theorem dX5_duty_83 : decode cX5_duty 83 = .ok (.istore_n 3, 1) := by decide +kernel
theorem dX5_duty_84 : decode cX5_duty 84 = .ok (.iinc 4 1, 3) := by decide +kernel
theorem dX5_duty_87 : decode cX5_duty 87 = .ok (.goto (-54), 3) := by decide +kernel
theorem dX5_duty_90 : decode cX5_duty 90 = .ok (.bipush (-9), 2) := by decide +kernel
theorem dX5_duty_92 : decode cX5_duty 92 = .ok (.ireturn, 1) := by decide +kernel
theorem dX5_sees_0 : decode cX5_sees 0 = .ok (.iload_n 1, 1) := by decide +kernel
theorem dX5_sees_1 : decode cX5_sees 1 = .ok (.ifCond .lt 9, 3) := by decide +kernel
theorem dX5_sees_4 : decode cX5_sees 4 = .ok (.iload_n 1, 1) := by decide +kernel
theorem dX5_sees_5 : decode cX5_sees 5 = .ok (.bipush 9, 2) := by decide +kernel
theorem dX5_sees_7 : decode cX5_sees 7 = .ok (.if_icmp .le 5, 3) := by decide +kernel
theorem dX5_sees_10 : decode cX5_sees 10 = .ok (.iconst (-1), 1) := by decide +kernel
theorem dX5_sees_11 : decode cX5_sees 11 = .ok (.ireturn, 1) := by decide +kernel
theorem dX5_sees_12 : decode cX5_sees 12 = .ok (.aload_n 0, 1) := by decide +kernel
theorem dX5_sees_13 : decode cX5_sees 13 = .ok (.getfield 55, 3) := by decide +kernel
theorem dX5_sees_16 : decode cX5_sees 16 = .ok (.iconst 4, 1) := by decide +kernel
theorem dX5_sees_17 : decode cX5_sees 17 = .ok (.if_icmp .lt 6, 3) := by decide +kernel
theorem dX5_sees_20 : decode cX5_sees 20 = .ok (.bipush (-3), 2) := by decide +kernel
theorem dX5_sees_22 : decode cX5_sees 22 = .ok (.ireturn, 1) := by decide +kernel
theorem dX5_sees_23 : decode cX5_sees 23 = .ok (.aload_n 0, 1) := by decide +kernel
theorem dX5_sees_24 : decode cX5_sees 24 = .ok (.getfield 45, 3) := by decide +kernel
theorem dX5_sees_27 : decode cX5_sees 27 = .ok (.aload_n 0, 1) := by decide +kernel
theorem dX5_sees_28 : decode cX5_sees 28 = .ok (.getfield 55, 3) := by decide +kernel
theorem dX5_sees_31 : decode cX5_sees 31 = .ok (.iload_n 1, 1) := by decide +kernel
theorem dX5_sees_32 : decode cX5_sees 32 = .ok (.iastore, 1) := by decide +kernel
theorem dX5_sees_33 : decode cX5_sees 33 = .ok (.aload_n 0, 1) := by decide +kernel
theorem dX5_sees_34 : decode cX5_sees 34 = .ok (.dup, 1) := by decide +kernel
theorem dX5_sees_35 : decode cX5_sees 35 = .ok (.getfield 55, 3) := by decide +kernel
theorem dX5_sees_38 : decode cX5_sees 38 = .ok (.iconst 1, 1) := by decide +kernel
theorem dX5_sees_39 : decode cX5_sees 39 = .ok (.iadd, 1) := by decide +kernel
theorem dX5_sees_40 : decode cX5_sees 40 = .ok (.putfield 55, 3) := by decide +kernel
theorem dX5_sees_43 : decode cX5_sees 43 = .ok (.aload_n 0, 1) := by decide +kernel
theorem dX5_sees_44 : decode cX5_sees 44 = .ok (.getfield 55, 3) := by decide +kernel
theorem dX5_sees_47 : decode cX5_sees 47 = .ok (.ireturn, 1) := by decide +kernel
theorem dX5_forget_0 : decode cX5_forget 0 = .ok (.aload_n 0, 1) := by decide +kernel
theorem dX5_forget_1 : decode cX5_forget 1 = .ok (.getfield 55, 3) := by decide +kernel
theorem dX5_forget_4 : decode cX5_forget 4 = .ok (.istore_n 1, 1) := by decide +kernel
theorem dX5_forget_5 : decode cX5_forget 5 = .ok (.aload_n 0, 1) := by decide +kernel
theorem dX5_forget_6 : decode cX5_forget 6 = .ok (.iconst 0, 1) := by decide +kernel
theorem dX5_forget_7 : decode cX5_forget 7 = .ok (.putfield 55, 3) := by decide +kernel
theorem dX5_forget_10 : decode cX5_forget 10 = .ok (.iload_n 1, 1) := by decide +kernel
theorem dX5_forget_11 : decode cX5_forget 11 = .ok (.ireturn, 1) := by decide +kernel
theorem dX5_fits_0 : decode cX5_fits 0 = .ok (.iconst 0, 1) := by decide +kernel
theorem dX5_fits_1 : decode cX5_fits 1 = .ok (.istore_n 1, 1) := by decide +kernel
theorem dX5_fits_2 : decode cX5_fits 2 = .ok (.iconst 0, 1) := by decide +kernel
theorem dX5_fits_3 : decode cX5_fits 3 = .ok (.istore_n 2, 1) := by decide +kernel
theorem dX5_fits_4 : decode cX5_fits 4 = .ok (.iload_n 2, 1) := by decide +kernel
theorem dX5_fits_5 : decode cX5_fits 5 = .ok (.bipush 8, 2) := by decide +kernel
theorem dX5_fits_7 : decode cX5_fits 7 = .ok (.if_icmp .ge 23, 3) := by decide +kernel
theorem dX5_fits_10 : decode cX5_fits 10 = .ok (.aload_n 0, 1) := by decide +kernel
theorem dX5_fits_11 : decode cX5_fits 11 = .ok (.iload_n 2, 1) := by decide +kernel
theorem dX5_fits_12 : decode cX5_fits 12 = .ok (.invokevirtual 206, 3) := by decide +kernel
theorem dX5_fits_15 : decode cX5_fits 15 = .ok (.ifCond .eq 9, 3) := by decide +kernel
theorem dX5_fits_18 : decode cX5_fits 18 = .ok (.iload_n 1, 1) := by decide +kernel
theorem dX5_fits_19 : decode cX5_fits 19 = .ok (.iconst 1, 1) := by decide +kernel
theorem dX5_fits_20 : decode cX5_fits 20 = .ok (.iload_n 2, 1) := by decide +kernel
theorem dX5_fits_21 : decode cX5_fits 21 = .ok (.ishl, 1) := by decide +kernel
theorem dX5_fits_22 : decode cX5_fits 22 = .ok (.ior, 1) := by decide +kernel
theorem dX5_fits_23 : decode cX5_fits 23 = .ok (.istore_n 1, 1) := by decide +kernel
theorem dX5_fits_24 : decode cX5_fits 24 = .ok (.iinc 2 1, 3) := by decide +kernel
theorem dX5_fits_27 : decode cX5_fits 27 = .ok (.goto (-23), 3) := by decide +kernel
theorem dX5_fits_30 : decode cX5_fits 30 = .ok (.iload_n 1, 1) := by decide +kernel
theorem dX5_fits_31 : decode cX5_fits 31 = .ok (.ireturn, 1) := by decide +kernel
theorem dX5_likely_0 : decode cX5_likely 0 = .ok (.iconst 0, 1) := by decide +kernel
theorem dX5_likely_1 : decode cX5_likely 1 = .ok (.istore_n 1, 1) := by decide +kernel
theorem dX5_likely_2 : decode cX5_likely 2 = .ok (.iload_n 1, 1) := by decide +kernel
theorem dX5_likely_3 : decode cX5_likely 3 = .ok (.bipush 9, 2) := by decide +kernel
theorem dX5_likely_5 : decode cX5_likely 5 = .ok (.if_icmp .gt 16, 3) := by decide +kernel
theorem dX5_likely_8 : decode cX5_likely 8 = .ok (.aload_n 0, 1) := by decide +kernel
theorem dX5_likely_9 : decode cX5_likely 9 = .ok (.getfield 52, 3) := by decide +kernel
theorem dX5_likely_12 : decode cX5_likely 12 = .ok (.iload_n 1, 1) := by decide +kernel
theorem dX5_likely_13 : decode cX5_likely 13 = .ok (.iconst 0, 1) := by decide +kernel
theorem dX5_likely_14 : decode cX5_likely 14 = .ok (.iastore, 1) := by decide +kernel
theorem dX5_likely_15 : decode cX5_likely 15 = .ok (.iinc 1 1, 3) := by decide +kernel
theorem dX5_likely_18 : decode cX5_likely 18 = .ok (.goto (-16), 3) := by decide +kernel
theorem dX5_likely_21 : decode cX5_likely 21 = .ok (.iconst 0, 1) := by decide +kernel
theorem dX5_likely_22 : decode cX5_likely 22 = .ok (.istore_n 1, 1) := by decide +kernel
theorem dX5_likely_23 : decode cX5_likely 23 = .ok (.iload_n 1, 1) := by decide +kernel
theorem dX5_likely_24 : decode cX5_likely 24 = .ok (.bipush 8, 2) := by decide +kernel
theorem dX5_likely_26 : decode cX5_likely 26 = .ok (.if_icmp .ge 63, 3) := by decide +kernel
theorem dX5_likely_29 : decode cX5_likely 29 = .ok (.aload_n 0, 1) := by decide +kernel
theorem dX5_likely_30 : decode cX5_likely 30 = .ok (.iload_n 1, 1) := by decide +kernel
theorem dX5_likely_31 : decode cX5_likely 31 = .ok (.invokevirtual 206, 3) := by decide +kernel
theorem dX5_likely_34 : decode cX5_likely 34 = .ok (.ifCond .eq 49, 3) := by decide +kernel
theorem dX5_likely_37 : decode cX5_likely 37 = .ok (.aload_n 0, 1) := by decide +kernel
theorem dX5_likely_38 : decode cX5_likely 38 = .ok (.iload_n 1, 1) := by decide +kernel
theorem dX5_likely_39 : decode cX5_likely 39 = .ok (.iconst 0, 1) := by decide +kernel
theorem dX5_likely_40 : decode cX5_likely 40 = .ok (.invokevirtual 127, 3) := by decide +kernel
theorem dX5_likely_43 : decode cX5_likely 43 = .ok (.aload_n 0, 1) := by decide +kernel
theorem dX5_likely_44 : decode cX5_likely 44 = .ok (.getfield 55, 3) := by decide +kernel
theorem dX5_likely_47 : decode cX5_likely 47 = .ok (.if_icmp .le 36, 3) := by decide +kernel
theorem dX5_likely_50 : decode cX5_likely 50 = .ok (.aload_n 0, 1) := by decide +kernel
theorem dX5_likely_51 : decode cX5_likely 51 = .ok (.getfield 19, 3) := by decide +kernel
theorem dX5_likely_54 : decode cX5_likely 54 = .ok (.iload_n 1, 1) := by decide +kernel
theorem dX5_likely_55 : decode cX5_likely 55 = .ok (.aload_n 0, 1) := by decide +kernel
theorem dX5_likely_56 : decode cX5_likely 56 = .ok (.getfield 55, 3) := by decide +kernel
theorem dX5_likely_59 : decode cX5_likely 59 = .ok (.invokevirtual 131, 3) := by decide +kernel
theorem dX5_likely_62 : decode cX5_likely 62 = .ok (.istore_n 2, 1) := by decide +kernel
theorem dX5_likely_63 : decode cX5_likely 63 = .ok (.iload_n 2, 1) := by decide +kernel
theorem dX5_likely_64 : decode cX5_likely 64 = .ok (.ifCond .lt 19, 3) := by decide +kernel
theorem dX5_likely_67 : decode cX5_likely 67 = .ok (.iload_n 2, 1) := by decide +kernel
theorem dX5_likely_68 : decode cX5_likely 68 = .ok (.bipush 9, 2) := by decide +kernel
theorem dX5_likely_70 : decode cX5_likely 70 = .ok (.if_icmp .gt 13, 3) := by decide +kernel
theorem dX5_likely_73 : decode cX5_likely 73 = .ok (.aload_n 0, 1) := by decide +kernel
theorem dX5_likely_74 : decode cX5_likely 74 = .ok (.getfield 52, 3) := by decide +kernel
theorem dX5_likely_77 : decode cX5_likely 77 = .ok (.iload_n 2, 1) := by decide +kernel
theorem dX5_likely_78 : decode cX5_likely 78 = .ok (.dup2, 1) := by decide +kernel
theorem dX5_likely_79 : decode cX5_likely 79 = .ok (.iaload, 1) := by decide +kernel
theorem dX5_likely_80 : decode cX5_likely 80 = .ok (.iconst 1, 1) := by decide +kernel
theorem dX5_likely_81 : decode cX5_likely 81 = .ok (.iadd, 1) := by decide +kernel
theorem dX5_likely_82 : decode cX5_likely 82 = .ok (.iastore, 1) := by decide +kernel
theorem dX5_likely_83 : decode cX5_likely 83 = .ok (.iinc 1 1, 3) := by decide +kernel
theorem dX5_likely_86 : decode cX5_likely 86 = .ok (.goto (-63), 3) := by decide +kernel
theorem dX5_likely_89 : decode cX5_likely 89 = .ok (.bipush (-9), 2) := by decide +kernel
theorem dX5_likely_91 : decode cX5_likely 91 = .ok (.istore_n 1, 1) := by decide +kernel
theorem dX5_likely_92 : decode cX5_likely 92 = .ok (.iconst 0, 1) := by decide +kernel
theorem dX5_likely_93 : decode cX5_likely 93 = .ok (.istore_n 2, 1) := by decide +kernel
theorem dX5_likely_94 : decode cX5_likely 94 = .ok (.iconst 0, 1) := by decide +kernel
theorem dX5_likely_95 : decode cX5_likely 95 = .ok (.istore_n 3, 1) := by decide +kernel
theorem dX5_likely_96 : decode cX5_likely 96 = .ok (.iload_n 3, 1) := by decide +kernel
theorem dX5_likely_97 : decode cX5_likely 97 = .ok (.bipush 9, 2) := by decide +kernel
theorem dX5_likely_99 : decode cX5_likely 99 = .ok (.if_icmp .gt 28, 3) := by decide +kernel
theorem dX5_likely_102 : decode cX5_likely 102 = .ok (.aload_n 0, 1) := by decide +kernel
theorem dX5_likely_103 : decode cX5_likely 103 = .ok (.getfield 52, 3) := by decide +kernel
theorem dX5_likely_106 : decode cX5_likely 106 = .ok (.iload_n 3, 1) := by decide +kernel
theorem dX5_likely_107 : decode cX5_likely 107 = .ok (.iaload, 1) := by decide +kernel
theorem dX5_likely_108 : decode cX5_likely 108 = .ok (.iload_n 2, 1) := by decide +kernel
theorem dX5_likely_109 : decode cX5_likely 109 = .ok (.if_icmp .le 12, 3) := by decide +kernel
theorem dX5_likely_112 : decode cX5_likely 112 = .ok (.aload_n 0, 1) := by decide +kernel
theorem dX5_likely_113 : decode cX5_likely 113 = .ok (.getfield 52, 3) := by decide +kernel
theorem dX5_likely_116 : decode cX5_likely 116 = .ok (.iload_n 3, 1) := by decide +kernel
theorem dX5_likely_117 : decode cX5_likely 117 = .ok (.iaload, 1) := by decide +kernel
theorem dX5_likely_118 : decode cX5_likely 118 = .ok (.istore_n 2, 1) := by decide +kernel
theorem dX5_likely_119 : decode cX5_likely 119 = .ok (.iload_n 3, 1) := by decide +kernel
theorem dX5_likely_120 : decode cX5_likely 120 = .ok (.istore_n 1, 1) := by decide +kernel
theorem dX5_likely_121 : decode cX5_likely 121 = .ok (.iinc 3 1, 3) := by decide +kernel
theorem dX5_likely_124 : decode cX5_likely 124 = .ok (.goto (-28), 3) := by decide +kernel
theorem dX5_likely_127 : decode cX5_likely 127 = .ok (.iload_n 1, 1) := by decide +kernel
theorem dX5_likely_128 : decode cX5_likely 128 = .ok (.ireturn, 1) := by decide +kernel
theorem dX5_kept_0 : decode cX5_kept 0 = .ok (.iload_n 1, 1) := by decide +kernel
theorem dX5_kept_1 : decode cX5_kept 1 = .ok (.lookupswitch 41 #[(0, 27), (1, 32)], 27) := by decide +kernel
theorem dX5_kept_28 : decode cX5_kept 28 = .ok (.aload_n 0, 1) := by decide +kernel
theorem dX5_kept_29 : decode cX5_kept 29 = .ok (.invokevirtual 209, 3) := by decide +kernel
theorem dX5_kept_32 : decode cX5_kept 32 = .ok (.ireturn, 1) := by decide +kernel
theorem dX5_kept_33 : decode cX5_kept 33 = .ok (.aload_n 0, 1) := by decide +kernel
theorem dX5_kept_34 : decode cX5_kept 34 = .ok (.aload_n 0, 1) := by decide +kernel
theorem dX5_kept_35 : decode cX5_kept 35 = .ok (.invokevirtual 209, 3) := by decide +kernel
theorem dX5_kept_38 : decode cX5_kept 38 = .ok (.invokevirtual 212, 3) := by decide +kernel
theorem dX5_kept_41 : decode cX5_kept 41 = .ok (.ireturn, 1) := by decide +kernel
theorem dX5_kept_42 : decode cX5_kept 42 = .ok (.iconst (-1), 1) := by decide +kernel
theorem dX5_kept_43 : decode cX5_kept 43 = .ok (.ireturn, 1) := by decide +kernel
theorem dX5_order_0 : decode cX5_order 0 = .ok (.iload_n 1, 1) := by decide +kernel
theorem dX5_order_1 : decode cX5_order 1 = .ok (.iconst (-1), 1) := by decide +kernel
theorem dX5_order_2 : decode cX5_order 2 = .ok (.if_icmp .lt 9, 3) := by decide +kernel
theorem dX5_order_5 : decode cX5_order 5 = .ok (.iload_n 1, 1) := by decide +kernel
theorem dX5_order_6 : decode cX5_order 6 = .ok (.bipush 8, 2) := by decide +kernel
theorem dX5_order_8 : decode cX5_order 8 = .ok (.if_icmp .lt 5, 3) := by decide +kernel
theorem dX5_order_11 : decode cX5_order 11 = .ok (.iconst (-1), 1) := by decide +kernel
theorem dX5_order_12 : decode cX5_order 12 = .ok (.ireturn, 1) := by decide +kernel
theorem dX5_order_13 : decode cX5_order 13 = .ok (.aload_n 0, 1) := by decide +kernel
theorem dX5_order_14 : decode cX5_order 14 = .ok (.invokevirtual 215, 3) := by decide +kernel
theorem dX5_order_17 : decode cX5_order 17 = .ok (.istore_n 2, 1) := by decide +kernel
theorem dX5_order_18 : decode cX5_order 18 = .ok (.iload_n 1, 1) := by decide +kernel
theorem dX5_order_19 : decode cX5_order 19 = .ok (.iconst (-1), 1) := by decide +kernel
theorem dX5_order_20 : decode cX5_order 20 = .ok (.if_icmp .ne 8, 3) := by decide +kernel
theorem dX5_order_23 : decode cX5_order 23 = .ok (.iload_n 2, 1) := by decide +kernel
theorem dX5_order_24 : decode cX5_order 24 = .ok (.invokestatic 181, 3) := by decide +kernel
theorem dX5_order_27 : decode cX5_order 27 = .ok (.ireturn, 1) := by decide +kernel
theorem dX5_order_28 : decode cX5_order 28 = .ok (.iconst 0, 1) := by decide +kernel
theorem dX5_order_29 : decode cX5_order 29 = .ok (.istore_n 3, 1) := by decide +kernel
theorem dX5_order_30 : decode cX5_order 30 = .ok (.iload_n 3, 1) := by decide +kernel
theorem dX5_order_31 : decode cX5_order 31 = .ok (.iload_n 1, 1) := by decide +kernel
theorem dX5_order_32 : decode cX5_order 32 = .ok (.if_icmp .ge 19, 3) := by decide +kernel
theorem dX5_order_35 : decode cX5_order 35 = .ok (.iload_n 2, 1) := by decide +kernel
theorem dX5_order_36 : decode cX5_order 36 = .ok (.aload_n 0, 1) := by decide +kernel
theorem dX5_order_37 : decode cX5_order 37 = .ok (.iload_n 2, 1) := by decide +kernel
theorem dX5_order_38 : decode cX5_order 38 = .ok (.invokevirtual 218, 3) := by decide +kernel
theorem dX5_order_41 : decode cX5_order 41 = .ok (.invokestatic 221, 3) := by decide +kernel
theorem dX5_order_44 : decode cX5_order 44 = .ok (.istore_n 2, 1) := by decide +kernel
theorem dX5_order_45 : decode cX5_order 45 = .ok (.iinc 3 1, 3) := by decide +kernel
theorem dX5_order_48 : decode cX5_order 48 = .ok (.goto (-18), 3) := by decide +kernel
theorem dX5_order_51 : decode cX5_order 51 = .ok (.aload_n 0, 1) := by decide +kernel
theorem dX5_order_52 : decode cX5_order 52 = .ok (.iload_n 2, 1) := by decide +kernel
theorem dX5_order_53 : decode cX5_order 53 = .ok (.invokevirtual 218, 3) := by decide +kernel
theorem dX5_order_56 : decode cX5_order 56 = .ok (.ireturn, 1) := by decide +kernel
theorem dX5_drain_0 : decode cX5_drain 0 = .ok (.iload_n 1, 1) := by decide +kernel
theorem dX5_drain_1 : decode cX5_drain 1 = .ok (.ifCond .lt 9, 3) := by decide +kernel
theorem dX5_drain_4 : decode cX5_drain 4 = .ok (.iload_n 1, 1) := by decide +kernel
theorem dX5_drain_5 : decode cX5_drain 5 = .ok (.bipush 20, 2) := by decide +kernel
theorem dX5_drain_7 : decode cX5_drain 7 = .ok (.if_icmp .le 5, 3) := by decide +kernel
theorem dX5_drain_10 : decode cX5_drain 10 = .ok (.iconst (-1), 1) := by decide +kernel
theorem dX5_drain_11 : decode cX5_drain 11 = .ok (.ireturn, 1) := by decide +kernel
theorem dX5_drain_12 : decode cX5_drain 12 = .ok (.bipush (-9), 2) := by decide +kernel
theorem dX5_drain_14 : decode cX5_drain 14 = .ok (.istore_n 2, 1) := by decide +kernel
theorem dX5_drain_15 : decode cX5_drain 15 = .ok (.bipush 7, 2) := by decide +kernel
theorem dX5_drain_17 : decode cX5_drain 17 = .ok (.istore_n 3, 1) := by decide +kernel
theorem dX5_drain_18 : decode cX5_drain 18 = .ok (.iconst 0, 1) := by decide +kernel
theorem dX5_drain_19 : decode cX5_drain 19 = .ok (.istore 4, 2) := by decide +kernel
theorem dX5_drain_21 : decode cX5_drain 21 = .ok (.iload 4, 2) := by decide +kernel
theorem dX5_drain_23 : decode cX5_drain 23 = .ok (.bipush 64, 2) := by decide +kernel
theorem dX5_drain_25 : decode cX5_drain 25 = .ok (.if_icmp .ge 37, 3) := by decide +kernel
theorem dX5_drain_28 : decode cX5_drain 28 = .ok (.iload 4, 2) := by decide +kernel
theorem dX5_drain_30 : decode cX5_drain 30 = .ok (.invokestatic 181, 3) := by decide +kernel
theorem dX5_drain_33 : decode cX5_drain 33 = .ok (.iload_n 3, 1) := by decide +kernel
theorem dX5_drain_34 : decode cX5_drain 34 = .ok (.if_icmp .ge 22, 3) := by decide +kernel
theorem dX5_drain_37 : decode cX5_drain 37 = .ok (.aload_n 0, 1) := by decide +kernel
theorem dX5_drain_38 : decode cX5_drain 38 = .ok (.iload 4, 2) := by decide +kernel
theorem dX5_drain_40 : decode cX5_drain 40 = .ok (.iload_n 1, 1) := by decide +kernel
theorem dX5_drain_41 : decode cX5_drain 41 = .ok (.invokevirtual 224, 3) := by decide +kernel
theorem dX5_drain_44 : decode cX5_drain 44 = .ok (.ifCond .eq 12, 3) := by decide +kernel
theorem dX5_drain_47 : decode cX5_drain 47 = .ok (.iload 4, 2) := by decide +kernel
theorem dX5_drain_49 : decode cX5_drain 49 = .ok (.istore_n 2, 1) := by decide +kernel
theorem dX5_drain_50 : decode cX5_drain 50 = .ok (.iload 4, 2) := by decide +kernel
theorem dX5_drain_52 : decode cX5_drain 52 = .ok (.invokestatic 181, 3) := by decide +kernel
theorem dX5_drain_55 : decode cX5_drain 55 = .ok (.istore_n 3, 1) := by decide +kernel
theorem dX5_drain_56 : decode cX5_drain 56 = .ok (.iinc 4 1, 3) := by decide +kernel
theorem dX5_drain_59 : decode cX5_drain 59 = .ok (.goto (-38), 3) := by decide +kernel
theorem dX5_drain_62 : decode cX5_drain 62 = .ok (.iload_n 2, 1) := by decide +kernel
theorem dX5_drain_63 : decode cX5_drain 63 = .ok (.ireturn, 1) := by decide +kernel
theorem dX5_odds_0 : decode cX5_odds 0 = .ok (.iload_n 1, 1) := by decide +kernel
theorem dX5_odds_1 : decode cX5_odds 1 = .ok (.ifCond .lt 40, 3) := by decide +kernel
theorem dX5_odds_4 : decode cX5_odds 4 = .ok (.iload_n 1, 1) := by decide +kernel
theorem dX5_odds_5 : decode cX5_odds 5 = .ok (.bipush 10, 2) := by decide +kernel
theorem dX5_odds_7 : decode cX5_odds 7 = .ok (.if_icmp .gt 34, 3) := by decide +kernel
theorem dX5_odds_10 : decode cX5_odds 10 = .ok (.iload_n 2, 1) := by decide +kernel
theorem dX5_odds_11 : decode cX5_odds 11 = .ok (.ifCond .lt 30, 3) := by decide +kernel
theorem dX5_odds_14 : decode cX5_odds 14 = .ok (.iload_n 2, 1) := by decide +kernel
theorem dX5_odds_15 : decode cX5_odds 15 = .ok (.bipush 6, 2) := by decide +kernel
theorem dX5_odds_17 : decode cX5_odds 17 = .ok (.if_icmp .gt 24, 3) := by decide +kernel
theorem dX5_odds_20 : decode cX5_odds 20 = .ok (.iload_n 3, 1) := by decide +kernel
theorem dX5_odds_21 : decode cX5_odds 21 = .ok (.ifCond .lt 20, 3) := by decide +kernel
theorem dX5_odds_24 : decode cX5_odds 24 = .ok (.iload_n 3, 1) := by decide +kernel
theorem dX5_odds_25 : decode cX5_odds 25 = .ok (.bipush 6, 2) := by decide +kernel
theorem dX5_odds_27 : decode cX5_odds 27 = .ok (.if_icmp .gt 14, 3) := by decide +kernel
theorem dX5_odds_30 : decode cX5_odds 30 = .ok (.iload 4, 2) := by decide +kernel
theorem dX5_odds_32 : decode cX5_odds 32 = .ok (.ifCond .lt 9, 3) := by decide +kernel
theorem dX5_odds_35 : decode cX5_odds 35 = .ok (.iload 4, 2) := by decide +kernel
theorem dX5_odds_37 : decode cX5_odds 37 = .ok (.iconst 1, 1) := by decide +kernel
theorem dX5_odds_38 : decode cX5_odds 38 = .ok (.if_icmp .le 5, 3) := by decide +kernel
theorem dX5_odds_41 : decode cX5_odds 41 = .ok (.iconst (-1), 1) := by decide +kernel
theorem dX5_odds_42 : decode cX5_odds 42 = .ok (.ireturn, 1) := by decide +kernel
theorem dX5_odds_43 : decode cX5_odds 43 = .ok (.iconst 0, 1) := by decide +kernel
theorem dX5_odds_44 : decode cX5_odds 44 = .ok (.istore 5, 2) := by decide +kernel
theorem dX5_odds_46 : decode cX5_odds 46 = .ok (.iload_n 3, 1) := by decide +kernel
theorem dX5_odds_47 : decode cX5_odds 47 = .ok (.istore 6, 2) := by decide +kernel
theorem dX5_odds_49 : decode cX5_odds 49 = .ok (.iload 6, 2) := by decide +kernel
theorem dX5_odds_51 : decode cX5_odds 51 = .ok (.iload_n 2, 1) := by decide +kernel
theorem dX5_odds_52 : decode cX5_odds 52 = .ok (.if_icmp .gt 39, 3) := by decide +kernel
theorem dX5_odds_55 : decode cX5_odds 55 = .ok (.iload 5, 2) := by decide +kernel
theorem dX5_odds_57 : decode cX5_odds 57 = .ok (.iload_n 2, 1) := by decide +kernel
theorem dX5_odds_58 : decode cX5_odds 58 = .ok (.iload 6, 2) := by decide +kernel
theorem dX5_odds_60 : decode cX5_odds 60 = .ok (.invokestatic 227, 3) := by decide +kernel
theorem dX5_odds_63 : decode cX5_odds 63 = .ok (.iload_n 1, 1) := by decide +kernel
theorem dX5_odds_64 : decode cX5_odds 64 = .ok (.iload 6, 2) := by decide +kernel
theorem dX5_odds_66 : decode cX5_odds 66 = .ok (.invokestatic 230, 3) := by decide +kernel
theorem dX5_odds_69 : decode cX5_odds 69 = .ok (.imul, 1) := by decide +kernel
theorem dX5_odds_70 : decode cX5_odds 70 = .ok (.bipush 10, 2) := by decide +kernel
theorem dX5_odds_72 : decode cX5_odds 72 = .ok (.iload_n 1, 1) := by decide +kernel
theorem dX5_odds_73 : decode cX5_odds 73 = .ok (.isub, 1) := by decide +kernel
theorem dX5_odds_74 : decode cX5_odds 74 = .ok (.iload_n 2, 1) := by decide +kernel
theorem dX5_odds_75 : decode cX5_odds 75 = .ok (.iload 6, 2) := by decide +kernel
theorem dX5_odds_77 : decode cX5_odds 77 = .ok (.isub, 1) := by decide +kernel
theorem dX5_odds_78 : decode cX5_odds 78 = .ok (.invokestatic 230, 3) := by decide +kernel
theorem dX5_odds_81 : decode cX5_odds 81 = .ok (.imul, 1) := by decide +kernel
theorem dX5_odds_82 : decode cX5_odds 82 = .ok (.iadd, 1) := by decide +kernel
theorem dX5_odds_83 : decode cX5_odds 83 = .ok (.istore 5, 2) := by decide +kernel
theorem dX5_odds_85 : decode cX5_odds 85 = .ok (.iinc 6 1, 3) := by decide +kernel
theorem dX5_odds_88 : decode cX5_odds 88 = .ok (.goto (-39), 3) := by decide +kernel
theorem dX5_odds_91 : decode cX5_odds 91 = .ok (.bipush 10, 2) := by decide +kernel
theorem dX5_odds_93 : decode cX5_odds 93 = .ok (.iload_n 2, 1) := by decide +kernel
theorem dX5_odds_94 : decode cX5_odds 94 = .ok (.invokestatic 230, 3) := by decide +kernel
theorem dX5_odds_97 : decode cX5_odds 97 = .ok (.istore 6, 2) := by decide +kernel
theorem dX5_odds_99 : decode cX5_odds 99 = .ok (.iload 5, 2) := by decide +kernel
theorem dX5_odds_101 : decode cX5_odds 101 = .ok (.iload 6, 2) := by decide +kernel
theorem dX5_odds_103 : decode cX5_odds 103 = .ok (.invokestatic 233, 3) := by decide +kernel
theorem dX5_odds_106 : decode cX5_odds 106 = .ok (.istore 7, 2) := by decide +kernel
theorem dX5_odds_108 : decode cX5_odds 108 = .ok (.iload 7, 2) := by decide +kernel
theorem dX5_odds_110 : decode cX5_odds 110 = .ok (.iconst 1, 1) := by decide +kernel
theorem dX5_odds_111 : decode cX5_odds 111 = .ok (.if_icmp .ge 5, 3) := by decide +kernel
theorem dX5_odds_114 : decode cX5_odds 114 = .ok (.iconst (-1), 1) := by decide +kernel
theorem dX5_odds_115 : decode cX5_odds 115 = .ok (.ireturn, 1) := by decide +kernel
theorem dX5_odds_116 : decode cX5_odds 116 = .ok (.iload 4, 2) := by decide +kernel
theorem dX5_odds_118 : decode cX5_odds 118 = .ok (.ifCond .ne 11, 3) := by decide +kernel
theorem dX5_odds_121 : decode cX5_odds 121 = .ok (.iload 5, 2) := by decide +kernel
theorem dX5_odds_123 : decode cX5_odds 123 = .ok (.iload 7, 2) := by decide +kernel
theorem dX5_odds_125 : decode cX5_odds 125 = .ok (.idiv, 1) := by decide +kernel
theorem dX5_odds_126 : decode cX5_odds 126 = .ok (.goto 8, 3) := by decide +kernel
theorem dX5_odds_129 : decode cX5_odds 129 = .ok (.iload 6, 2) := by decide +kernel
theorem dX5_odds_131 : decode cX5_odds 131 = .ok (.iload 7, 2) := by decide +kernel
theorem dX5_odds_133 : decode cX5_odds 133 = .ok (.idiv, 1) := by decide +kernel
theorem dX5_odds_134 : decode cX5_odds 134 = .ok (.ireturn, 1) := by decide +kernel
theorem dX5_rate_0 : decode cX5_rate 0 = .ok (.aload_n 0, 1) := by decide +kernel
theorem dX5_rate_1 : decode cX5_rate 1 = .ok (.getfield 19, 3) := by decide +kernel
theorem dX5_rate_4 : decode cX5_rate 4 = .ok (.iload_n 2, 1) := by decide +kernel
theorem dX5_rate_5 : decode cX5_rate 5 = .ok (.invokevirtual 100, 3) := by decide +kernel
theorem dX5_rate_8 : decode cX5_rate 8 = .ok (.ifCond .ne 6, 3) := by decide +kernel
theorem dX5_rate_11 : decode cX5_rate 11 = .ok (.ldc 236, 2) := by decide +kernel
theorem dX5_rate_13 : decode cX5_rate 13 = .ok (.ireturn, 1) := by decide +kernel
theorem dX5_rate_14 : decode cX5_rate 14 = .ok (.iload_n 1, 1) := by decide +kernel
theorem dX5_rate_15 : decode cX5_rate 15 = .ok (.tableswitch 73 0 5 #[37, 43, 49, 55, 61, 67], 37) := by decide +kernel
theorem dX5_rate_52 : decode cX5_rate 52 = .ok (.aload_n 0, 1) := by decide +kernel
theorem dX5_rate_53 : decode cX5_rate 53 = .ok (.iload_n 2, 1) := by decide +kernel
theorem dX5_rate_54 : decode cX5_rate 54 = .ok (.invokevirtual 237, 3) := by decide +kernel
theorem dX5_rate_57 : decode cX5_rate 57 = .ok (.ireturn, 1) := by decide +kernel
theorem dX5_rate_58 : decode cX5_rate 58 = .ok (.aload_n 0, 1) := by decide +kernel
theorem dX5_rate_59 : decode cX5_rate 59 = .ok (.iload_n 2, 1) := by decide +kernel
theorem dX5_rate_60 : decode cX5_rate 60 = .ok (.invokevirtual 240, 3) := by decide +kernel
theorem dX5_rate_63 : decode cX5_rate 63 = .ok (.ireturn, 1) := by decide +kernel
theorem dX5_rate_64 : decode cX5_rate 64 = .ok (.aload_n 0, 1) := by decide +kernel
theorem dX5_rate_65 : decode cX5_rate 65 = .ok (.iload_n 2, 1) := by decide +kernel
theorem dX5_rate_66 : decode cX5_rate 66 = .ok (.invokevirtual 243, 3) := by decide +kernel
theorem dX5_rate_69 : decode cX5_rate 69 = .ok (.ireturn, 1) := by decide +kernel
theorem dX5_rate_70 : decode cX5_rate 70 = .ok (.aload_n 0, 1) := by decide +kernel
theorem dX5_rate_71 : decode cX5_rate 71 = .ok (.iload_n 2, 1) := by decide +kernel
theorem dX5_rate_72 : decode cX5_rate 72 = .ok (.invokevirtual 246, 3) := by decide +kernel
theorem dX5_rate_75 : decode cX5_rate 75 = .ok (.ireturn, 1) := by decide +kernel
theorem dX5_rate_76 : decode cX5_rate 76 = .ok (.aload_n 0, 1) := by decide +kernel
theorem dX5_rate_77 : decode cX5_rate 77 = .ok (.iload_n 2, 1) := by decide +kernel
theorem dX5_rate_78 : decode cX5_rate 78 = .ok (.invokevirtual 249, 3) := by decide +kernel
theorem dX5_rate_81 : decode cX5_rate 81 = .ok (.ireturn, 1) := by decide +kernel
theorem dX5_rate_82 : decode cX5_rate 82 = .ok (.aload_n 0, 1) := by decide +kernel
theorem dX5_rate_83 : decode cX5_rate 83 = .ok (.iload_n 2, 1) := by decide +kernel
theorem dX5_rate_84 : decode cX5_rate 84 = .ok (.invokevirtual 252, 3) := by decide +kernel
theorem dX5_rate_87 : decode cX5_rate 87 = .ok (.ireturn, 1) := by decide +kernel
theorem dX5_rate_88 : decode cX5_rate 88 = .ok (.ldc 236, 2) := by decide +kernel
theorem dX5_rate_90 : decode cX5_rate 90 = .ok (.ireturn, 1) := by decide +kernel
theorem dX5_keep_0 : decode cX5_keep 0 = .ok (.iload_n 1, 1) := by decide +kernel
theorem dX5_keep_1 : decode cX5_keep 1 = .ok (.ifCond .lt 17, 3) := by decide +kernel
theorem dX5_keep_4 : decode cX5_keep 4 = .ok (.iload_n 1, 1) := by decide +kernel
theorem dX5_keep_5 : decode cX5_keep 5 = .ok (.iconst 2, 1) := by decide +kernel
theorem dX5_keep_6 : decode cX5_keep 6 = .ok (.if_icmp .ge 12, 3) := by decide +kernel
theorem dX5_keep_9 : decode cX5_keep 9 = .ok (.aload_n 0, 1) := by decide +kernel
theorem dX5_keep_10 : decode cX5_keep 10 = .ok (.getfield 37, 3) := by decide +kernel
theorem dX5_keep_13 : decode cX5_keep 13 = .ok (.iload_n 1, 1) := by decide +kernel
theorem dX5_keep_14 : decode cX5_keep 14 = .ok (.aaload, 1) := by decide +kernel
theorem dX5_keep_15 : decode cX5_keep 15 = .ok (.ifnonnull 5, 3) := by decide +kernel
theorem dX5_keep_18 : decode cX5_keep 18 = .ok (.iconst (-1), 1) := by decide +kernel
theorem dX5_keep_19 : decode cX5_keep 19 = .ok (.ireturn, 1) := by decide +kernel
theorem dX5_keep_20 : decode cX5_keep 20 = .ok (.aload_n 0, 1) := by decide +kernel
theorem dX5_keep_21 : decode cX5_keep 21 = .ok (.getfield 37, 3) := by decide +kernel
theorem dX5_keep_24 : decode cX5_keep 24 = .ok (.iload_n 1, 1) := by decide +kernel
theorem dX5_keep_25 : decode cX5_keep 25 = .ok (.aaload, 1) := by decide +kernel
theorem dX5_keep_26 : decode cX5_keep 26 = .ok (.aload_n 0, 1) := by decide +kernel
theorem dX5_keep_27 : decode cX5_keep 27 = .ok (.getfield 26, 3) := by decide +kernel
theorem dX5_keep_30 : decode cX5_keep 30 = .ok (.invokevirtual 255, 3) := by decide +kernel
theorem dX5_keep_33 : decode cX5_keep 33 = .ok (.aload_n 0, 1) := by decide +kernel
theorem dX5_keep_34 : decode cX5_keep 34 = .ok (.getfield 41, 3) := by decide +kernel
theorem dX5_keep_37 : decode cX5_keep 37 = .ok (.iload_n 1, 1) := by decide +kernel
theorem dX5_keep_38 : decode cX5_keep 38 = .ok (.iconst 1, 1) := by decide +kernel
theorem dX5_keep_39 : decode cX5_keep 39 = .ok (.bastore, 1) := by decide +kernel
theorem dX5_keep_40 : decode cX5_keep 40 = .ok (.aload_n 0, 1) := by decide +kernel
theorem dX5_keep_41 : decode cX5_keep 41 = .ok (.getfield 26, 3) := by decide +kernel
theorem dX5_keep_44 : decode cX5_keep 44 = .ok (.getfield 150, 3) := by decide +kernel
theorem dX5_keep_47 : decode cX5_keep 47 = .ok (.ireturn, 1) := by decide +kernel
theorem dX5_back_0 : decode cX5_back 0 = .ok (.iload_n 1, 1) := by decide +kernel
theorem dX5_back_1 : decode cX5_back 1 = .ok (.ifCond .lt 17, 3) := by decide +kernel
theorem dX5_back_4 : decode cX5_back 4 = .ok (.iload_n 1, 1) := by decide +kernel
theorem dX5_back_5 : decode cX5_back 5 = .ok (.iconst 2, 1) := by decide +kernel
theorem dX5_back_6 : decode cX5_back 6 = .ok (.if_icmp .ge 12, 3) := by decide +kernel
theorem dX5_back_9 : decode cX5_back 9 = .ok (.aload_n 0, 1) := by decide +kernel
theorem dX5_back_10 : decode cX5_back 10 = .ok (.getfield 37, 3) := by decide +kernel
theorem dX5_back_13 : decode cX5_back 13 = .ok (.iload_n 1, 1) := by decide +kernel
theorem dX5_back_14 : decode cX5_back 14 = .ok (.aaload, 1) := by decide +kernel
theorem dX5_back_15 : decode cX5_back 15 = .ok (.ifnonnull 5, 3) := by decide +kernel
theorem dX5_back_18 : decode cX5_back 18 = .ok (.iconst (-1), 1) := by decide +kernel
theorem dX5_back_19 : decode cX5_back 19 = .ok (.ireturn, 1) := by decide +kernel
theorem dX5_back_20 : decode cX5_back 20 = .ok (.aload_n 0, 1) := by decide +kernel
theorem dX5_back_21 : decode cX5_back 21 = .ok (.getfield 41, 3) := by decide +kernel
theorem dX5_back_24 : decode cX5_back 24 = .ok (.iload_n 1, 1) := by decide +kernel
theorem dX5_back_25 : decode cX5_back 25 = .ok (.baload, 1) := by decide +kernel
theorem dX5_back_26 : decode cX5_back 26 = .ok (.ifCond .ne 6, 3) := by decide +kernel
theorem dX5_back_29 : decode cX5_back 29 = .ok (.bipush (-2), 2) := by decide +kernel
theorem dX5_back_31 : decode cX5_back 31 = .ok (.ireturn, 1) := by decide +kernel
theorem dX5_back_32 : decode cX5_back 32 = .ok (.aload_n 0, 1) := by decide +kernel
theorem dX5_back_33 : decode cX5_back 33 = .ok (.getfield 26, 3) := by decide +kernel
theorem dX5_back_36 : decode cX5_back 36 = .ok (.aload_n 0, 1) := by decide +kernel
theorem dX5_back_37 : decode cX5_back 37 = .ok (.getfield 37, 3) := by decide +kernel
theorem dX5_back_40 : decode cX5_back 40 = .ok (.iload_n 1, 1) := by decide +kernel
theorem dX5_back_41 : decode cX5_back 41 = .ok (.aaload, 1) := by decide +kernel
theorem dX5_back_42 : decode cX5_back 42 = .ok (.invokevirtual 255, 3) := by decide +kernel
theorem dX5_back_45 : decode cX5_back 45 = .ok (.aload_n 0, 1) := by decide +kernel
theorem dX5_back_46 : decode cX5_back 46 = .ok (.getfield 33, 3) := by decide +kernel
theorem dX5_back_49 : decode cX5_back 49 = .ok (.invokevirtual 88, 3) := by decide +kernel
theorem dX5_back_52 : decode cX5_back 52 = .ok (.aload_n 0, 1) := by decide +kernel
theorem dX5_back_53 : decode cX5_back 53 = .ok (.getfield 26, 3) := by decide +kernel
theorem dX5_back_56 : decode cX5_back 56 = .ok (.getfield 150, 3) := by decide +kernel
theorem dX5_back_59 : decode cX5_back 59 = .ok (.ireturn, 1) := by decide +kernel
theorem dX5_count_0 : decode cX5_count 0 = .ok (.iload_n 1, 1) := by decide +kernel
theorem dX5_count_1 : decode cX5_count 1 = .ok (.tableswitch 87 0 5 #[39, 47, 55, 63, 71, 76], 39) := by decide +kernel
theorem dX5_count_40 : decode cX5_count 40 = .ok (.aload_n 0, 1) := by decide +kernel
theorem dX5_count_41 : decode cX5_count 41 = .ok (.getfield 19, 3) := by decide +kernel
theorem dX5_count_44 : decode cX5_count 44 = .ok (.getfield 257, 3) := by decide +kernel
theorem dX5_count_47 : decode cX5_count 47 = .ok (.ireturn, 1) := by decide +kernel
theorem dX5_count_48 : decode cX5_count 48 = .ok (.aload_n 0, 1) := by decide +kernel
theorem dX5_count_49 : decode cX5_count 49 = .ok (.getfield 19, 3) := by decide +kernel
theorem dX5_count_52 : decode cX5_count 52 = .ok (.getfield 260, 3) := by decide +kernel
theorem dX5_count_55 : decode cX5_count 55 = .ok (.ireturn, 1) := by decide +kernel
theorem dX5_count_56 : decode cX5_count 56 = .ok (.aload_n 0, 1) := by decide +kernel
theorem dX5_count_57 : decode cX5_count 57 = .ok (.getfield 19, 3) := by decide +kernel
theorem dX5_count_60 : decode cX5_count 60 = .ok (.getfield 263, 3) := by decide +kernel
theorem dX5_count_63 : decode cX5_count 63 = .ok (.ireturn, 1) := by decide +kernel
theorem dX5_count_64 : decode cX5_count 64 = .ok (.aload_n 0, 1) := by decide +kernel
theorem dX5_count_65 : decode cX5_count 65 = .ok (.getfield 19, 3) := by decide +kernel
theorem dX5_count_68 : decode cX5_count 68 = .ok (.getfield 266, 3) := by decide +kernel
theorem dX5_count_71 : decode cX5_count 71 = .ok (.ireturn, 1) := by decide +kernel
theorem dX5_count_72 : decode cX5_count 72 = .ok (.aload_n 0, 1) := by decide +kernel
theorem dX5_count_73 : decode cX5_count 73 = .ok (.getfield 55, 3) := by decide +kernel
theorem dX5_count_76 : decode cX5_count 76 = .ok (.ireturn, 1) := by decide +kernel
theorem dX5_count_77 : decode cX5_count 77 = .ok (.aload_n 0, 1) := by decide +kernel
theorem dX5_count_78 : decode cX5_count 78 = .ok (.getfield 10, 3) := by decide +kernel
theorem dX5_count_81 : decode cX5_count 81 = .ok (.getfield 63, 3) := by decide +kernel
theorem dX5_count_84 : decode cX5_count 84 = .ok (.getfield 73, 3) := by decide +kernel
theorem dX5_count_87 : decode cX5_count 87 = .ok (.ireturn, 1) := by decide +kernel
theorem dX5_count_88 : decode cX5_count 88 = .ok (.iconst (-1), 1) := by decide +kernel
theorem dX5_count_89 : decode cX5_count 89 = .ok (.ireturn, 1) := by decide +kernel
theorem dX5_trace_0 : decode cX5_trace 0 = .ok (.aload_n 0, 1) := by decide +kernel
theorem dX5_trace_1 : decode cX5_trace 1 = .ok (.getfield 59, 3) := by decide +kernel
theorem dX5_trace_4 : decode cX5_trace 4 = .ok (.lreturn, 1) := by decide +kernel
theorem dX5_isCell_0 : decode cX5_isCell 0 = .ok (.iload_n 0, 1) := by decide +kernel
theorem dX5_isCell_1 : decode cX5_isCell 1 = .ok (.ifCond .lt 13, 3) := by decide +kernel
theorem dX5_isCell_4 : decode cX5_isCell 4 = .ok (.iload_n 0, 1) := by decide +kernel
theorem dX5_isCell_5 : decode cX5_isCell 5 = .ok (.bipush 6, 2) := by decide +kernel
theorem dX5_isCell_7 : decode cX5_isCell 7 = .ok (.if_icmp .ge 7, 3) := by decide +kernel
theorem dX5_isCell_10 : decode cX5_isCell 10 = .ok (.iconst 1, 1) := by decide +kernel
theorem dX5_isCell_11 : decode cX5_isCell 11 = .ok (.goto 4, 3) := by decide +kernel
theorem dX5_isCell_14 : decode cX5_isCell 14 = .ok (.iconst 0, 1) := by decide +kernel
theorem dX5_isCell_15 : decode cX5_isCell 15 = .ok (.ireturn, 1) := by decide +kernel
theorem dX5_isToldYear_0 : decode cX5_isToldYear 0 = .ok (.iload_n 0, 1) := by decide +kernel
theorem dX5_isToldYear_1 : decode cX5_isToldYear 1 = .ok (.ifCond .lt 13, 3) := by decide +kernel
theorem dX5_isToldYear_4 : decode cX5_isToldYear 4 = .ok (.iload_n 0, 1) := by decide +kernel
theorem dX5_isToldYear_5 : decode cX5_isToldYear 5 = .ok (.bipush 99, 2) := by decide +kernel
theorem dX5_isToldYear_7 : decode cX5_isToldYear 7 = .ok (.if_icmp .gt 7, 3) := by decide +kernel
theorem dX5_isToldYear_10 : decode cX5_isToldYear 10 = .ok (.iconst 1, 1) := by decide +kernel
theorem dX5_isToldYear_11 : decode cX5_isToldYear 11 = .ok (.goto 4, 3) := by decide +kernel
theorem dX5_isToldYear_14 : decode cX5_isToldYear 14 = .ok (.iconst 0, 1) := by decide +kernel
theorem dX5_isToldYear_15 : decode cX5_isToldYear 15 = .ok (.ireturn, 1) := by decide +kernel
theorem dX5_holds_0 : decode cX5_holds 0 = .ok (.iload_n 1, 1) := by decide +kernel
theorem dX5_holds_1 : decode cX5_holds 1 = .ok (.ifCond .lt 16, 3) := by decide +kernel
theorem dX5_holds_4 : decode cX5_holds 4 = .ok (.iload_n 0, 1) := by decide +kernel
theorem dX5_holds_5 : decode cX5_holds 5 = .ok (.iload_n 1, 1) := by decide +kernel
theorem dX5_holds_6 : decode cX5_holds 6 = .ok (.ishr, 1) := by decide +kernel
theorem dX5_holds_7 : decode cX5_holds 7 = .ok (.iconst 1, 1) := by decide +kernel
theorem dX5_holds_8 : decode cX5_holds 8 = .ok (.iand, 1) := by decide +kernel
theorem dX5_holds_9 : decode cX5_holds 9 = .ok (.iconst 1, 1) := by decide +kernel
theorem dX5_holds_10 : decode cX5_holds 10 = .ok (.if_icmp .ne 7, 3) := by decide +kernel
theorem dX5_holds_13 : decode cX5_holds 13 = .ok (.iconst 1, 1) := by decide +kernel
theorem dX5_holds_14 : decode cX5_holds 14 = .ok (.goto 4, 3) := by decide +kernel
theorem dX5_holds_17 : decode cX5_holds 17 = .ok (.iconst 0, 1) := by decide +kernel
theorem dX5_holds_18 : decode cX5_holds 18 = .ok (.ireturn, 1) := by decide +kernel
theorem dX5_without_0 : decode cX5_without 0 = .ok (.iload_n 1, 1) := by decide +kernel
theorem dX5_without_1 : decode cX5_without 1 = .ok (.ifCond .ge 7, 3) := by decide +kernel
theorem dX5_without_4 : decode cX5_without 4 = .ok (.iload_n 0, 1) := by decide +kernel
theorem dX5_without_5 : decode cX5_without 5 = .ok (.goto 10, 3) := by decide +kernel
theorem dX5_without_8 : decode cX5_without 8 = .ok (.iload_n 0, 1) := by decide +kernel
theorem dX5_without_9 : decode cX5_without 9 = .ok (.iconst 1, 1) := by decide +kernel
theorem dX5_without_10 : decode cX5_without 10 = .ok (.iload_n 1, 1) := by decide +kernel
theorem dX5_without_11 : decode cX5_without 11 = .ok (.ishl, 1) := by decide +kernel
theorem dX5_without_12 : decode cX5_without 12 = .ok (.iconst (-1), 1) := by decide +kernel
theorem dX5_without_13 : decode cX5_without 13 = .ok (.ixor, 1) := by decide +kernel
theorem dX5_without_14 : decode cX5_without 14 = .ok (.iand, 1) := by decide +kernel
theorem dX5_without_15 : decode cX5_without 15 = .ok (.ireturn, 1) := by decide +kernel
theorem dX5_isNow_0 : decode cX5_isNow 0 = .ok (.aload_n 0, 1) := by decide +kernel
theorem dX5_isNow_1 : decode cX5_isNow 1 = .ok (.getfield 19, 3) := by decide +kernel
theorem dX5_isNow_4 : decode cX5_isNow 4 = .ok (.iload_n 1, 1) := by decide +kernel
theorem dX5_isNow_5 : decode cX5_isNow 5 = .ok (.invokevirtual 100, 3) := by decide +kernel
theorem dX5_isNow_8 : decode cX5_isNow 8 = .ok (.ifCond .eq 20, 3) := by decide +kernel
theorem dX5_isNow_11 : decode cX5_isNow 11 = .ok (.aload_n 0, 1) := by decide +kernel
theorem dX5_isNow_12 : decode cX5_isNow 12 = .ok (.getfield 26, 3) := by decide +kernel
theorem dX5_isNow_15 : decode cX5_isNow 15 = .ok (.getfield 124, 3) := by decide +kernel
theorem dX5_isNow_18 : decode cX5_isNow 18 = .ok (.iload_n 1, 1) := by decide +kernel
theorem dX5_isNow_19 : decode cX5_isNow 19 = .ok (.iaload, 1) := by decide +kernel
theorem dX5_isNow_20 : decode cX5_isNow 20 = .ok (.iload_n 2, 1) := by decide +kernel
theorem dX5_isNow_21 : decode cX5_isNow 21 = .ok (.if_icmp .ne 7, 3) := by decide +kernel
theorem dX5_isNow_24 : decode cX5_isNow 24 = .ok (.iconst 1, 1) := by decide +kernel
theorem dX5_isNow_25 : decode cX5_isNow 25 = .ok (.goto 4, 3) := by decide +kernel
theorem dX5_isNow_28 : decode cX5_isNow 28 = .ok (.iconst 0, 1) := by decide +kernel
theorem dX5_isNow_29 : decode cX5_isNow 29 = .ok (.ireturn, 1) := by decide +kernel
theorem dX5_liesIn_0 : decode cX5_liesIn 0 = .ok (.aload_n 0, 1) := by decide +kernel
theorem dX5_liesIn_1 : decode cX5_liesIn 1 = .ok (.iload_n 1, 1) := by decide +kernel
theorem dX5_liesIn_2 : decode cX5_liesIn 2 = .ok (.iconst 0, 1) := by decide +kernel
theorem dX5_liesIn_3 : decode cX5_liesIn 3 = .ok (.invokevirtual 190, 3) := by decide +kernel
theorem dX5_liesIn_6 : decode cX5_liesIn 6 = .ok (.ifCond .eq 20, 3) := by decide +kernel
theorem dX5_liesIn_9 : decode cX5_liesIn 9 = .ok (.aload_n 0, 1) := by decide +kernel
theorem dX5_liesIn_10 : decode cX5_liesIn 10 = .ok (.getfield 19, 3) := by decide +kernel
theorem dX5_liesIn_13 : decode cX5_liesIn 13 = .ok (.getfield 106, 3) := by decide +kernel
theorem dX5_liesIn_16 : decode cX5_liesIn 16 = .ok (.iload_n 1, 1) := by decide +kernel
theorem dX5_liesIn_17 : decode cX5_liesIn 17 = .ok (.iaload, 1) := by decide +kernel
theorem dX5_liesIn_18 : decode cX5_liesIn 18 = .ok (.iload_n 2, 1) := by decide +kernel
theorem dX5_liesIn_19 : decode cX5_liesIn 19 = .ok (.if_icmp .ne 7, 3) := by decide +kernel
theorem dX5_liesIn_22 : decode cX5_liesIn 22 = .ok (.iconst 1, 1) := by decide +kernel
theorem dX5_liesIn_23 : decode cX5_liesIn 23 = .ok (.goto 4, 3) := by decide +kernel
theorem dX5_liesIn_26 : decode cX5_liesIn 26 = .ok (.iconst 0, 1) := by decide +kernel
theorem dX5_liesIn_27 : decode cX5_liesIn 27 = .ok (.ireturn, 1) := by decide +kernel
theorem dX5_lyingIn_0 : decode cX5_lyingIn 0 = .ok (.iconst 0, 1) := by decide +kernel
theorem dX5_lyingIn_1 : decode cX5_lyingIn 1 = .ok (.istore_n 2, 1) := by decide +kernel
theorem dX5_lyingIn_2 : decode cX5_lyingIn 2 = .ok (.iconst 0, 1) := by decide +kernel
theorem dX5_lyingIn_3 : decode cX5_lyingIn 3 = .ok (.istore_n 3, 1) := by decide +kernel
theorem dX5_lyingIn_4 : decode cX5_lyingIn 4 = .ok (.iload_n 3, 1) := by decide +kernel
theorem dX5_lyingIn_5 : decode cX5_lyingIn 5 = .ok (.bipush 8, 2) := by decide +kernel
theorem dX5_lyingIn_7 : decode cX5_lyingIn 7 = .ok (.if_icmp .ge 24, 3) := by decide +kernel
theorem dX5_lyingIn_10 : decode cX5_lyingIn 10 = .ok (.aload_n 0, 1) := by decide +kernel
theorem dX5_lyingIn_11 : decode cX5_lyingIn 11 = .ok (.iload_n 3, 1) := by decide +kernel
theorem dX5_lyingIn_12 : decode cX5_lyingIn 12 = .ok (.iload_n 1, 1) := by decide +kernel
theorem dX5_lyingIn_13 : decode cX5_lyingIn 13 = .ok (.invokevirtual 163, 3) := by decide +kernel
theorem dX5_lyingIn_16 : decode cX5_lyingIn 16 = .ok (.ifCond .eq 9, 3) := by decide +kernel
theorem dX5_lyingIn_19 : decode cX5_lyingIn 19 = .ok (.iload_n 2, 1) := by decide +kernel
theorem dX5_lyingIn_20 : decode cX5_lyingIn 20 = .ok (.iconst 1, 1) := by decide +kernel
theorem dX5_lyingIn_21 : decode cX5_lyingIn 21 = .ok (.iload_n 3, 1) := by decide +kernel
theorem dX5_lyingIn_22 : decode cX5_lyingIn 22 = .ok (.ishl, 1) := by decide +kernel
theorem dX5_lyingIn_23 : decode cX5_lyingIn 23 = .ok (.ior, 1) := by decide +kernel
theorem dX5_lyingIn_24 : decode cX5_lyingIn 24 = .ok (.istore_n 2, 1) := by decide +kernel
theorem dX5_lyingIn_25 : decode cX5_lyingIn 25 = .ok (.iinc 3 1, 3) := by decide +kernel
theorem dX5_lyingIn_28 : decode cX5_lyingIn 28 = .ok (.goto (-24), 3) := by decide +kernel
theorem dX5_lyingIn_31 : decode cX5_lyingIn 31 = .ok (.iload_n 2, 1) := by decide +kernel
theorem dX5_lyingIn_32 : decode cX5_lyingIn 32 = .ok (.ireturn, 1) := by decide +kernel
theorem dX5_thoseThatAre_0 : decode cX5_thoseThatAre 0 = .ok (.iconst 0, 1) := by decide +kernel
theorem dX5_thoseThatAre_1 : decode cX5_thoseThatAre 1 = .ok (.istore_n 2, 1) := by decide +kernel
theorem dX5_thoseThatAre_2 : decode cX5_thoseThatAre 2 = .ok (.iconst 0, 1) := by decide +kernel
theorem dX5_thoseThatAre_3 : decode cX5_thoseThatAre 3 = .ok (.istore_n 3, 1) := by decide +kernel
theorem dX5_thoseThatAre_4 : decode cX5_thoseThatAre 4 = .ok (.iload_n 3, 1) := by decide +kernel
theorem dX5_thoseThatAre_5 : decode cX5_thoseThatAre 5 = .ok (.bipush 8, 2) := by decide +kernel
theorem dX5_thoseThatAre_7 : decode cX5_thoseThatAre 7 = .ok (.if_icmp .ge 24, 3) := by decide +kernel
theorem dX5_thoseThatAre_10 : decode cX5_thoseThatAre 10 = .ok (.aload_n 0, 1) := by decide +kernel
theorem dX5_thoseThatAre_11 : decode cX5_thoseThatAre 11 = .ok (.iload_n 3, 1) := by decide +kernel
theorem dX5_thoseThatAre_12 : decode cX5_thoseThatAre 12 = .ok (.iload_n 1, 1) := by decide +kernel
theorem dX5_thoseThatAre_13 : decode cX5_thoseThatAre 13 = .ok (.invokevirtual 190, 3) := by decide +kernel
theorem dX5_thoseThatAre_16 : decode cX5_thoseThatAre 16 = .ok (.ifCond .eq 9, 3) := by decide +kernel
theorem dX5_thoseThatAre_19 : decode cX5_thoseThatAre 19 = .ok (.iload_n 2, 1) := by decide +kernel
theorem dX5_thoseThatAre_20 : decode cX5_thoseThatAre 20 = .ok (.iconst 1, 1) := by decide +kernel
theorem dX5_thoseThatAre_21 : decode cX5_thoseThatAre 21 = .ok (.iload_n 3, 1) := by decide +kernel
theorem dX5_thoseThatAre_22 : decode cX5_thoseThatAre 22 = .ok (.ishl, 1) := by decide +kernel
theorem dX5_thoseThatAre_23 : decode cX5_thoseThatAre 23 = .ok (.ior, 1) := by decide +kernel
theorem dX5_thoseThatAre_24 : decode cX5_thoseThatAre 24 = .ok (.istore_n 2, 1) := by decide +kernel
theorem dX5_thoseThatAre_25 : decode cX5_thoseThatAre 25 = .ok (.iinc 3 1, 3) := by decide +kernel
theorem dX5_thoseThatAre_28 : decode cX5_thoseThatAre 28 = .ok (.goto (-24), 3) := by decide +kernel
theorem dX5_thoseThatAre_31 : decode cX5_thoseThatAre 31 = .ok (.iload_n 2, 1) := by decide +kernel
theorem dX5_thoseThatAre_32 : decode cX5_thoseThatAre 32 = .ok (.ireturn, 1) := by decide +kernel
theorem dX5_mayBeDone_0 : decode cX5_mayBeDone 0 = .ok (.aload_n 0, 1) := by decide +kernel
theorem dX5_mayBeDone_1 : decode cX5_mayBeDone 1 = .ok (.iload_n 1, 1) := by decide +kernel
theorem dX5_mayBeDone_2 : decode cX5_mayBeDone 2 = .ok (.iconst 1, 1) := by decide +kernel
theorem dX5_mayBeDone_3 : decode cX5_mayBeDone 3 = .ok (.invokevirtual 190, 3) := by decide +kernel
theorem dX5_mayBeDone_6 : decode cX5_mayBeDone 6 = .ok (.ifCond .eq 21, 3) := by decide +kernel
theorem dX5_mayBeDone_9 : decode cX5_mayBeDone 9 = .ok (.aload_n 0, 1) := by decide +kernel
theorem dX5_mayBeDone_10 : decode cX5_mayBeDone 10 = .ok (.getfield 19, 3) := by decide +kernel
theorem dX5_mayBeDone_13 : decode cX5_mayBeDone 13 = .ok (.getfield 121, 3) := by decide +kernel
theorem dX5_mayBeDone_16 : decode cX5_mayBeDone 16 = .ok (.iload_n 1, 1) := by decide +kernel
theorem dX5_mayBeDone_17 : decode cX5_mayBeDone 17 = .ok (.iaload, 1) := by decide +kernel
theorem dX5_mayBeDone_18 : decode cX5_mayBeDone 18 = .ok (.iload_n 2, 1) := by decide +kernel
theorem dX5_mayBeDone_19 : decode cX5_mayBeDone 19 = .ok (.iand, 1) := by decide +kernel
theorem dX5_mayBeDone_20 : decode cX5_mayBeDone 20 = .ok (.ifCond .ne 7, 3) := by decide +kernel
theorem dX5_mayBeDone_23 : decode cX5_mayBeDone 23 = .ok (.iconst 1, 1) := by decide +kernel
theorem dX5_mayBeDone_24 : decode cX5_mayBeDone 24 = .ok (.goto 4, 3) := by decide +kernel
theorem dX5_mayBeDone_27 : decode cX5_mayBeDone 27 = .ok (.iconst 0, 1) := by decide +kernel
theorem dX5_mayBeDone_28 : decode cX5_mayBeDone 28 = .ok (.ireturn, 1) := by decide +kernel
theorem dX5_leftIn_0 : decode cX5_leftIn 0 = .ok (.aload_n 0, 1) := by decide +kernel
theorem dX5_leftIn_1 : decode cX5_leftIn 1 = .ok (.getfield 19, 3) := by decide +kernel
theorem dX5_leftIn_4 : decode cX5_leftIn 4 = .ok (.iload_n 1, 1) := by decide +kernel
theorem dX5_leftIn_5 : decode cX5_leftIn 5 = .ok (.invokevirtual 100, 3) := by decide +kernel
theorem dX5_leftIn_8 : decode cX5_leftIn 8 = .ok (.ifCond .ne 5, 3) := by decide +kernel
theorem dX5_leftIn_11 : decode cX5_leftIn 11 = .ok (.iconst 0, 1) := by decide +kernel
theorem dX5_leftIn_12 : decode cX5_leftIn 12 = .ok (.ireturn, 1) := by decide +kernel
theorem dX5_leftIn_13 : decode cX5_leftIn 13 = .ok (.aload_n 0, 1) := by decide +kernel
theorem dX5_leftIn_14 : decode cX5_leftIn 14 = .ok (.getfield 26, 3) := by decide +kernel
theorem dX5_leftIn_17 : decode cX5_leftIn 17 = .ok (.getfield 124, 3) := by decide +kernel
theorem dX5_leftIn_20 : decode cX5_leftIn 20 = .ok (.iload_n 1, 1) := by decide +kernel
theorem dX5_leftIn_21 : decode cX5_leftIn 21 = .ok (.iaload, 1) := by decide +kernel
theorem dX5_leftIn_22 : decode cX5_leftIn 22 = .ok (.lookupswitch 69 #[(0, 26), (3, 67)], 26) := by decide +kernel
theorem dX5_leftIn_48 : decode cX5_leftIn 48 = .ok (.aload_n 0, 1) := by decide +kernel
theorem dX5_leftIn_49 : decode cX5_leftIn 49 = .ok (.aload_n 0, 1) := by decide +kernel
theorem dX5_leftIn_50 : decode cX5_leftIn 50 = .ok (.getfield 19, 3) := by decide +kernel
theorem dX5_leftIn_53 : decode cX5_leftIn 53 = .ok (.getfield 118, 3) := by decide +kernel
theorem dX5_leftIn_56 : decode cX5_leftIn 56 = .ok (.iload_n 1, 1) := by decide +kernel
theorem dX5_leftIn_57 : decode cX5_leftIn 57 = .ok (.iaload, 1) := by decide +kernel
theorem dX5_leftIn_58 : decode cX5_leftIn 58 = .ok (.aload_n 0, 1) := by decide +kernel
theorem dX5_leftIn_59 : decode cX5_leftIn 59 = .ok (.getfield 19, 3) := by decide +kernel
theorem dX5_leftIn_62 : decode cX5_leftIn 62 = .ok (.getfield 109, 3) := by decide +kernel
theorem dX5_leftIn_65 : decode cX5_leftIn 65 = .ok (.iload_n 1, 1) := by decide +kernel
theorem dX5_leftIn_66 : decode cX5_leftIn 66 = .ok (.iaload, 1) := by decide +kernel
theorem dX5_leftIn_67 : decode cX5_leftIn 67 = .ok (.aload_n 0, 1) := by decide +kernel
theorem dX5_leftIn_68 : decode cX5_leftIn 68 = .ok (.getfield 26, 3) := by decide +kernel
theorem dX5_leftIn_71 : decode cX5_leftIn 71 = .ok (.getfield 150, 3) := by decide +kernel
theorem dX5_leftIn_74 : decode cX5_leftIn 74 = .ok (.iload_n 2, 1) := by decide +kernel
theorem dX5_leftIn_75 : decode cX5_leftIn 75 = .ok (.iadd, 1) := by decide +kernel
theorem dX5_leftIn_76 : decode cX5_leftIn 76 = .ok (.aload_n 0, 1) := by decide +kernel
theorem dX5_leftIn_77 : decode cX5_leftIn 77 = .ok (.getfield 26, 3) := by decide +kernel
theorem dX5_leftIn_80 : decode cX5_leftIn 80 = .ok (.getfield 170, 3) := by decide +kernel
theorem dX5_leftIn_83 : decode cX5_leftIn 83 = .ok (.iload_n 1, 1) := by decide +kernel
theorem dX5_leftIn_84 : decode cX5_leftIn 84 = .ok (.iaload, 1) := by decide +kernel
theorem dX5_leftIn_85 : decode cX5_leftIn 85 = .ok (.invokevirtual 202, 3) := by decide +kernel
theorem dX5_leftIn_88 : decode cX5_leftIn 88 = .ok (.ireturn, 1) := by decide +kernel
theorem dX5_leftIn_89 : decode cX5_leftIn 89 = .ok (.iconst 0, 1) := by decide +kernel
theorem dX5_leftIn_90 : decode cX5_leftIn 90 = .ok (.ireturn, 1) := by decide +kernel
theorem dX5_leftIn_91 : decode cX5_leftIn 91 = .ok (.aload_n 0, 1) := by decide +kernel
theorem dX5_leftIn_92 : decode cX5_leftIn 92 = .ok (.getfield 26, 3) := by decide +kernel
theorem dX5_leftIn_95 : decode cX5_leftIn 95 = .ok (.getfield 167, 3) := by decide +kernel
theorem dX5_leftIn_98 : decode cX5_leftIn 98 = .ok (.iload_n 1, 1) := by decide +kernel
theorem dX5_leftIn_99 : decode cX5_leftIn 99 = .ok (.iaload, 1) := by decide +kernel
theorem dX5_leftIn_100 : decode cX5_leftIn 100 = .ok (.ireturn, 1) := by decide +kernel
theorem dX5_lyingLeft_0 : decode cX5_lyingLeft 0 = .ok (.aload_n 0, 1) := by decide +kernel
theorem dX5_lyingLeft_1 : decode cX5_lyingLeft 1 = .ok (.getfield 19, 3) := by decide +kernel
theorem dX5_lyingLeft_4 : decode cX5_lyingLeft 4 = .ok (.getfield 263, 3) := by decide +kernel
theorem dX5_lyingLeft_7 : decode cX5_lyingLeft 7 = .ok (.ifCond .le 19, 3) := by decide +kernel
theorem dX5_lyingLeft_10 : decode cX5_lyingLeft 10 = .ok (.iload_n 3, 1) := by decide +kernel
theorem dX5_lyingLeft_11 : decode cX5_lyingLeft 11 = .ok (.iload_n 2, 1) := by decide +kernel
theorem dX5_lyingLeft_12 : decode cX5_lyingLeft 12 = .ok (.iconst 1, 1) := by decide +kernel
theorem dX5_lyingLeft_13 : decode cX5_lyingLeft 13 = .ok (.iadd, 1) := by decide +kernel
theorem dX5_lyingLeft_14 : decode cX5_lyingLeft 14 = .ok (.imul, 1) := by decide +kernel
theorem dX5_lyingLeft_15 : decode cX5_lyingLeft 15 = .ok (.aload_n 0, 1) := by decide +kernel
theorem dX5_lyingLeft_16 : decode cX5_lyingLeft 16 = .ok (.getfield 19, 3) := by decide +kernel
theorem dX5_lyingLeft_19 : decode cX5_lyingLeft 19 = .ok (.getfield 263, 3) := by decide +kernel
theorem dX5_lyingLeft_22 : decode cX5_lyingLeft 22 = .ok (.idiv, 1) := by decide +kernel
theorem dX5_lyingLeft_23 : decode cX5_lyingLeft 23 = .ok (.goto 4, 3) := by decide +kernel
theorem dX5_lyingLeft_26 : decode cX5_lyingLeft 26 = .ok (.iconst 0, 1) := by decide +kernel
theorem dX5_lyingLeft_27 : decode cX5_lyingLeft 27 = .ok (.istore 5, 2) := by decide +kernel
theorem dX5_lyingLeft_29 : decode cX5_lyingLeft 29 = .ok (.iconst 1, 1) := by decide +kernel
theorem dX5_lyingLeft_30 : decode cX5_lyingLeft 30 = .ok (.iload_n 1, 1) := by decide +kernel
theorem dX5_lyingLeft_31 : decode cX5_lyingLeft 31 = .ok (.iload 5, 2) := by decide +kernel
theorem dX5_lyingLeft_33 : decode cX5_lyingLeft 33 = .ok (.isub, 1) := by decide +kernel
theorem dX5_lyingLeft_34 : decode cX5_lyingLeft 34 = .ok (.iload 4, 2) := by decide +kernel
theorem dX5_lyingLeft_36 : decode cX5_lyingLeft 36 = .ok (.isub, 1) := by decide +kernel
theorem dX5_lyingLeft_37 : decode cX5_lyingLeft 37 = .ok (.invokestatic 269, 3) := by decide +kernel
theorem dX5_lyingLeft_40 : decode cX5_lyingLeft 40 = .ok (.ireturn, 1) := by decide +kernel
theorem dX5_beginsAsSeen_0 : decode cX5_beginsAsSeen 0 = .ok (.aload_n 0, 1) := by decide +kernel
theorem dX5_beginsAsSeen_1 : decode cX5_beginsAsSeen 1 = .ok (.iload_n 1, 1) := by decide +kernel
theorem dX5_beginsAsSeen_2 : decode cX5_beginsAsSeen 2 = .ok (.iconst 0, 1) := by decide +kernel
theorem dX5_beginsAsSeen_3 : decode cX5_beginsAsSeen 3 = .ok (.invokevirtual 190, 3) := by decide +kernel
theorem dX5_beginsAsSeen_6 : decode cX5_beginsAsSeen 6 = .ok (.ifCond .eq 16, 3) := by decide +kernel
theorem dX5_beginsAsSeen_9 : decode cX5_beginsAsSeen 9 = .ok (.aload_n 0, 1) := by decide +kernel
theorem dX5_beginsAsSeen_10 : decode cX5_beginsAsSeen 10 = .ok (.iload_n 1, 1) := by decide +kernel
theorem dX5_beginsAsSeen_11 : decode cX5_beginsAsSeen 11 = .ok (.iconst 0, 1) := by decide +kernel
theorem dX5_beginsAsSeen_12 : decode cX5_beginsAsSeen 12 = .ok (.invokevirtual 127, 3) := by decide +kernel
theorem dX5_beginsAsSeen_15 : decode cX5_beginsAsSeen 15 = .ok (.aload_n 0, 1) := by decide +kernel
theorem dX5_beginsAsSeen_16 : decode cX5_beginsAsSeen 16 = .ok (.getfield 55, 3) := by decide +kernel
theorem dX5_beginsAsSeen_19 : decode cX5_beginsAsSeen 19 = .ok (.if_icmp .ge 5, 3) := by decide +kernel
theorem dX5_beginsAsSeen_22 : decode cX5_beginsAsSeen 22 = .ok (.iconst 0, 1) := by decide +kernel
theorem dX5_beginsAsSeen_23 : decode cX5_beginsAsSeen 23 = .ok (.ireturn, 1) := by decide +kernel
theorem dX5_beginsAsSeen_24 : decode cX5_beginsAsSeen 24 = .ok (.iconst 0, 1) := by decide +kernel
theorem dX5_beginsAsSeen_25 : decode cX5_beginsAsSeen 25 = .ok (.istore_n 2, 1) := by decide +kernel
theorem dX5_beginsAsSeen_26 : decode cX5_beginsAsSeen 26 = .ok (.iload_n 2, 1) := by decide +kernel
theorem dX5_beginsAsSeen_27 : decode cX5_beginsAsSeen 27 = .ok (.aload_n 0, 1) := by decide +kernel
theorem dX5_beginsAsSeen_28 : decode cX5_beginsAsSeen 28 = .ok (.getfield 55, 3) := by decide +kernel
theorem dX5_beginsAsSeen_31 : decode cX5_beginsAsSeen 31 = .ok (.if_icmp .ge 34, 3) := by decide +kernel
theorem dX5_beginsAsSeen_34 : decode cX5_beginsAsSeen 34 = .ok (.iload_n 2, 1) := by decide +kernel
theorem dX5_beginsAsSeen_35 : decode cX5_beginsAsSeen 35 = .ok (.iconst 4, 1) := by decide +kernel
theorem dX5_beginsAsSeen_36 : decode cX5_beginsAsSeen 36 = .ok (.if_icmp .ge 29, 3) := by decide +kernel
theorem dX5_beginsAsSeen_39 : decode cX5_beginsAsSeen 39 = .ok (.aload_n 0, 1) := by decide +kernel
theorem dX5_beginsAsSeen_40 : decode cX5_beginsAsSeen 40 = .ok (.getfield 19, 3) := by decide +kernel
theorem dX5_beginsAsSeen_43 : decode cX5_beginsAsSeen 43 = .ok (.iload_n 1, 1) := by decide +kernel
theorem dX5_beginsAsSeen_44 : decode cX5_beginsAsSeen 44 = .ok (.iload_n 2, 1) := by decide +kernel
theorem dX5_beginsAsSeen_45 : decode cX5_beginsAsSeen 45 = .ok (.invokevirtual 131, 3) := by decide +kernel
theorem dX5_beginsAsSeen_48 : decode cX5_beginsAsSeen 48 = .ok (.aload_n 0, 1) := by decide +kernel
theorem dX5_beginsAsSeen_49 : decode cX5_beginsAsSeen 49 = .ok (.getfield 45, 3) := by decide +kernel
theorem dX5_beginsAsSeen_52 : decode cX5_beginsAsSeen 52 = .ok (.iload_n 2, 1) := by decide +kernel
theorem dX5_beginsAsSeen_53 : decode cX5_beginsAsSeen 53 = .ok (.iaload, 1) := by decide +kernel
theorem dX5_beginsAsSeen_54 : decode cX5_beginsAsSeen 54 = .ok (.if_icmp .eq 5, 3) := by decide +kernel
theorem dX5_beginsAsSeen_57 : decode cX5_beginsAsSeen 57 = .ok (.iconst 0, 1) := by decide +kernel
theorem dX5_beginsAsSeen_58 : decode cX5_beginsAsSeen 58 = .ok (.ireturn, 1) := by decide +kernel
theorem dX5_beginsAsSeen_59 : decode cX5_beginsAsSeen 59 = .ok (.iinc 2 1, 3) := by decide +kernel
theorem dX5_beginsAsSeen_62 : decode cX5_beginsAsSeen 62 = .ok (.goto (-36), 3) := by decide +kernel
theorem dX5_beginsAsSeen_65 : decode cX5_beginsAsSeen 65 = .ok (.iconst 1, 1) := by decide +kernel
theorem dX5_beginsAsSeen_66 : decode cX5_beginsAsSeen 66 = .ok (.ireturn, 1) := by decide +kernel
theorem dX5_letYearPass_0 : decode cX5_letYearPass 0 = .ok (.iconst 0, 1) := by decide +kernel
theorem dX5_letYearPass_1 : decode cX5_letYearPass 1 = .ok (.istore_n 2, 1) := by decide +kernel
theorem dX5_letYearPass_2 : decode cX5_letYearPass 2 = .ok (.iload_n 2, 1) := by decide +kernel
theorem dX5_letYearPass_3 : decode cX5_letYearPass 3 = .ok (.aload_n 1, 1) := by decide +kernel
theorem dX5_letYearPass_4 : decode cX5_letYearPass 4 = .ok (.arraylength, 1) := by decide +kernel
theorem dX5_letYearPass_5 : decode cX5_letYearPass 5 = .ok (.if_icmp .ge 22, 3) := by decide +kernel
theorem dX5_letYearPass_8 : decode cX5_letYearPass 8 = .ok (.aload_n 1, 1) := by decide +kernel
theorem dX5_letYearPass_9 : decode cX5_letYearPass 9 = .ok (.iload_n 2, 1) := by decide +kernel
theorem dX5_letYearPass_10 : decode cX5_letYearPass 10 = .ok (.bipush 9, 2) := by decide +kernel
theorem dX5_letYearPass_12 : decode cX5_letYearPass 12 = .ok (.aload_n 1, 1) := by decide +kernel
theorem dX5_letYearPass_13 : decode cX5_letYearPass 13 = .ok (.iload_n 2, 1) := by decide +kernel
theorem dX5_letYearPass_14 : decode cX5_letYearPass 14 = .ok (.iaload, 1) := by decide +kernel
theorem dX5_letYearPass_15 : decode cX5_letYearPass 15 = .ok (.iconst 1, 1) := by decide +kernel
theorem dX5_letYearPass_16 : decode cX5_letYearPass 16 = .ok (.iadd, 1) := by decide +kernel
theorem dX5_letYearPass_17 : decode cX5_letYearPass 17 = .ok (.invokestatic 173, 3) := by decide +kernel
theorem dX5_letYearPass_20 : decode cX5_letYearPass 20 = .ok (.iastore, 1) := by decide +kernel
theorem dX5_letYearPass_21 : decode cX5_letYearPass 21 = .ok (.iinc 2 1, 3) := by decide +kernel
theorem dX5_letYearPass_24 : decode cX5_letYearPass 24 = .ok (.goto (-22), 3) := by decide +kernel
theorem dX5_letYearPass_27 : decode cX5_letYearPass 27 = .ok (.iconst 0, 1) := by decide +kernel
theorem dX5_letYearPass_28 : decode cX5_letYearPass 28 = .ok (.istore_n 2, 1) := by decide +kernel
theorem dX5_letYearPass_29 : decode cX5_letYearPass 29 = .ok (.iconst 0, 1) := by decide +kernel
theorem dX5_letYearPass_30 : decode cX5_letYearPass 30 = .ok (.istore_n 3, 1) := by decide +kernel
theorem dX5_letYearPass_31 : decode cX5_letYearPass 31 = .ok (.iload_n 3, 1) := by decide +kernel
theorem dX5_letYearPass_32 : decode cX5_letYearPass 32 = .ok (.aload_n 1, 1) := by decide +kernel
theorem dX5_letYearPass_33 : decode cX5_letYearPass 33 = .ok (.arraylength, 1) := by decide +kernel
theorem dX5_letYearPass_34 : decode cX5_letYearPass 34 = .ok (.if_icmp .ge 30, 3) := by decide +kernel
theorem dX5_letYearPass_37 : decode cX5_letYearPass 37 = .ok (.aload_n 1, 1) := by decide +kernel
theorem dX5_letYearPass_38 : decode cX5_letYearPass 38 = .ok (.iload_n 3, 1) := by decide +kernel
theorem dX5_letYearPass_39 : decode cX5_letYearPass 39 = .ok (.invokestatic 272, 3) := by decide +kernel
theorem dX5_letYearPass_42 : decode cX5_letYearPass 42 = .ok (.aload_n 0, 1) := by decide +kernel
theorem dX5_letYearPass_43 : decode cX5_letYearPass 43 = .ok (.getfield 19, 3) := by decide +kernel
theorem dX5_letYearPass_46 : decode cX5_letYearPass 46 = .ok (.getfield 266, 3) := by decide +kernel
theorem dX5_letYearPass_49 : decode cX5_letYearPass 49 = .ok (.if_icmp .lt 9, 3) := by decide +kernel
theorem dX5_letYearPass_52 : decode cX5_letYearPass 52 = .ok (.iload_n 2, 1) := by decide +kernel
theorem dX5_letYearPass_53 : decode cX5_letYearPass 53 = .ok (.iconst 1, 1) := by decide +kernel
theorem dX5_letYearPass_54 : decode cX5_letYearPass 54 = .ok (.iload_n 3, 1) := by decide +kernel
theorem dX5_letYearPass_55 : decode cX5_letYearPass 55 = .ok (.ishl, 1) := by decide +kernel
theorem dX5_letYearPass_56 : decode cX5_letYearPass 56 = .ok (.ior, 1) := by decide +kernel
theorem dX5_letYearPass_57 : decode cX5_letYearPass 57 = .ok (.istore_n 2, 1) := by decide +kernel
theorem dX5_letYearPass_58 : decode cX5_letYearPass 58 = .ok (.iinc 3 1, 3) := by decide +kernel
theorem dX5_letYearPass_61 : decode cX5_letYearPass 61 = .ok (.goto (-30), 3) := by decide +kernel
theorem dX5_letYearPass_64 : decode cX5_letYearPass 64 = .ok (.iconst 0, 1) := by decide +kernel
theorem dX5_letYearPass_65 : decode cX5_letYearPass 65 = .ok (.istore_n 3, 1) := by decide +kernel
theorem dX5_letYearPass_66 : decode cX5_letYearPass 66 = .ok (.iload_n 3, 1) := by decide +kernel
theorem dX5_letYearPass_67 : decode cX5_letYearPass 67 = .ok (.aload_n 1, 1) := by decide +kernel
theorem dX5_letYearPass_68 : decode cX5_letYearPass 68 = .ok (.arraylength, 1) := by decide +kernel
theorem dX5_letYearPass_69 : decode cX5_letYearPass 69 = .ok (.if_icmp .ge 21, 3) := by decide +kernel
theorem dX5_letYearPass_72 : decode cX5_letYearPass 72 = .ok (.iload_n 2, 1) := by decide +kernel
theorem dX5_letYearPass_73 : decode cX5_letYearPass 73 = .ok (.iload_n 3, 1) := by decide +kernel
theorem dX5_letYearPass_74 : decode cX5_letYearPass 74 = .ok (.invokestatic 193, 3) := by decide +kernel
theorem dX5_letYearPass_77 : decode cX5_letYearPass 77 = .ok (.ifCond .eq 7, 3) := by decide +kernel
theorem dX5_letYearPass_80 : decode cX5_letYearPass 80 = .ok (.aload_n 1, 1) := by decide +kernel
theorem dX5_letYearPass_81 : decode cX5_letYearPass 81 = .ok (.iload_n 3, 1) := by decide +kernel
theorem dX5_letYearPass_82 : decode cX5_letYearPass 82 = .ok (.iconst 0, 1) := by decide +kernel
theorem dX5_letYearPass_83 : decode cX5_letYearPass 83 = .ok (.iastore, 1) := by decide +kernel
theorem dX5_letYearPass_84 : decode cX5_letYearPass 84 = .ok (.iinc 3 1, 3) := by decide +kernel
theorem dX5_letYearPass_87 : decode cX5_letYearPass 87 = .ok (.goto (-21), 3) := by decide +kernel
theorem dX5_letYearPass_90 : decode cX5_letYearPass 90 = .ok (.iload_n 2, 1) := by decide +kernel
theorem dX5_letYearPass_91 : decode cX5_letYearPass 91 = .ok (.ireturn, 1) := by decide +kernel
theorem dX5_wetAround_0 : decode cX5_wetAround 0 = .ok (.iconst 0, 1) := by decide +kernel
theorem dX5_wetAround_1 : decode cX5_wetAround 1 = .ok (.istore_n 2, 1) := by decide +kernel
theorem dX5_wetAround_2 : decode cX5_wetAround 2 = .ok (.iconst 0, 1) := by decide +kernel
theorem dX5_wetAround_3 : decode cX5_wetAround 3 = .ok (.iload_n 1, 1) := by decide +kernel
theorem dX5_wetAround_4 : decode cX5_wetAround 4 = .ok (.iconst 1, 1) := by decide +kernel
theorem dX5_wetAround_5 : decode cX5_wetAround 5 = .ok (.isub, 1) := by decide +kernel
theorem dX5_wetAround_6 : decode cX5_wetAround 6 = .ok (.invokestatic 269, 3) := by decide +kernel
theorem dX5_wetAround_9 : decode cX5_wetAround 9 = .ok (.istore_n 3, 1) := by decide +kernel
theorem dX5_wetAround_10 : decode cX5_wetAround 10 = .ok (.iload_n 3, 1) := by decide +kernel
theorem dX5_wetAround_11 : decode cX5_wetAround 11 = .ok (.iload_n 1, 1) := by decide +kernel
theorem dX5_wetAround_12 : decode cX5_wetAround 12 = .ok (.iconst 1, 1) := by decide +kernel
theorem dX5_wetAround_13 : decode cX5_wetAround 13 = .ok (.iadd, 1) := by decide +kernel
theorem dX5_wetAround_14 : decode cX5_wetAround 14 = .ok (.if_icmp .gt 21, 3) := by decide +kernel
theorem dX5_wetAround_17 : decode cX5_wetAround 17 = .ok (.iload_n 3, 1) := by decide +kernel
theorem dX5_wetAround_18 : decode cX5_wetAround 18 = .ok (.aload_n 0, 1) := by decide +kernel
theorem dX5_wetAround_19 : decode cX5_wetAround 19 = .ok (.arraylength, 1) := by decide +kernel
theorem dX5_wetAround_20 : decode cX5_wetAround 20 = .ok (.if_icmp .ge 15, 3) := by decide +kernel
theorem dX5_wetAround_23 : decode cX5_wetAround 23 = .ok (.iload_n 2, 1) := by decide +kernel
theorem dX5_wetAround_24 : decode cX5_wetAround 24 = .ok (.aload_n 0, 1) := by decide +kernel
theorem dX5_wetAround_25 : decode cX5_wetAround 25 = .ok (.iload_n 3, 1) := by decide +kernel
theorem dX5_wetAround_26 : decode cX5_wetAround 26 = .ok (.iaload, 1) := by decide +kernel
theorem dX5_wetAround_27 : decode cX5_wetAround 27 = .ok (.iadd, 1) := by decide +kernel
theorem dX5_wetAround_28 : decode cX5_wetAround 28 = .ok (.istore_n 2, 1) := by decide +kernel
theorem dX5_wetAround_29 : decode cX5_wetAround 29 = .ok (.iinc 3 1, 3) := by decide +kernel
theorem dX5_wetAround_32 : decode cX5_wetAround 32 = .ok (.goto (-22), 3) := by decide +kernel
theorem dX5_wetAround_35 : decode cX5_wetAround 35 = .ok (.iload_n 2, 1) := by decide +kernel
theorem dX5_wetAround_36 : decode cX5_wetAround 36 = .ok (.ireturn, 1) := by decide +kernel
theorem dX5_firstSlide_0 : decode cX5_firstSlide 0 = .ok (.aload_n 0, 1) := by decide +kernel
theorem dX5_firstSlide_1 : decode cX5_firstSlide 1 = .ok (.iconst 0, 1) := by decide +kernel
theorem dX5_firstSlide_2 : decode cX5_firstSlide 2 = .ok (.invokevirtual 276, 3) := by decide +kernel
theorem dX5_firstSlide_5 : decode cX5_firstSlide 5 = .ok (.iconst 1, 1) := by decide +kernel
theorem dX5_firstSlide_6 : decode cX5_firstSlide 6 = .ok (.istore_n 2, 1) := by decide +kernel
theorem dX5_firstSlide_7 : decode cX5_firstSlide 7 = .ok (.iload_n 2, 1) := by decide +kernel
theorem dX5_firstSlide_8 : decode cX5_firstSlide 8 = .ok (.bipush 50, 2) := by decide +kernel
theorem dX5_firstSlide_10 : decode cX5_firstSlide 10 = .ok (.if_icmp .gt 26, 3) := by decide +kernel
theorem dX5_firstSlide_13 : decode cX5_firstSlide 13 = .ok (.aload_n 0, 1) := by decide +kernel
theorem dX5_firstSlide_14 : decode cX5_firstSlide 14 = .ok (.aload_n 0, 1) := by decide +kernel
theorem dX5_firstSlide_15 : decode cX5_firstSlide 15 = .ok (.getfield 49, 3) := by decide +kernel
theorem dX5_firstSlide_18 : decode cX5_firstSlide 18 = .ok (.invokevirtual 186, 3) := by decide +kernel
theorem dX5_firstSlide_21 : decode cX5_firstSlide 21 = .ok (.iload_n 1, 1) := by decide +kernel
theorem dX5_firstSlide_22 : decode cX5_firstSlide 22 = .ok (.invokestatic 193, 3) := by decide +kernel
theorem dX5_firstSlide_25 : decode cX5_firstSlide 25 = .ok (.ifCond .eq 5, 3) := by decide +kernel
theorem dX5_firstSlide_28 : decode cX5_firstSlide 28 = .ok (.iload_n 2, 1) := by decide +kernel
theorem dX5_firstSlide_29 : decode cX5_firstSlide 29 = .ok (.ireturn, 1) := by decide +kernel
theorem dX5_firstSlide_30 : decode cX5_firstSlide 30 = .ok (.iinc 2 1, 3) := by decide +kernel
theorem dX5_firstSlide_33 : decode cX5_firstSlide 33 = .ok (.goto (-26), 3) := by decide +kernel
theorem dX5_firstSlide_36 : decode cX5_firstSlide 36 = .ok (.bipush (-9), 2) := by decide +kernel
theorem dX5_firstSlide_38 : decode cX5_firstSlide 38 = .ok (.ireturn, 1) := by decide +kernel
theorem dX5_staysIfDry_0 : decode cX5_staysIfDry 0 = .ok (.aload_n 0, 1) := by decide +kernel
theorem dX5_staysIfDry_1 : decode cX5_staysIfDry 1 = .ok (.iload_n 1, 1) := by decide +kernel
theorem dX5_staysIfDry_2 : decode cX5_staysIfDry 2 = .ok (.invokevirtual 276, 3) := by decide +kernel
theorem dX5_staysIfDry_5 : decode cX5_staysIfDry 5 = .ok (.iconst 0, 1) := by decide +kernel
theorem dX5_staysIfDry_6 : decode cX5_staysIfDry 6 = .ok (.istore_n 3, 1) := by decide +kernel
theorem dX5_staysIfDry_7 : decode cX5_staysIfDry 7 = .ok (.iload_n 3, 1) := by decide +kernel
theorem dX5_staysIfDry_8 : decode cX5_staysIfDry 8 = .ok (.iload_n 2, 1) := by decide +kernel
theorem dX5_staysIfDry_9 : decode cX5_staysIfDry 9 = .ok (.if_icmp .ge 22, 3) := by decide +kernel
theorem dX5_staysIfDry_12 : decode cX5_staysIfDry 12 = .ok (.aload_n 0, 1) := by decide +kernel
theorem dX5_staysIfDry_13 : decode cX5_staysIfDry 13 = .ok (.aload_n 0, 1) := by decide +kernel
theorem dX5_staysIfDry_14 : decode cX5_staysIfDry 14 = .ok (.getfield 49, 3) := by decide +kernel
theorem dX5_staysIfDry_17 : decode cX5_staysIfDry 17 = .ok (.invokevirtual 186, 3) := by decide +kernel
theorem dX5_staysIfDry_20 : decode cX5_staysIfDry 20 = .ok (.ifCond .eq 5, 3) := by decide +kernel
theorem dX5_staysIfDry_23 : decode cX5_staysIfDry 23 = .ok (.iconst 0, 1) := by decide +kernel
theorem dX5_staysIfDry_24 : decode cX5_staysIfDry 24 = .ok (.ireturn, 1) := by decide +kernel
theorem dX5_staysIfDry_25 : decode cX5_staysIfDry 25 = .ok (.iinc 3 1, 3) := by decide +kernel
theorem dX5_staysIfDry_28 : decode cX5_staysIfDry 28 = .ok (.goto (-21), 3) := by decide +kernel
theorem dX5_staysIfDry_31 : decode cX5_staysIfDry 31 = .ok (.iconst 1, 1) := by decide +kernel
theorem dX5_staysIfDry_32 : decode cX5_staysIfDry 32 = .ok (.ireturn, 1) := by decide +kernel
theorem dX5_beginWetThen_0 : decode cX5_beginWetThen 0 = .ok (.iconst 0, 1) := by decide +kernel
theorem dX5_beginWetThen_1 : decode cX5_beginWetThen 1 = .ok (.istore_n 2, 1) := by decide +kernel
theorem dX5_beginWetThen_2 : decode cX5_beginWetThen 2 = .ok (.iload_n 2, 1) := by decide +kernel
theorem dX5_beginWetThen_3 : decode cX5_beginWetThen 3 = .ok (.bipush 6, 2) := by decide +kernel
theorem dX5_beginWetThen_5 : decode cX5_beginWetThen 5 = .ok (.if_icmp .ge 36, 3) := by decide +kernel
theorem dX5_beginWetThen_8 : decode cX5_beginWetThen 8 = .ok (.aload_n 0, 1) := by decide +kernel
theorem dX5_beginWetThen_9 : decode cX5_beginWetThen 9 = .ok (.getfield 49, 3) := by decide +kernel
theorem dX5_beginWetThen_12 : decode cX5_beginWetThen 12 = .ok (.iload_n 2, 1) := by decide +kernel
theorem dX5_beginWetThen_13 : decode cX5_beginWetThen 13 = .ok (.iload_n 1, 1) := by decide +kernel
theorem dX5_beginWetThen_14 : decode cX5_beginWetThen 14 = .ok (.iload_n 2, 1) := by decide +kernel
theorem dX5_beginWetThen_15 : decode cX5_beginWetThen 15 = .ok (.invokestatic 193, 3) := by decide +kernel
theorem dX5_beginWetThen_18 : decode cX5_beginWetThen 18 = .ok (.ifCond .eq 7, 3) := by decide +kernel
theorem dX5_beginWetThen_21 : decode cX5_beginWetThen 21 = .ok (.iconst 0, 1) := by decide +kernel
theorem dX5_beginWetThen_22 : decode cX5_beginWetThen 22 = .ok (.goto 12, 3) := by decide +kernel
theorem dX5_beginWetThen_25 : decode cX5_beginWetThen 25 = .ok (.aload_n 0, 1) := by decide +kernel
theorem dX5_beginWetThen_26 : decode cX5_beginWetThen 26 = .ok (.getfield 26, 3) := by decide +kernel
theorem dX5_beginWetThen_29 : decode cX5_beginWetThen 29 = .ok (.getfield 140, 3) := by decide +kernel
theorem dX5_beginWetThen_32 : decode cX5_beginWetThen 32 = .ok (.iload_n 2, 1) := by decide +kernel
theorem dX5_beginWetThen_33 : decode cX5_beginWetThen 33 = .ok (.iaload, 1) := by decide +kernel
theorem dX5_beginWetThen_34 : decode cX5_beginWetThen 34 = .ok (.iastore, 1) := by decide +kernel
theorem dX5_beginWetThen_35 : decode cX5_beginWetThen 35 = .ok (.iinc 2 1, 3) := by decide +kernel
theorem dX5_beginWetThen_38 : decode cX5_beginWetThen 38 = .ok (.goto (-36), 3) := by decide +kernel
theorem dX5_beginWetThen_41 : decode cX5_beginWetThen 41 = .ok (.return_, 1) := by decide +kernel
theorem dX5_bestKept_0 : decode cX5_bestKept 0 = .ok (.aload_n 0, 1) := by decide +kernel
theorem dX5_bestKept_1 : decode cX5_bestKept 1 = .ok (.iconst 2, 1) := by decide +kernel
theorem dX5_bestKept_2 : decode cX5_bestKept 2 = .ok (.invokevirtual 153, 3) := by decide +kernel
theorem dX5_bestKept_5 : decode cX5_bestKept 5 = .ok (.istore_n 1, 1) := by decide +kernel
theorem dX5_bestKept_6 : decode cX5_bestKept 6 = .ok (.iconst 0, 1) := by decide +kernel
theorem dX5_bestKept_7 : decode cX5_bestKept 7 = .ok (.istore_n 2, 1) := by decide +kernel
theorem dX5_bestKept_8 : decode cX5_bestKept 8 = .ok (.iconst 0, 1) := by decide +kernel
theorem dX5_bestKept_9 : decode cX5_bestKept 9 = .ok (.istore_n 3, 1) := by decide +kernel
theorem dX5_bestKept_10 : decode cX5_bestKept 10 = .ok (.iload_n 3, 1) := by decide +kernel
theorem dX5_bestKept_11 : decode cX5_bestKept 11 = .ok (.bipush 8, 2) := by decide +kernel
theorem dX5_bestKept_13 : decode cX5_bestKept 13 = .ok (.if_icmp .ge 24, 3) := by decide +kernel
theorem dX5_bestKept_16 : decode cX5_bestKept 16 = .ok (.aload_n 0, 1) := by decide +kernel
theorem dX5_bestKept_17 : decode cX5_bestKept 17 = .ok (.iload_n 3, 1) := by decide +kernel
theorem dX5_bestKept_18 : decode cX5_bestKept 18 = .ok (.iload_n 1, 1) := by decide +kernel
theorem dX5_bestKept_19 : decode cX5_bestKept 19 = .ok (.invokevirtual 178, 3) := by decide +kernel
theorem dX5_bestKept_22 : decode cX5_bestKept 22 = .ok (.ifCond .eq 9, 3) := by decide +kernel
theorem dX5_bestKept_25 : decode cX5_bestKept 25 = .ok (.iload_n 2, 1) := by decide +kernel
theorem dX5_bestKept_26 : decode cX5_bestKept 26 = .ok (.iconst 1, 1) := by decide +kernel
theorem dX5_bestKept_27 : decode cX5_bestKept 27 = .ok (.iload_n 3, 1) := by decide +kernel
theorem dX5_bestKept_28 : decode cX5_bestKept 28 = .ok (.ishl, 1) := by decide +kernel
theorem dX5_bestKept_29 : decode cX5_bestKept 29 = .ok (.ior, 1) := by decide +kernel
theorem dX5_bestKept_30 : decode cX5_bestKept 30 = .ok (.istore_n 2, 1) := by decide +kernel
theorem dX5_bestKept_31 : decode cX5_bestKept 31 = .ok (.iinc 3 1, 3) := by decide +kernel
theorem dX5_bestKept_34 : decode cX5_bestKept 34 = .ok (.goto (-24), 3) := by decide +kernel
theorem dX5_bestKept_37 : decode cX5_bestKept 37 = .ok (.iconst 0, 1) := by decide +kernel
theorem dX5_bestKept_38 : decode cX5_bestKept 38 = .ok (.istore_n 3, 1) := by decide +kernel
theorem dX5_bestKept_39 : decode cX5_bestKept 39 = .ok (.iconst 0, 1) := by decide +kernel
theorem dX5_bestKept_40 : decode cX5_bestKept 40 = .ok (.istore 4, 2) := by decide +kernel
theorem dX5_bestKept_42 : decode cX5_bestKept 42 = .ok (.iconst 0, 1) := by decide +kernel
theorem dX5_bestKept_43 : decode cX5_bestKept 43 = .ok (.istore 5, 2) := by decide +kernel
theorem dX5_bestKept_45 : decode cX5_bestKept 45 = .ok (.iload 5, 2) := by decide +kernel
theorem dX5_bestKept_47 : decode cX5_bestKept 47 = .ok (.sipush 256, 3) := by decide +kernel
theorem dX5_bestKept_50 : decode cX5_bestKept 50 = .ok (.if_icmp .ge 49, 3) := by decide +kernel
theorem dX5_bestKept_53 : decode cX5_bestKept 53 = .ok (.iload 5, 2) := by decide +kernel
theorem dX5_bestKept_55 : decode cX5_bestKept 55 = .ok (.iload_n 2, 1) := by decide +kernel
theorem dX5_bestKept_56 : decode cX5_bestKept 56 = .ok (.iconst (-1), 1) := by decide +kernel
theorem dX5_bestKept_57 : decode cX5_bestKept 57 = .ok (.ixor, 1) := by decide +kernel
theorem dX5_bestKept_58 : decode cX5_bestKept 58 = .ok (.iand, 1) := by decide +kernel
theorem dX5_bestKept_59 : decode cX5_bestKept 59 = .ok (.ifCond .ne 34, 3) := by decide +kernel
theorem dX5_bestKept_62 : decode cX5_bestKept 62 = .ok (.aload_n 0, 1) := by decide +kernel
theorem dX5_bestKept_63 : decode cX5_bestKept 63 = .ok (.iload 5, 2) := by decide +kernel
theorem dX5_bestKept_65 : decode cX5_bestKept 65 = .ok (.invokevirtual 280, 3) := by decide +kernel
theorem dX5_bestKept_68 : decode cX5_bestKept 68 = .ok (.ifCond .ne 25, 3) := by decide +kernel
theorem dX5_bestKept_71 : decode cX5_bestKept 71 = .ok (.aload_n 0, 1) := by decide +kernel
theorem dX5_bestKept_72 : decode cX5_bestKept 72 = .ok (.iload 5, 2) := by decide +kernel
theorem dX5_bestKept_74 : decode cX5_bestKept 74 = .ok (.invokevirtual 212, 3) := by decide +kernel
theorem dX5_bestKept_77 : decode cX5_bestKept 77 = .ok (.iload 4, 2) := by decide +kernel
theorem dX5_bestKept_79 : decode cX5_bestKept 79 = .ok (.if_icmp .le 14, 3) := by decide +kernel
theorem dX5_bestKept_82 : decode cX5_bestKept 82 = .ok (.iload 5, 2) := by decide +kernel
theorem dX5_bestKept_84 : decode cX5_bestKept 84 = .ok (.istore_n 3, 1) := by decide +kernel
theorem dX5_bestKept_85 : decode cX5_bestKept 85 = .ok (.aload_n 0, 1) := by decide +kernel
theorem dX5_bestKept_86 : decode cX5_bestKept 86 = .ok (.iload 5, 2) := by decide +kernel
theorem dX5_bestKept_88 : decode cX5_bestKept 88 = .ok (.invokevirtual 212, 3) := by decide +kernel
theorem dX5_bestKept_91 : decode cX5_bestKept 91 = .ok (.istore 4, 2) := by decide +kernel
theorem dX5_bestKept_93 : decode cX5_bestKept 93 = .ok (.iinc 5 1, 3) := by decide +kernel
theorem dX5_bestKept_96 : decode cX5_bestKept 96 = .ok (.goto (-51), 3) := by decide +kernel
theorem dX5_bestKept_99 : decode cX5_bestKept 99 = .ok (.iload_n 3, 1) := by decide +kernel
theorem dX5_bestKept_100 : decode cX5_bestKept 100 = .ok (.ireturn, 1) := by decide +kernel
theorem dX5_clashesWithin_0 : decode cX5_clashesWithin 0 = .ok (.iconst 0, 1) := by decide +kernel
theorem dX5_clashesWithin_1 : decode cX5_clashesWithin 1 = .ok (.istore_n 2, 1) := by decide +kernel
theorem dX5_clashesWithin_2 : decode cX5_clashesWithin 2 = .ok (.iload_n 2, 1) := by decide +kernel
theorem dX5_clashesWithin_3 : decode cX5_clashesWithin 3 = .ok (.bipush 8, 2) := by decide +kernel
theorem dX5_clashesWithin_5 : decode cX5_clashesWithin 5 = .ok (.if_icmp .ge 33, 3) := by decide +kernel
theorem dX5_clashesWithin_8 : decode cX5_clashesWithin 8 = .ok (.iload_n 1, 1) := by decide +kernel
theorem dX5_clashesWithin_9 : decode cX5_clashesWithin 9 = .ok (.iload_n 2, 1) := by decide +kernel
theorem dX5_clashesWithin_10 : decode cX5_clashesWithin 10 = .ok (.invokestatic 193, 3) := by decide +kernel
theorem dX5_clashesWithin_13 : decode cX5_clashesWithin 13 = .ok (.ifCond .eq 19, 3) := by decide +kernel
theorem dX5_clashesWithin_16 : decode cX5_clashesWithin 16 = .ok (.aload_n 0, 1) := by decide +kernel
theorem dX5_clashesWithin_17 : decode cX5_clashesWithin 17 = .ok (.getfield 19, 3) := by decide +kernel
theorem dX5_clashesWithin_20 : decode cX5_clashesWithin 20 = .ok (.getfield 121, 3) := by decide +kernel
theorem dX5_clashesWithin_23 : decode cX5_clashesWithin 23 = .ok (.iload_n 2, 1) := by decide +kernel
theorem dX5_clashesWithin_24 : decode cX5_clashesWithin 24 = .ok (.iaload, 1) := by decide +kernel
theorem dX5_clashesWithin_25 : decode cX5_clashesWithin 25 = .ok (.iload_n 1, 1) := by decide +kernel
theorem dX5_clashesWithin_26 : decode cX5_clashesWithin 26 = .ok (.iand, 1) := by decide +kernel
theorem dX5_clashesWithin_27 : decode cX5_clashesWithin 27 = .ok (.ifCond .eq 5, 3) := by decide +kernel
theorem dX5_clashesWithin_30 : decode cX5_clashesWithin 30 = .ok (.iconst 1, 1) := by decide +kernel
theorem dX5_clashesWithin_31 : decode cX5_clashesWithin 31 = .ok (.ireturn, 1) := by decide +kernel
theorem dX5_clashesWithin_32 : decode cX5_clashesWithin 32 = .ok (.iinc 2 1, 3) := by decide +kernel
theorem dX5_clashesWithin_35 : decode cX5_clashesWithin 35 = .ok (.goto (-33), 3) := by decide +kernel
theorem dX5_clashesWithin_38 : decode cX5_clashesWithin 38 = .ok (.iconst 0, 1) := by decide +kernel
theorem dX5_clashesWithin_39 : decode cX5_clashesWithin 39 = .ok (.ireturn, 1) := by decide +kernel
theorem dX5_wordsLeftOf_0 : decode cX5_wordsLeftOf 0 = .ok (.iconst 0, 1) := by decide +kernel
theorem dX5_wordsLeftOf_1 : decode cX5_wordsLeftOf 1 = .ok (.istore_n 2, 1) := by decide +kernel
theorem dX5_wordsLeftOf_2 : decode cX5_wordsLeftOf 2 = .ok (.iconst 0, 1) := by decide +kernel
theorem dX5_wordsLeftOf_3 : decode cX5_wordsLeftOf 3 = .ok (.istore_n 3, 1) := by decide +kernel
theorem dX5_wordsLeftOf_4 : decode cX5_wordsLeftOf 4 = .ok (.iload_n 3, 1) := by decide +kernel
theorem dX5_wordsLeftOf_5 : decode cX5_wordsLeftOf 5 = .ok (.bipush 8, 2) := by decide +kernel
theorem dX5_wordsLeftOf_7 : decode cX5_wordsLeftOf 7 = .ok (.if_icmp .ge 26, 3) := by decide +kernel
theorem dX5_wordsLeftOf_10 : decode cX5_wordsLeftOf 10 = .ok (.iload_n 1, 1) := by decide +kernel
theorem dX5_wordsLeftOf_11 : decode cX5_wordsLeftOf 11 = .ok (.iload_n 3, 1) := by decide +kernel
theorem dX5_wordsLeftOf_12 : decode cX5_wordsLeftOf 12 = .ok (.invokestatic 193, 3) := by decide +kernel
theorem dX5_wordsLeftOf_15 : decode cX5_wordsLeftOf 15 = .ok (.ifCond .eq 12, 3) := by decide +kernel
theorem dX5_wordsLeftOf_18 : decode cX5_wordsLeftOf 18 = .ok (.iload_n 2, 1) := by decide +kernel
theorem dX5_wordsLeftOf_19 : decode cX5_wordsLeftOf 19 = .ok (.aload_n 0, 1) := by decide +kernel
theorem dX5_wordsLeftOf_20 : decode cX5_wordsLeftOf 20 = .ok (.iload_n 3, 1) := by decide +kernel
theorem dX5_wordsLeftOf_21 : decode cX5_wordsLeftOf 21 = .ok (.iconst 0, 1) := by decide +kernel
theorem dX5_wordsLeftOf_22 : decode cX5_wordsLeftOf 22 = .ok (.invokevirtual 127, 3) := by decide +kernel
theorem dX5_wordsLeftOf_25 : decode cX5_wordsLeftOf 25 = .ok (.iadd, 1) := by decide +kernel
theorem dX5_wordsLeftOf_26 : decode cX5_wordsLeftOf 26 = .ok (.istore_n 2, 1) := by decide +kernel
theorem dX5_wordsLeftOf_27 : decode cX5_wordsLeftOf 27 = .ok (.iinc 3 1, 3) := by decide +kernel
theorem dX5_wordsLeftOf_30 : decode cX5_wordsLeftOf 30 = .ok (.goto (-26), 3) := by decide +kernel
theorem dX5_wordsLeftOf_33 : decode cX5_wordsLeftOf 33 = .ok (.iload_n 2, 1) := by decide +kernel
theorem dX5_wordsLeftOf_34 : decode cX5_wordsLeftOf 34 = .ok (.ireturn, 1) := by decide +kernel
theorem dX5_bestOrdered_0 : decode cX5_bestOrdered 0 = .ok (.aload_n 0, 1) := by decide +kernel
theorem dX5_bestOrdered_1 : decode cX5_bestOrdered 1 = .ok (.iconst 1, 1) := by decide +kernel
theorem dX5_bestOrdered_2 : decode cX5_bestOrdered 2 = .ok (.invokevirtual 153, 3) := by decide +kernel
theorem dX5_bestOrdered_5 : decode cX5_bestOrdered 5 = .ok (.istore_n 1, 1) := by decide +kernel
theorem dX5_bestOrdered_6 : decode cX5_bestOrdered 6 = .ok (.iconst 0, 1) := by decide +kernel
theorem dX5_bestOrdered_7 : decode cX5_bestOrdered 7 = .ok (.istore_n 2, 1) := by decide +kernel
theorem dX5_bestOrdered_8 : decode cX5_bestOrdered 8 = .ok (.iconst 0, 1) := by decide +kernel
theorem dX5_bestOrdered_9 : decode cX5_bestOrdered 9 = .ok (.istore_n 3, 1) := by decide +kernel
theorem dX5_bestOrdered_10 : decode cX5_bestOrdered 10 = .ok (.iload_n 3, 1) := by decide +kernel
theorem dX5_bestOrdered_11 : decode cX5_bestOrdered 11 = .ok (.sipush 256, 3) := by decide +kernel
theorem dX5_bestOrdered_14 : decode cX5_bestOrdered 14 = .ok (.if_icmp .ge 38, 3) := by decide +kernel
theorem dX5_bestOrdered_17 : decode cX5_bestOrdered 17 = .ok (.iload_n 3, 1) := by decide +kernel
theorem dX5_bestOrdered_18 : decode cX5_bestOrdered 18 = .ok (.iload_n 1, 1) := by decide +kernel
theorem dX5_bestOrdered_19 : decode cX5_bestOrdered 19 = .ok (.iconst (-1), 1) := by decide +kernel
theorem dX5_bestOrdered_20 : decode cX5_bestOrdered 20 = .ok (.ixor, 1) := by decide +kernel
theorem dX5_bestOrdered_21 : decode cX5_bestOrdered 21 = .ok (.iand, 1) := by decide +kernel
theorem dX5_bestOrdered_22 : decode cX5_bestOrdered 22 = .ok (.ifCond .ne 24, 3) := by decide +kernel
theorem dX5_bestOrdered_25 : decode cX5_bestOrdered 25 = .ok (.iload_n 3, 1) := by decide +kernel
theorem dX5_bestOrdered_26 : decode cX5_bestOrdered 26 = .ok (.invokestatic 181, 3) := by decide +kernel
theorem dX5_bestOrdered_29 : decode cX5_bestOrdered 29 = .ok (.iload_n 2, 1) := by decide +kernel
theorem dX5_bestOrdered_30 : decode cX5_bestOrdered 30 = .ok (.invokestatic 181, 3) := by decide +kernel
theorem dX5_bestOrdered_33 : decode cX5_bestOrdered 33 = .ok (.if_icmp .le 13, 3) := by decide +kernel
theorem dX5_bestOrdered_36 : decode cX5_bestOrdered 36 = .ok (.aload_n 0, 1) := by decide +kernel
theorem dX5_bestOrdered_37 : decode cX5_bestOrdered 37 = .ok (.iload_n 3, 1) := by decide +kernel
theorem dX5_bestOrdered_38 : decode cX5_bestOrdered 38 = .ok (.invokevirtual 283, 3) := by decide +kernel
theorem dX5_bestOrdered_41 : decode cX5_bestOrdered 41 = .ok (.ifCond .eq 5, 3) := by decide +kernel
theorem dX5_bestOrdered_44 : decode cX5_bestOrdered 44 = .ok (.iload_n 3, 1) := by decide +kernel
theorem dX5_bestOrdered_45 : decode cX5_bestOrdered 45 = .ok (.istore_n 2, 1) := by decide +kernel
theorem dX5_bestOrdered_46 : decode cX5_bestOrdered 46 = .ok (.iinc 3 1, 3) := by decide +kernel
theorem dX5_bestOrdered_49 : decode cX5_bestOrdered 49 = .ok (.goto (-39), 3) := by decide +kernel
theorem dX5_bestOrdered_52 : decode cX5_bestOrdered 52 = .ok (.iload_n 2, 1) := by decide +kernel
theorem dX5_bestOrdered_53 : decode cX5_bestOrdered 53 = .ok (.ireturn, 1) := by decide +kernel
theorem dX5_endsByDue_0 : decode cX5_endsByDue 0 = .ok (.aload_n 0, 1) := by decide +kernel
theorem dX5_endsByDue_1 : decode cX5_endsByDue 1 = .ok (.getfield 26, 3) := by decide +kernel
theorem dX5_endsByDue_4 : decode cX5_endsByDue 4 = .ok (.getfield 150, 3) := by decide +kernel
theorem dX5_endsByDue_7 : decode cX5_endsByDue 7 = .ok (.istore_n 2, 1) := by decide +kernel
theorem dX5_endsByDue_8 : decode cX5_endsByDue 8 = .ok (.iload_n 1, 1) := by decide +kernel
theorem dX5_endsByDue_9 : decode cX5_endsByDue 9 = .ok (.istore_n 3, 1) := by decide +kernel
theorem dX5_endsByDue_10 : decode cX5_endsByDue 10 = .ok (.iconst 0, 1) := by decide +kernel
theorem dX5_endsByDue_11 : decode cX5_endsByDue 11 = .ok (.istore 4, 2) := by decide +kernel
theorem dX5_endsByDue_13 : decode cX5_endsByDue 13 = .ok (.iload 4, 2) := by decide +kernel
theorem dX5_endsByDue_15 : decode cX5_endsByDue 15 = .ok (.bipush 8, 2) := by decide +kernel
theorem dX5_endsByDue_17 : decode cX5_endsByDue 17 = .ok (.if_icmp .ge 66, 3) := by decide +kernel
theorem dX5_endsByDue_20 : decode cX5_endsByDue 20 = .ok (.aload_n 0, 1) := by decide +kernel
theorem dX5_endsByDue_21 : decode cX5_endsByDue 21 = .ok (.iload_n 3, 1) := by decide +kernel
theorem dX5_endsByDue_22 : decode cX5_endsByDue 22 = .ok (.invokevirtual 218, 3) := by decide +kernel
theorem dX5_endsByDue_25 : decode cX5_endsByDue 25 = .ok (.istore 5, 2) := by decide +kernel
theorem dX5_endsByDue_27 : decode cX5_endsByDue 27 = .ok (.aload_n 0, 1) := by decide +kernel
theorem dX5_endsByDue_28 : decode cX5_endsByDue 28 = .ok (.getfield 19, 3) := by decide +kernel
theorem dX5_endsByDue_31 : decode cX5_endsByDue 31 = .ok (.iload 5, 2) := by decide +kernel
theorem dX5_endsByDue_33 : decode cX5_endsByDue 33 = .ok (.invokevirtual 100, 3) := by decide +kernel
theorem dX5_endsByDue_36 : decode cX5_endsByDue 36 = .ok (.ifCond .ne 5, 3) := by decide +kernel
theorem dX5_endsByDue_39 : decode cX5_endsByDue 39 = .ok (.iconst 1, 1) := by decide +kernel
theorem dX5_endsByDue_40 : decode cX5_endsByDue 40 = .ok (.ireturn, 1) := by decide +kernel
theorem dX5_endsByDue_41 : decode cX5_endsByDue 41 = .ok (.iload_n 2, 1) := by decide +kernel
theorem dX5_endsByDue_42 : decode cX5_endsByDue 42 = .ok (.aload_n 0, 1) := by decide +kernel
theorem dX5_endsByDue_43 : decode cX5_endsByDue 43 = .ok (.getfield 19, 3) := by decide +kernel
theorem dX5_endsByDue_46 : decode cX5_endsByDue 46 = .ok (.getfield 112, 3) := by decide +kernel
theorem dX5_endsByDue_49 : decode cX5_endsByDue 49 = .ok (.iload 5, 2) := by decide +kernel
theorem dX5_endsByDue_51 : decode cX5_endsByDue 51 = .ok (.iaload, 1) := by decide +kernel
theorem dX5_endsByDue_52 : decode cX5_endsByDue 52 = .ok (.iadd, 1) := by decide +kernel
theorem dX5_endsByDue_53 : decode cX5_endsByDue 53 = .ok (.istore_n 2, 1) := by decide +kernel
theorem dX5_endsByDue_54 : decode cX5_endsByDue 54 = .ok (.iload_n 2, 1) := by decide +kernel
theorem dX5_endsByDue_55 : decode cX5_endsByDue 55 = .ok (.aload_n 0, 1) := by decide +kernel
theorem dX5_endsByDue_56 : decode cX5_endsByDue 56 = .ok (.getfield 19, 3) := by decide +kernel
theorem dX5_endsByDue_59 : decode cX5_endsByDue 59 = .ok (.getfield 115, 3) := by decide +kernel
theorem dX5_endsByDue_62 : decode cX5_endsByDue 62 = .ok (.iload 5, 2) := by decide +kernel
theorem dX5_endsByDue_64 : decode cX5_endsByDue 64 = .ok (.iaload, 1) := by decide +kernel
theorem dX5_endsByDue_65 : decode cX5_endsByDue 65 = .ok (.if_icmp .le 5, 3) := by decide +kernel
theorem dX5_endsByDue_68 : decode cX5_endsByDue 68 = .ok (.iconst 0, 1) := by decide +kernel
theorem dX5_endsByDue_69 : decode cX5_endsByDue 69 = .ok (.ireturn, 1) := by decide +kernel
theorem dX5_endsByDue_70 : decode cX5_endsByDue 70 = .ok (.iload_n 3, 1) := by decide +kernel
theorem dX5_endsByDue_71 : decode cX5_endsByDue 71 = .ok (.iload 5, 2) := by decide +kernel
theorem dX5_endsByDue_73 : decode cX5_endsByDue 73 = .ok (.invokestatic 221, 3) := by decide +kernel
theorem dX5_endsByDue_76 : decode cX5_endsByDue 76 = .ok (.istore_n 3, 1) := by decide +kernel
theorem dX5_endsByDue_77 : decode cX5_endsByDue 77 = .ok (.iinc 4 1, 3) := by decide +kernel
theorem dX5_endsByDue_80 : decode cX5_endsByDue 80 = .ok (.goto (-67), 3) := by decide +kernel
theorem dX5_endsByDue_83 : decode cX5_endsByDue 83 = .ok (.iconst 1, 1) := by decide +kernel
theorem dX5_endsByDue_84 : decode cX5_endsByDue 84 = .ok (.ireturn, 1) := by decide +kernel
theorem dX5_earliestDue_0 : decode cX5_earliestDue 0 = .ok (.bipush (-9), 2) := by decide +kernel
theorem dX5_earliestDue_2 : decode cX5_earliestDue 2 = .ok (.istore_n 2, 1) := by decide +kernel
theorem dX5_earliestDue_3 : decode cX5_earliestDue 3 = .ok (.bipush 100, 2) := by decide +kernel
theorem dX5_earliestDue_5 : decode cX5_earliestDue 5 = .ok (.istore_n 3, 1) := by decide +kernel
theorem dX5_earliestDue_6 : decode cX5_earliestDue 6 = .ok (.iconst 0, 1) := by decide +kernel
theorem dX5_earliestDue_7 : decode cX5_earliestDue 7 = .ok (.istore 4, 2) := by decide +kernel
theorem dX5_earliestDue_9 : decode cX5_earliestDue 9 = .ok (.iload 4, 2) := by decide +kernel
theorem dX5_earliestDue_11 : decode cX5_earliestDue 11 = .ok (.bipush 8, 2) := by decide +kernel
theorem dX5_earliestDue_13 : decode cX5_earliestDue 13 = .ok (.if_icmp .ge 46, 3) := by decide +kernel
theorem dX5_earliestDue_16 : decode cX5_earliestDue 16 = .ok (.iload_n 1, 1) := by decide +kernel
theorem dX5_earliestDue_17 : decode cX5_earliestDue 17 = .ok (.iload 4, 2) := by decide +kernel
theorem dX5_earliestDue_19 : decode cX5_earliestDue 19 = .ok (.invokestatic 193, 3) := by decide +kernel
theorem dX5_earliestDue_22 : decode cX5_earliestDue 22 = .ok (.ifCond .eq 31, 3) := by decide +kernel
theorem dX5_earliestDue_25 : decode cX5_earliestDue 25 = .ok (.aload_n 0, 1) := by decide +kernel
theorem dX5_earliestDue_26 : decode cX5_earliestDue 26 = .ok (.getfield 19, 3) := by decide +kernel
theorem dX5_earliestDue_29 : decode cX5_earliestDue 29 = .ok (.getfield 115, 3) := by decide +kernel
theorem dX5_earliestDue_32 : decode cX5_earliestDue 32 = .ok (.iload 4, 2) := by decide +kernel
theorem dX5_earliestDue_34 : decode cX5_earliestDue 34 = .ok (.iaload, 1) := by decide +kernel
theorem dX5_earliestDue_35 : decode cX5_earliestDue 35 = .ok (.iload_n 3, 1) := by decide +kernel
theorem dX5_earliestDue_36 : decode cX5_earliestDue 36 = .ok (.if_icmp .ge 17, 3) := by decide +kernel
theorem dX5_earliestDue_39 : decode cX5_earliestDue 39 = .ok (.iload 4, 2) := by decide +kernel
theorem dX5_earliestDue_41 : decode cX5_earliestDue 41 = .ok (.istore_n 2, 1) := by decide +kernel
theorem dX5_earliestDue_42 : decode cX5_earliestDue 42 = .ok (.aload_n 0, 1) := by decide +kernel
theorem dX5_earliestDue_43 : decode cX5_earliestDue 43 = .ok (.getfield 19, 3) := by decide +kernel
theorem dX5_earliestDue_46 : decode cX5_earliestDue 46 = .ok (.getfield 115, 3) := by decide +kernel
theorem dX5_earliestDue_49 : decode cX5_earliestDue 49 = .ok (.iload 4, 2) := by decide +kernel
theorem dX5_earliestDue_51 : decode cX5_earliestDue 51 = .ok (.iaload, 1) := by decide +kernel
theorem dX5_earliestDue_52 : decode cX5_earliestDue 52 = .ok (.istore_n 3, 1) := by decide +kernel
theorem dX5_earliestDue_53 : decode cX5_earliestDue 53 = .ok (.iinc 4 1, 3) := by decide +kernel
theorem dX5_earliestDue_56 : decode cX5_earliestDue 56 = .ok (.goto (-47), 3) := by decide +kernel
theorem dX5_earliestDue_59 : decode cX5_earliestDue 59 = .ok (.iload_n 2, 1) := by decide +kernel
theorem dX5_earliestDue_60 : decode cX5_earliestDue 60 = .ok (.ireturn, 1) := by decide +kernel
theorem dX5_choices_0 : decode cX5_choices 0 = .ok (.iconst 1, 1) := by decide +kernel
theorem dX5_choices_1 : decode cX5_choices 1 = .ok (.istore_n 2, 1) := by decide +kernel
theorem dX5_choices_2 : decode cX5_choices 2 = .ok (.iconst 1, 1) := by decide +kernel
theorem dX5_choices_3 : decode cX5_choices 3 = .ok (.istore_n 3, 1) := by decide +kernel
theorem dX5_choices_4 : decode cX5_choices 4 = .ok (.iload_n 3, 1) := by decide +kernel
theorem dX5_choices_5 : decode cX5_choices 5 = .ok (.iload_n 1, 1) := by decide +kernel
theorem dX5_choices_6 : decode cX5_choices 6 = .ok (.if_icmp .gt 19, 3) := by decide +kernel
theorem dX5_choices_9 : decode cX5_choices 9 = .ok (.iload_n 2, 1) := by decide +kernel
theorem dX5_choices_10 : decode cX5_choices 10 = .ok (.iload_n 0, 1) := by decide +kernel
theorem dX5_choices_11 : decode cX5_choices 11 = .ok (.iload_n 3, 1) := by decide +kernel
theorem dX5_choices_12 : decode cX5_choices 12 = .ok (.isub, 1) := by decide +kernel
theorem dX5_choices_13 : decode cX5_choices 13 = .ok (.iconst 1, 1) := by decide +kernel
theorem dX5_choices_14 : decode cX5_choices 14 = .ok (.iadd, 1) := by decide +kernel
theorem dX5_choices_15 : decode cX5_choices 15 = .ok (.imul, 1) := by decide +kernel
theorem dX5_choices_16 : decode cX5_choices 16 = .ok (.iload_n 3, 1) := by decide +kernel
theorem dX5_choices_17 : decode cX5_choices 17 = .ok (.idiv, 1) := by decide +kernel
theorem dX5_choices_18 : decode cX5_choices 18 = .ok (.istore_n 2, 1) := by decide +kernel
theorem dX5_choices_19 : decode cX5_choices 19 = .ok (.iinc 3 1, 3) := by decide +kernel
theorem dX5_choices_22 : decode cX5_choices 22 = .ok (.goto (-18), 3) := by decide +kernel
theorem dX5_choices_25 : decode cX5_choices 25 = .ok (.iload_n 2, 1) := by decide +kernel
theorem dX5_choices_26 : decode cX5_choices 26 = .ok (.ireturn, 1) := by decide +kernel
theorem dX5_power_0 : decode cX5_power 0 = .ok (.iconst 1, 1) := by decide +kernel
theorem dX5_power_1 : decode cX5_power 1 = .ok (.istore_n 2, 1) := by decide +kernel
theorem dX5_power_2 : decode cX5_power 2 = .ok (.iconst 0, 1) := by decide +kernel
theorem dX5_power_3 : decode cX5_power 3 = .ok (.istore_n 3, 1) := by decide +kernel
theorem dX5_power_4 : decode cX5_power 4 = .ok (.iload_n 3, 1) := by decide +kernel
theorem dX5_power_5 : decode cX5_power 5 = .ok (.iload_n 1, 1) := by decide +kernel
theorem dX5_power_6 : decode cX5_power 6 = .ok (.if_icmp .ge 13, 3) := by decide +kernel
theorem dX5_power_9 : decode cX5_power 9 = .ok (.iload_n 2, 1) := by decide +kernel
theorem dX5_power_10 : decode cX5_power 10 = .ok (.iload_n 0, 1) := by decide +kernel
theorem dX5_power_11 : decode cX5_power 11 = .ok (.imul, 1) := by decide +kernel
theorem dX5_power_12 : decode cX5_power 12 = .ok (.istore_n 2, 1) := by decide +kernel
theorem dX5_power_13 : decode cX5_power 13 = .ok (.iinc 3 1, 3) := by decide +kernel
theorem dX5_power_16 : decode cX5_power 16 = .ok (.goto (-12), 3) := by decide +kernel
theorem dX5_power_19 : decode cX5_power 19 = .ok (.iload_n 2, 1) := by decide +kernel
theorem dX5_power_20 : decode cX5_power 20 = .ok (.ireturn, 1) := by decide +kernel
theorem dX5_commonDivisor_0 : decode cX5_commonDivisor 0 = .ok (.iload_n 0, 1) := by decide +kernel
theorem dX5_commonDivisor_1 : decode cX5_commonDivisor 1 = .ok (.istore_n 2, 1) := by decide +kernel
theorem dX5_commonDivisor_2 : decode cX5_commonDivisor 2 = .ok (.iload_n 1, 1) := by decide +kernel
theorem dX5_commonDivisor_3 : decode cX5_commonDivisor 3 = .ok (.istore_n 3, 1) := by decide +kernel
theorem dX5_commonDivisor_4 : decode cX5_commonDivisor 4 = .ok (.iconst 0, 1) := by decide +kernel
theorem dX5_commonDivisor_5 : decode cX5_commonDivisor 5 = .ok (.istore 4, 2) := by decide +kernel
theorem dX5_commonDivisor_7 : decode cX5_commonDivisor 7 = .ok (.iload 4, 2) := by decide +kernel
theorem dX5_commonDivisor_9 : decode cX5_commonDivisor 9 = .ok (.bipush 64, 2) := by decide +kernel
theorem dX5_commonDivisor_11 : decode cX5_commonDivisor 11 = .ok (.if_icmp .ge 23, 3) := by decide +kernel
theorem dX5_commonDivisor_14 : decode cX5_commonDivisor 14 = .ok (.iload_n 3, 1) := by decide +kernel
theorem dX5_commonDivisor_15 : decode cX5_commonDivisor 15 = .ok (.ifCond .eq 19, 3) := by decide +kernel
theorem dX5_commonDivisor_18 : decode cX5_commonDivisor 18 = .ok (.iload_n 2, 1) := by decide +kernel
theorem dX5_commonDivisor_19 : decode cX5_commonDivisor 19 = .ok (.iload_n 3, 1) := by decide +kernel
theorem dX5_commonDivisor_20 : decode cX5_commonDivisor 20 = .ok (.irem, 1) := by decide +kernel
theorem dX5_commonDivisor_21 : decode cX5_commonDivisor 21 = .ok (.istore 5, 2) := by decide +kernel
theorem dX5_commonDivisor_23 : decode cX5_commonDivisor 23 = .ok (.iload_n 3, 1) := by decide +kernel
theorem dX5_commonDivisor_24 : decode cX5_commonDivisor 24 = .ok (.istore_n 2, 1) := by decide +kernel
theorem dX5_commonDivisor_25 : decode cX5_commonDivisor 25 = .ok (.iload 5, 2) := by decide +kernel
theorem dX5_commonDivisor_27 : decode cX5_commonDivisor 27 = .ok (.istore_n 3, 1) := by decide +kernel
theorem dX5_commonDivisor_28 : decode cX5_commonDivisor 28 = .ok (.iinc 4 1, 3) := by decide +kernel
theorem dX5_commonDivisor_31 : decode cX5_commonDivisor 31 = .ok (.goto (-24), 3) := by decide +kernel
theorem dX5_commonDivisor_34 : decode cX5_commonDivisor 34 = .ok (.iload_n 2, 1) := by decide +kernel
theorem dX5_commonDivisor_35 : decode cX5_commonDivisor 35 = .ok (.ireturn, 1) := by decide +kernel
theorem dX5_asWord_0 : decode cX5_asWord 0 = .ok (.aload_n 0, 1) := by decide +kernel
theorem dX5_asWord_1 : decode cX5_asWord 1 = .ok (.dup, 1) := by decide +kernel
theorem dX5_asWord_2 : decode cX5_asWord 2 = .ok (.getfield 59, 3) := by decide +kernel
theorem dX5_asWord_5 : decode cX5_asWord 5 = .ok (.lconst 1, 1) := by decide +kernel
theorem dX5_asWord_6 : decode cX5_asWord 6 = .ok (.ladd, 1) := by decide +kernel
theorem dX5_asWord_7 : decode cX5_asWord 7 = .ok (.putfield 59, 3) := by decide +kernel
theorem dX5_asWord_10 : decode cX5_asWord 10 = .ok (.aload_n 0, 1) := by decide +kernel
theorem dX5_asWord_11 : decode cX5_asWord 11 = .ok (.iload_n 1, 1) := by decide +kernel
theorem dX5_asWord_12 : decode cX5_asWord 12 = .ok (.iconst 0, 1) := by decide +kernel
theorem dX5_asWord_13 : decode cX5_asWord 13 = .ok (.invokevirtual 127, 3) := by decide +kernel
theorem dX5_asWord_16 : decode cX5_asWord 16 = .ok (.ireturn, 1) := by decide +kernel
theorem dX5_asVow_0 : decode cX5_asVow 0 = .ok (.aload_n 0, 1) := by decide +kernel
theorem dX5_asVow_1 : decode cX5_asVow 1 = .ok (.dup, 1) := by decide +kernel
theorem dX5_asVow_2 : decode cX5_asVow 2 = .ok (.getfield 59, 3) := by decide +kernel
theorem dX5_asVow_5 : decode cX5_asVow 5 = .ok (.ldc2_w 286, 3) := by decide +kernel
theorem dX5_asVow_8 : decode cX5_asVow 8 = .ok (.ladd, 1) := by decide +kernel
theorem dX5_asVow_9 : decode cX5_asVow 9 = .ok (.putfield 59, 3) := by decide +kernel
theorem dX5_asVow_12 : decode cX5_asVow 12 = .ok (.aload_n 0, 1) := by decide +kernel
theorem dX5_asVow_13 : decode cX5_asVow 13 = .ok (.iload_n 1, 1) := by decide +kernel
theorem dX5_asVow_14 : decode cX5_asVow 14 = .ok (.invokevirtual 237, 3) := by decide +kernel
theorem dX5_asVow_17 : decode cX5_asVow 17 = .ok (.aload_n 0, 1) := by decide +kernel
theorem dX5_asVow_18 : decode cX5_asVow 18 = .ok (.getfield 19, 3) := by decide +kernel
theorem dX5_asVow_21 : decode cX5_asVow 21 = .ok (.getfield 109, 3) := by decide +kernel
theorem dX5_asVow_24 : decode cX5_asVow 24 = .ok (.iload_n 1, 1) := by decide +kernel
theorem dX5_asVow_25 : decode cX5_asVow 25 = .ok (.iaload, 1) := by decide +kernel
theorem dX5_asVow_26 : decode cX5_asVow 26 = .ok (.iadd, 1) := by decide +kernel
theorem dX5_asVow_27 : decode cX5_asVow 27 = .ok (.ireturn, 1) := by decide +kernel
theorem dX5_asLoan_0 : decode cX5_asLoan 0 = .ok (.aload_n 0, 1) := by decide +kernel
theorem dX5_asLoan_1 : decode cX5_asLoan 1 = .ok (.dup, 1) := by decide +kernel
theorem dX5_asLoan_2 : decode cX5_asLoan 2 = .ok (.getfield 59, 3) := by decide +kernel
theorem dX5_asLoan_5 : decode cX5_asLoan 5 = .ok (.ldc2_w 288, 3) := by decide +kernel
theorem dX5_asLoan_8 : decode cX5_asLoan 8 = .ok (.ladd, 1) := by decide +kernel
theorem dX5_asLoan_9 : decode cX5_asLoan 9 = .ok (.putfield 59, 3) := by decide +kernel
theorem dX5_asLoan_12 : decode cX5_asLoan 12 = .ok (.aload_n 0, 1) := by decide +kernel
theorem dX5_asLoan_13 : decode cX5_asLoan 13 = .ok (.iload_n 1, 1) := by decide +kernel
theorem dX5_asLoan_14 : decode cX5_asLoan 14 = .ok (.invokevirtual 237, 3) := by decide +kernel
theorem dX5_asLoan_17 : decode cX5_asLoan 17 = .ok (.aload_n 0, 1) := by decide +kernel
theorem dX5_asLoan_18 : decode cX5_asLoan 18 = .ok (.getfield 19, 3) := by decide +kernel
theorem dX5_asLoan_21 : decode cX5_asLoan 21 = .ok (.getfield 112, 3) := by decide +kernel
theorem dX5_asLoan_24 : decode cX5_asLoan 24 = .ok (.iload_n 1, 1) := by decide +kernel
theorem dX5_asLoan_25 : decode cX5_asLoan 25 = .ok (.iaload, 1) := by decide +kernel
theorem dX5_asLoan_26 : decode cX5_asLoan 26 = .ok (.isub, 1) := by decide +kernel
theorem dX5_asLoan_27 : decode cX5_asLoan 27 = .ok (.ireturn, 1) := by decide +kernel
theorem dX5_asBride_0 : decode cX5_asBride 0 = .ok (.aload_n 0, 1) := by decide +kernel
theorem dX5_asBride_1 : decode cX5_asBride 1 = .ok (.dup, 1) := by decide +kernel
theorem dX5_asBride_2 : decode cX5_asBride 2 = .ok (.getfield 59, 3) := by decide +kernel
theorem dX5_asBride_5 : decode cX5_asBride 5 = .ok (.ldc2_w 290, 3) := by decide +kernel
theorem dX5_asBride_8 : decode cX5_asBride 8 = .ok (.ladd, 1) := by decide +kernel
theorem dX5_asBride_9 : decode cX5_asBride 9 = .ok (.putfield 59, 3) := by decide +kernel
theorem dX5_asBride_12 : decode cX5_asBride 12 = .ok (.iconst 2, 1) := by decide +kernel
theorem dX5_asBride_13 : decode cX5_asBride 13 = .ok (.aload_n 0, 1) := by decide +kernel
theorem dX5_asBride_14 : decode cX5_asBride 14 = .ok (.iload_n 1, 1) := by decide +kernel
theorem dX5_asBride_15 : decode cX5_asBride 15 = .ok (.invokevirtual 240, 3) := by decide +kernel
theorem dX5_asBride_18 : decode cX5_asBride 18 = .ok (.imul, 1) := by decide +kernel
theorem dX5_asBride_19 : decode cX5_asBride 19 = .ok (.ireturn, 1) := by decide +kernel
theorem dX5_asOak_0 : decode cX5_asOak 0 = .ok (.aload_n 0, 1) := by decide +kernel
theorem dX5_asOak_1 : decode cX5_asOak 1 = .ok (.dup, 1) := by decide +kernel
theorem dX5_asOak_2 : decode cX5_asOak 2 = .ok (.getfield 59, 3) := by decide +kernel
theorem dX5_asOak_5 : decode cX5_asOak 5 = .ok (.ldc2_w 292, 3) := by decide +kernel
theorem dX5_asOak_8 : decode cX5_asOak 8 = .ok (.ladd, 1) := by decide +kernel
theorem dX5_asOak_9 : decode cX5_asOak 9 = .ok (.putfield 59, 3) := by decide +kernel
theorem dX5_asOak_12 : decode cX5_asOak 12 = .ok (.aload_n 0, 1) := by decide +kernel
theorem dX5_asOak_13 : decode cX5_asOak 13 = .ok (.iload_n 1, 1) := by decide +kernel
theorem dX5_asOak_14 : decode cX5_asOak 14 = .ok (.invokevirtual 243, 3) := by decide +kernel
theorem dX5_asOak_17 : decode cX5_asOak 17 = .ok (.iload_n 1, 1) := by decide +kernel
theorem dX5_asOak_18 : decode cX5_asOak 18 = .ok (.iadd, 1) := by decide +kernel
theorem dX5_asOak_19 : decode cX5_asOak 19 = .ok (.ireturn, 1) := by decide +kernel
theorem dX5_asThumb_0 : decode cX5_asThumb 0 = .ok (.aload_n 0, 1) := by decide +kernel
theorem dX5_asThumb_1 : decode cX5_asThumb 1 = .ok (.dup, 1) := by decide +kernel
theorem dX5_asThumb_2 : decode cX5_asThumb 2 = .ok (.getfield 59, 3) := by decide +kernel
theorem dX5_asThumb_5 : decode cX5_asThumb 5 = .ok (.ldc2_w 294, 3) := by decide +kernel
theorem dX5_asThumb_8 : decode cX5_asThumb 8 = .ok (.ladd, 1) := by decide +kernel
theorem dX5_asThumb_9 : decode cX5_asThumb 9 = .ok (.putfield 59, 3) := by decide +kernel
theorem dX5_asThumb_12 : decode cX5_asThumb 12 = .ok (.aload_n 0, 1) := by decide +kernel
theorem dX5_asThumb_13 : decode cX5_asThumb 13 = .ok (.iload_n 1, 1) := by decide +kernel
theorem dX5_asThumb_14 : decode cX5_asThumb 14 = .ok (.invokevirtual 237, 3) := by decide +kernel
theorem dX5_asThumb_17 : decode cX5_asThumb 17 = .ok (.aload_n 0, 1) := by decide +kernel
theorem dX5_asThumb_18 : decode cX5_asThumb 18 = .ok (.getfield 26, 3) := by decide +kernel
theorem dX5_asThumb_21 : decode cX5_asThumb 21 = .ok (.getfield 150, 3) := by decide +kernel
theorem dX5_asThumb_24 : decode cX5_asThumb 24 = .ok (.iadd, 1) := by decide +kernel
theorem dX5_asThumb_25 : decode cX5_asThumb 25 = .ok (.ireturn, 1) := by decide +kernel
