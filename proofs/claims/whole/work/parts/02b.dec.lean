theorem dX7_init_0 : decode cX7_init 0 = .ok (.aload_n 0, 1) := by decide +kernel
theorem dX7_init_1 : decode cX7_init 1 = .ok (.invokespecial 1, 3) := by decide +kernel
theorem dX7_init_4 : decode cX7_init 4 = .ok (.aload_n 0, 1) := by decide +kernel
theorem dX7_init_5 : decode cX7_init 5 = .ok (.new 7, 3) := by decide +kernel
theorem dX7_init_8 : decode cX7_init 8 = .ok (.dup, 1) := by decide +kernel
theorem dX7_init_9 : decode cX7_init 9 = .ok (.invokespecial 9, 3) := by decide +kernel
theorem dX7_init_12 : decode cX7_init 12 = .ok (.putfield 10, 3) := by decide +kernel
theorem dX7_init_15 : decode cX7_init 15 = .ok (.aload_n 0, 1) := by decide +kernel
theorem dX7_init_16 : decode cX7_init 16 = .ok (.new 16, 3) := by decide +kernel
theorem dX7_init_19 : decode cX7_init 19 = .ok (.dup, 1) := by decide +kernel
theorem dX7_init_20 : decode cX7_init 20 = .ok (.invokespecial 18, 3) := by decide +kernel
theorem dX7_init_23 : decode cX7_init 23 = .ok (.putfield 19, 3) := by decide +kernel
theorem dX7_init_26 : decode cX7_init 26 = .ok (.aload_n 0, 1) := by decide +kernel
theorem dX7_init_27 : decode cX7_init 27 = .ok (.new 7, 3) := by decide +kernel
theorem dX7_init_30 : decode cX7_init 30 = .ok (.dup, 1) := by decide +kernel
theorem dX7_init_31 : decode cX7_init 31 = .ok (.invokespecial 9, 3) := by decide +kernel
theorem dX7_init_34 : decode cX7_init 34 = .ok (.putfield 23, 3) := by decide +kernel
theorem dX7_init_37 : decode cX7_init 37 = .ok (.aload_n 0, 1) := by decide +kernel
theorem dX7_init_38 : decode cX7_init 38 = .ok (.new 16, 3) := by decide +kernel
theorem dX7_init_41 : decode cX7_init 41 = .ok (.dup, 1) := by decide +kernel
theorem dX7_init_42 : decode cX7_init 42 = .ok (.invokespecial 18, 3) := by decide +kernel
theorem dX7_init_45 : decode cX7_init 45 = .ok (.putfield 26, 3) := by decide +kernel
theorem dX7_init_48 : decode cX7_init 48 = .ok (.aload_n 0, 1) := by decide +kernel
theorem dX7_init_49 : decode cX7_init 49 = .ok (.iconst 0, 1) := by decide +kernel
theorem dX7_init_50 : decode cX7_init 50 = .ok (.putfield 29, 3) := by decide +kernel
theorem dX7_init_53 : decode cX7_init 53 = .ok (.aload_n 0, 1) := by decide +kernel
theorem dX7_init_54 : decode cX7_init 54 = .ok (.new 33, 3) := by decide +kernel
theorem dX7_init_57 : decode cX7_init 57 = .ok (.dup, 1) := by decide +kernel
theorem dX7_init_58 : decode cX7_init 58 = .ok (.invokespecial 35, 3) := by decide +kernel
theorem dX7_init_61 : decode cX7_init 61 = .ok (.putfield 36, 3) := by decide +kernel
theorem dX7_init_64 : decode cX7_init 64 = .ok (.aload_n 0, 1) := by decide +kernel
theorem dX7_init_65 : decode cX7_init 65 = .ok (.new 40, 3) := by decide +kernel
theorem dX7_init_68 : decode cX7_init 68 = .ok (.dup, 1) := by decide +kernel
theorem dX7_init_69 : decode cX7_init 69 = .ok (.invokespecial 42, 3) := by decide +kernel
theorem dX7_init_72 : decode cX7_init 72 = .ok (.putfield 43, 3) := by decide +kernel
theorem dX7_init_75 : decode cX7_init 75 = .ok (.aload_n 0, 1) := by decide +kernel
theorem dX7_init_76 : decode cX7_init 76 = .ok (.new 47, 3) := by decide +kernel
theorem dX7_init_79 : decode cX7_init 79 = .ok (.dup, 1) := by decide +kernel
theorem dX7_init_80 : decode cX7_init 80 = .ok (.invokespecial 49, 3) := by decide +kernel
theorem dX7_init_83 : decode cX7_init 83 = .ok (.putfield 50, 3) := by decide +kernel
theorem dX7_init_86 : decode cX7_init 86 = .ok (.aload_n 0, 1) := by decide +kernel
theorem dX7_init_87 : decode cX7_init 87 = .ok (.iconst 4, 1) := by decide +kernel
theorem dX7_init_88 : decode cX7_init 88 = .ok (.anewarray 54, 3) := by decide +kernel
theorem dX7_init_91 : decode cX7_init 91 = .ok (.putfield 56, 3) := by decide +kernel
theorem dX7_init_94 : decode cX7_init 94 = .ok (.iconst 0, 1) := by decide +kernel
theorem dX7_init_95 : decode cX7_init 95 = .ok (.istore_n 1, 1) := by decide +kernel
theorem dX7_init_96 : decode cX7_init 96 = .ok (.iload_n 1, 1) := by decide +kernel
theorem dX7_init_97 : decode cX7_init 97 = .ok (.iconst 4, 1) := by decide +kernel
theorem dX7_init_98 : decode cX7_init 98 = .ok (.if_icmp .ge 22, 3) := by decide +kernel
theorem dX7_init_101 : decode cX7_init 101 = .ok (.aload_n 0, 1) := by decide +kernel
theorem dX7_init_102 : decode cX7_init 102 = .ok (.getfield 56, 3) := by decide +kernel
theorem dX7_init_105 : decode cX7_init 105 = .ok (.iload_n 1, 1) := by decide +kernel
theorem dX7_init_106 : decode cX7_init 106 = .ok (.new 54, 3) := by decide +kernel
theorem dX7_init_109 : decode cX7_init 109 = .ok (.dup, 1) := by decide +kernel
theorem dX7_init_110 : decode cX7_init 110 = .ok (.invokespecial 60, 3) := by decide +kernel
theorem dX7_init_113 : decode cX7_init 113 = .ok (.aastore, 1) := by decide +kernel
theorem dX7_init_114 : decode cX7_init 114 = .ok (.iinc 1 1, 3) := by decide +kernel
theorem dX7_init_117 : decode cX7_init 117 = .ok (.goto (-21), 3) := by decide +kernel
theorem dX7_init_120 : decode cX7_init 120 = .ok (.return_, 1) := by decide +kernel
theorem dX7_cell_0 : decode cX7_cell 0 = .ok (.iload_n 1, 1) := by decide +kernel
theorem dX7_cell_1 : decode cX7_cell 1 = .ok (.iconst 0, 1) := by decide +kernel
theorem dX7_cell_2 : decode cX7_cell 2 = .ok (.bipush 60, 2) := by decide +kernel
theorem dX7_cell_4 : decode cX7_cell 4 = .ok (.invokestatic 61, 3) := by decide +kernel
theorem dX7_cell_7 : decode cX7_cell 7 = .ok (.ifCond .ne 5, 3) := by decide +kernel
theorem dX7_cell_10 : decode cX7_cell 10 = .ok (.iconst (-1), 1) := by decide +kernel
theorem dX7_cell_11 : decode cX7_cell 11 = .ok (.ireturn, 1) := by decide +kernel
theorem dX7_cell_12 : decode cX7_cell 12 = .ok (.aload_n 0, 1) := by decide +kernel
theorem dX7_cell_13 : decode cX7_cell 13 = .ok (.getfield 10, 3) := by decide +kernel
theorem dX7_cell_16 : decode cX7_cell 16 = .ok (.getfield 65, 3) := by decide +kernel
theorem dX7_cell_19 : decode cX7_cell 19 = .ok (.bipush 12, 2) := by decide +kernel
theorem dX7_cell_21 : decode cX7_cell 21 = .ok (.if_icmp .lt 6, 3) := by decide +kernel
theorem dX7_cell_24 : decode cX7_cell 24 = .ok (.bipush (-3), 2) := by decide +kernel
theorem dX7_cell_26 : decode cX7_cell 26 = .ok (.ireturn, 1) := by decide +kernel
theorem dX7_cell_27 : decode cX7_cell 27 = .ok (.aload_n 0, 1) := by decide +kernel
theorem dX7_cell_28 : decode cX7_cell 28 = .ok (.getfield 19, 3) := by decide +kernel
theorem dX7_cell_31 : decode cX7_cell 31 = .ok (.invokevirtual 69, 3) := by decide +kernel
theorem dX7_cell_34 : decode cX7_cell 34 = .ok (.aload_n 0, 1) := by decide +kernel
theorem dX7_cell_35 : decode cX7_cell 35 = .ok (.getfield 10, 3) := by decide +kernel
theorem dX7_cell_38 : decode cX7_cell 38 = .ok (.iload_n 1, 1) := by decide +kernel
theorem dX7_cell_39 : decode cX7_cell 39 = .ok (.invokevirtual 72, 3) := by decide +kernel
theorem dX7_cell_42 : decode cX7_cell 42 = .ok (.ireturn, 1) := by decide +kernel
theorem dX7_person_0 : decode cX7_person 0 = .ok (.iload_n 1, 1) := by decide +kernel
theorem dX7_person_1 : decode cX7_person 1 = .ok (.iconst 0, 1) := by decide +kernel
theorem dX7_person_2 : decode cX7_person 2 = .ok (.iconst 4, 1) := by decide +kernel
theorem dX7_person_3 : decode cX7_person 3 = .ok (.invokestatic 61, 3) := by decide +kernel
theorem dX7_person_6 : decode cX7_person 6 = .ok (.ifCond .eq 13, 3) := by decide +kernel
theorem dX7_person_9 : decode cX7_person 9 = .ok (.iload_n 2, 1) := by decide +kernel
theorem dX7_person_10 : decode cX7_person 10 = .ok (.iconst 1, 1) := by decide +kernel
theorem dX7_person_11 : decode cX7_person 11 = .ok (.bipush 9, 2) := by decide +kernel
theorem dX7_person_13 : decode cX7_person 13 = .ok (.invokestatic 61, 3) := by decide +kernel
theorem dX7_person_16 : decode cX7_person 16 = .ok (.ifCond .ne 5, 3) := by decide +kernel
theorem dX7_person_19 : decode cX7_person 19 = .ok (.iconst (-1), 1) := by decide +kernel
theorem dX7_person_20 : decode cX7_person 20 = .ok (.ireturn, 1) := by decide +kernel
theorem dX7_person_21 : decode cX7_person 21 = .ok (.aload_n 0, 1) := by decide +kernel
theorem dX7_person_22 : decode cX7_person 22 = .ok (.getfield 10, 3) := by decide +kernel
theorem dX7_person_25 : decode cX7_person 25 = .ok (.getfield 76, 3) := by decide +kernel
theorem dX7_person_28 : decode cX7_person 28 = .ok (.bipush 6, 2) := by decide +kernel
theorem dX7_person_30 : decode cX7_person 30 = .ok (.if_icmp .lt 6, 3) := by decide +kernel
theorem dX7_person_33 : decode cX7_person 33 = .ok (.bipush (-3), 2) := by decide +kernel
theorem dX7_person_35 : decode cX7_person 35 = .ok (.ireturn, 1) := by decide +kernel
theorem dX7_person_36 : decode cX7_person 36 = .ok (.aload_n 0, 1) := by decide +kernel
theorem dX7_person_37 : decode cX7_person 37 = .ok (.getfield 19, 3) := by decide +kernel
theorem dX7_person_40 : decode cX7_person 40 = .ok (.invokevirtual 69, 3) := by decide +kernel
theorem dX7_person_43 : decode cX7_person 43 = .ok (.aload_n 0, 1) := by decide +kernel
theorem dX7_person_44 : decode cX7_person 44 = .ok (.getfield 10, 3) := by decide +kernel
theorem dX7_person_47 : decode cX7_person 47 = .ok (.iload_n 1, 1) := by decide +kernel
theorem dX7_person_48 : decode cX7_person 48 = .ok (.iload_n 2, 1) := by decide +kernel
theorem dX7_person_49 : decode cX7_person 49 = .ok (.invokevirtual 79, 3) := by decide +kernel
theorem dX7_person_52 : decode cX7_person 52 = .ok (.ireturn, 1) := by decide +kernel
theorem dX7_saying_0 : decode cX7_saying 0 = .ok (.iload_n 1, 1) := by decide +kernel
theorem dX7_saying_1 : decode cX7_saying 1 = .ok (.iconst 0, 1) := by decide +kernel
theorem dX7_saying_2 : decode cX7_saying 2 = .ok (.bipush 20, 2) := by decide +kernel
theorem dX7_saying_4 : decode cX7_saying 4 = .ok (.invokestatic 61, 3) := by decide +kernel
theorem dX7_saying_7 : decode cX7_saying 7 = .ok (.ifCond .eq 18, 3) := by decide +kernel
theorem dX7_saying_10 : decode cX7_saying 10 = .ok (.iload_n 2, 1) := by decide +kernel
theorem dX7_saying_11 : decode cX7_saying 11 = .ok (.iconst 0, 1) := by decide +kernel
theorem dX7_saying_12 : decode cX7_saying 12 = .ok (.aload_n 0, 1) := by decide +kernel
theorem dX7_saying_13 : decode cX7_saying 13 = .ok (.getfield 10, 3) := by decide +kernel
theorem dX7_saying_16 : decode cX7_saying 16 = .ok (.invokevirtual 83, 3) := by decide +kernel
theorem dX7_saying_19 : decode cX7_saying 19 = .ok (.invokestatic 61, 3) := by decide +kernel
theorem dX7_saying_22 : decode cX7_saying 22 = .ok (.ifCond .ne 5, 3) := by decide +kernel
theorem dX7_saying_25 : decode cX7_saying 25 = .ok (.iconst (-1), 1) := by decide +kernel
theorem dX7_saying_26 : decode cX7_saying 26 = .ok (.ireturn, 1) := by decide +kernel
theorem dX7_saying_27 : decode cX7_saying 27 = .ok (.aload_n 0, 1) := by decide +kernel
theorem dX7_saying_28 : decode cX7_saying 28 = .ok (.getfield 10, 3) := by decide +kernel
theorem dX7_saying_31 : decode cX7_saying 31 = .ok (.getfield 87, 3) := by decide +kernel
theorem dX7_saying_34 : decode cX7_saying 34 = .ok (.iconst 5, 1) := by decide +kernel
theorem dX7_saying_35 : decode cX7_saying 35 = .ok (.if_icmp .lt 6, 3) := by decide +kernel
theorem dX7_saying_38 : decode cX7_saying 38 = .ok (.bipush (-3), 2) := by decide +kernel
theorem dX7_saying_40 : decode cX7_saying 40 = .ok (.ireturn, 1) := by decide +kernel
theorem dX7_saying_41 : decode cX7_saying 41 = .ok (.aload_n 0, 1) := by decide +kernel
theorem dX7_saying_42 : decode cX7_saying 42 = .ok (.getfield 19, 3) := by decide +kernel
theorem dX7_saying_45 : decode cX7_saying 45 = .ok (.invokevirtual 69, 3) := by decide +kernel
theorem dX7_saying_48 : decode cX7_saying 48 = .ok (.aload_n 0, 1) := by decide +kernel
theorem dX7_saying_49 : decode cX7_saying 49 = .ok (.getfield 10, 3) := by decide +kernel
theorem dX7_saying_52 : decode cX7_saying 52 = .ok (.iload_n 1, 1) := by decide +kernel
theorem dX7_saying_53 : decode cX7_saying 53 = .ok (.iload_n 2, 1) := by decide +kernel
theorem dX7_saying_54 : decode cX7_saying 54 = .ok (.invokevirtual 90, 3) := by decide +kernel
theorem dX7_saying_57 : decode cX7_saying 57 = .ok (.ireturn, 1) := by decide +kernel
theorem dX7_ice_0 : decode cX7_ice 0 = .ok (.aload_n 0, 1) := by decide +kernel
theorem dX7_ice_1 : decode cX7_ice 1 = .ok (.getfield 10, 3) := by decide +kernel
theorem dX7_ice_4 : decode cX7_ice 4 = .ok (.iload_n 1, 1) := by decide +kernel
theorem dX7_ice_5 : decode cX7_ice 5 = .ok (.invokevirtual 93, 3) := by decide +kernel
theorem dX7_ice_8 : decode cX7_ice 8 = .ok (.ifCond .eq 18, 3) := by decide +kernel
theorem dX7_ice_11 : decode cX7_ice 11 = .ok (.aload_n 0, 1) := by decide +kernel
theorem dX7_ice_12 : decode cX7_ice 12 = .ok (.getfield 10, 3) := by decide +kernel
theorem dX7_ice_15 : decode cX7_ice 15 = .ok (.getfield 97, 3) := by decide +kernel
theorem dX7_ice_18 : decode cX7_ice 18 = .ok (.getfield 101, 3) := by decide +kernel
theorem dX7_ice_21 : decode cX7_ice 21 = .ok (.iload_n 1, 1) := by decide +kernel
theorem dX7_ice_22 : decode cX7_ice 22 = .ok (.iaload, 1) := by decide +kernel
theorem dX7_ice_23 : decode cX7_ice 23 = .ok (.goto 4, 3) := by decide +kernel
theorem dX7_ice_26 : decode cX7_ice 26 = .ok (.iconst (-1), 1) := by decide +kernel
theorem dX7_ice_27 : decode cX7_ice 27 = .ok (.ireturn, 1) := by decide +kernel
theorem dX7_of_0 : decode cX7_of 0 = .ok (.aload_n 0, 1) := by decide +kernel
theorem dX7_of_1 : decode cX7_of 1 = .ok (.getfield 10, 3) := by decide +kernel
theorem dX7_of_4 : decode cX7_of 4 = .ok (.iload_n 1, 1) := by decide +kernel
theorem dX7_of_5 : decode cX7_of 5 = .ok (.invokevirtual 107, 3) := by decide +kernel
theorem dX7_of_8 : decode cX7_of 8 = .ok (.ifCond .ne 5, 3) := by decide +kernel
theorem dX7_of_11 : decode cX7_of 11 = .ok (.iconst (-1), 1) := by decide +kernel
theorem dX7_of_12 : decode cX7_of 12 = .ok (.ireturn, 1) := by decide +kernel
theorem dX7_of_13 : decode cX7_of 13 = .ok (.iload_n 2, 1) := by decide +kernel
theorem dX7_of_14 : decode cX7_of 14 = .ok (.tableswitch 55 0 2 #[26, 36, 46], 26) := by decide +kernel
theorem dX7_of_40 : decode cX7_of 40 = .ok (.aload_n 0, 1) := by decide +kernel
theorem dX7_of_41 : decode cX7_of 41 = .ok (.getfield 10, 3) := by decide +kernel
theorem dX7_of_44 : decode cX7_of 44 = .ok (.getfield 110, 3) := by decide +kernel
theorem dX7_of_47 : decode cX7_of 47 = .ok (.iload_n 1, 1) := by decide +kernel
theorem dX7_of_48 : decode cX7_of 48 = .ok (.iaload, 1) := by decide +kernel
theorem dX7_of_49 : decode cX7_of 49 = .ok (.ireturn, 1) := by decide +kernel
theorem dX7_of_50 : decode cX7_of 50 = .ok (.aload_n 0, 1) := by decide +kernel
theorem dX7_of_51 : decode cX7_of 51 = .ok (.getfield 10, 3) := by decide +kernel
theorem dX7_of_54 : decode cX7_of 54 = .ok (.getfield 113, 3) := by decide +kernel
theorem dX7_of_57 : decode cX7_of 57 = .ok (.iload_n 1, 1) := by decide +kernel
theorem dX7_of_58 : decode cX7_of 58 = .ok (.iaload, 1) := by decide +kernel
theorem dX7_of_59 : decode cX7_of 59 = .ok (.ireturn, 1) := by decide +kernel
theorem dX7_of_60 : decode cX7_of 60 = .ok (.aload_n 0, 1) := by decide +kernel
theorem dX7_of_61 : decode cX7_of 61 = .ok (.getfield 10, 3) := by decide +kernel
theorem dX7_of_64 : decode cX7_of 64 = .ok (.iload_n 1, 1) := by decide +kernel
theorem dX7_of_65 : decode cX7_of 65 = .ok (.invokevirtual 116, 3) := by decide +kernel
theorem dX7_of_68 : decode cX7_of 68 = .ok (.ireturn, 1) := by decide +kernel
theorem dX7_of_69 : decode cX7_of 69 = .ok (.iconst (-1), 1) := by decide +kernel
theorem dX7_of_70 : decode cX7_of 70 = .ok (.ireturn, 1) := by decide +kernel
theorem dX7_at_0 : decode cX7_at 0 = .ok (.aload_n 0, 1) := by decide +kernel
theorem dX7_at_1 : decode cX7_at 1 = .ok (.getfield 10, 3) := by decide +kernel
theorem dX7_at_4 : decode cX7_at 4 = .ok (.iload_n 1, 1) := by decide +kernel
theorem dX7_at_5 : decode cX7_at 5 = .ok (.invokevirtual 119, 3) := by decide +kernel
theorem dX7_at_8 : decode cX7_at 8 = .ok (.ifCond .ne 5, 3) := by decide +kernel
theorem dX7_at_11 : decode cX7_at 11 = .ok (.iconst (-1), 1) := by decide +kernel
theorem dX7_at_12 : decode cX7_at 12 = .ok (.ireturn, 1) := by decide +kernel
theorem dX7_at_13 : decode cX7_at 13 = .ok (.aload_n 0, 1) := by decide +kernel
theorem dX7_at_14 : decode cX7_at 14 = .ok (.getfield 10, 3) := by decide +kernel
theorem dX7_at_17 : decode cX7_at 17 = .ok (.getfield 97, 3) := by decide +kernel
theorem dX7_at_20 : decode cX7_at 20 = .ok (.getfield 122, 3) := by decide +kernel
theorem dX7_at_23 : decode cX7_at 23 = .ok (.iload_n 1, 1) := by decide +kernel
theorem dX7_at_24 : decode cX7_at 24 = .ok (.iaload, 1) := by decide +kernel
theorem dX7_at_25 : decode cX7_at 25 = .ok (.istore_n 3, 1) := by decide +kernel
theorem dX7_at_26 : decode cX7_at 26 = .ok (.aload_n 0, 1) := by decide +kernel
theorem dX7_at_27 : decode cX7_at 27 = .ok (.getfield 10, 3) := by decide +kernel
theorem dX7_at_30 : decode cX7_at 30 = .ok (.getfield 97, 3) := by decide +kernel
theorem dX7_at_33 : decode cX7_at 33 = .ok (.getfield 125, 3) := by decide +kernel
theorem dX7_at_36 : decode cX7_at 36 = .ok (.iload_n 1, 1) := by decide +kernel
theorem dX7_at_37 : decode cX7_at 37 = .ok (.iaload, 1) := by decide +kernel
theorem dX7_at_38 : decode cX7_at 38 = .ok (.istore 4, 2) := by decide +kernel
theorem dX7_at_40 : decode cX7_at 40 = .ok (.iload_n 2, 1) := by decide +kernel
theorem dX7_at_41 : decode cX7_at 41 = .ok (.tableswitch 88 0 3 #[31, 33, 36, 57], 31) := by decide +kernel
theorem dX7_at_72 : decode cX7_at 72 = .ok (.iload_n 3, 1) := by decide +kernel
theorem dX7_at_73 : decode cX7_at 73 = .ok (.ireturn, 1) := by decide +kernel
theorem dX7_at_74 : decode cX7_at 74 = .ok (.iload 4, 2) := by decide +kernel
theorem dX7_at_76 : decode cX7_at 76 = .ok (.ireturn, 1) := by decide +kernel
theorem dX7_at_77 : decode cX7_at 77 = .ok (.aload_n 0, 1) := by decide +kernel
theorem dX7_at_78 : decode cX7_at 78 = .ok (.getfield 10, 3) := by decide +kernel
theorem dX7_at_81 : decode cX7_at 81 = .ok (.iload 4, 2) := by decide +kernel
theorem dX7_at_83 : decode cX7_at 83 = .ok (.iload_n 3, 1) := by decide +kernel
theorem dX7_at_84 : decode cX7_at 84 = .ok (.aload_n 0, 1) := by decide +kernel
theorem dX7_at_85 : decode cX7_at 85 = .ok (.getfield 10, 3) := by decide +kernel
theorem dX7_at_88 : decode cX7_at 88 = .ok (.getfield 97, 3) := by decide +kernel
theorem dX7_at_91 : decode cX7_at 91 = .ok (.invokevirtual 128, 3) := by decide +kernel
theorem dX7_at_94 : decode cX7_at 94 = .ok (.invokevirtual 132, 3) := by decide +kernel
theorem dX7_at_97 : decode cX7_at 97 = .ok (.ireturn, 1) := by decide +kernel
theorem dX7_at_98 : decode cX7_at 98 = .ok (.aload_n 0, 1) := by decide +kernel
theorem dX7_at_99 : decode cX7_at 99 = .ok (.getfield 10, 3) := by decide +kernel
theorem dX7_at_102 : decode cX7_at 102 = .ok (.aload_n 0, 1) := by decide +kernel
theorem dX7_at_103 : decode cX7_at 103 = .ok (.getfield 10, 3) := by decide +kernel
theorem dX7_at_106 : decode cX7_at 106 = .ok (.invokevirtual 83, 3) := by decide +kernel
theorem dX7_at_109 : decode cX7_at 109 = .ok (.iload 4, 2) := by decide +kernel
theorem dX7_at_111 : decode cX7_at 111 = .ok (.iconst (-1), 1) := by decide +kernel
theorem dX7_at_112 : decode cX7_at 112 = .ok (.ixor, 1) := by decide +kernel
theorem dX7_at_113 : decode cX7_at 113 = .ok (.iand, 1) := by decide +kernel
theorem dX7_at_114 : decode cX7_at 114 = .ok (.iload_n 3, 1) := by decide +kernel
theorem dX7_at_115 : decode cX7_at 115 = .ok (.aload_n 0, 1) := by decide +kernel
theorem dX7_at_116 : decode cX7_at 116 = .ok (.getfield 10, 3) := by decide +kernel
theorem dX7_at_119 : decode cX7_at 119 = .ok (.getfield 97, 3) := by decide +kernel
theorem dX7_at_122 : decode cX7_at 122 = .ok (.invokevirtual 128, 3) := by decide +kernel
theorem dX7_at_125 : decode cX7_at 125 = .ok (.invokevirtual 132, 3) := by decide +kernel
theorem dX7_at_128 : decode cX7_at 128 = .ok (.ireturn, 1) := by decide +kernel
theorem dX7_at_129 : decode cX7_at 129 = .ok (.iconst (-1), 1) := by decide +kernel
theorem dX7_at_130 : decode cX7_at 130 = .ok (.ireturn, 1) := by decide +kernel
theorem dX7_rocks_0 : decode cX7_rocks 0 = .ok (.aload_n 0, 1) := by decide +kernel
theorem dX7_rocks_1 : decode cX7_rocks 1 = .ok (.getfield 10, 3) := by decide +kernel
theorem dX7_rocks_4 : decode cX7_rocks 4 = .ok (.iload_n 1, 1) := by decide +kernel
theorem dX7_rocks_5 : decode cX7_rocks 5 = .ok (.invokevirtual 107, 3) := by decide +kernel
theorem dX7_rocks_8 : decode cX7_rocks 8 = .ok (.ifCond .eq 14, 3) := by decide +kernel
theorem dX7_rocks_11 : decode cX7_rocks 11 = .ok (.aload_n 0, 1) := by decide +kernel
theorem dX7_rocks_12 : decode cX7_rocks 12 = .ok (.getfield 10, 3) := by decide +kernel
theorem dX7_rocks_15 : decode cX7_rocks 15 = .ok (.iload_n 2, 1) := by decide +kernel
theorem dX7_rocks_16 : decode cX7_rocks 16 = .ok (.invokevirtual 119, 3) := by decide +kernel
theorem dX7_rocks_19 : decode cX7_rocks 19 = .ok (.ifCond .ne 5, 3) := by decide +kernel
theorem dX7_rocks_22 : decode cX7_rocks 22 = .ok (.iconst (-1), 1) := by decide +kernel
theorem dX7_rocks_23 : decode cX7_rocks 23 = .ok (.ireturn, 1) := by decide +kernel
theorem dX7_rocks_24 : decode cX7_rocks 24 = .ok (.aload_n 0, 1) := by decide +kernel
theorem dX7_rocks_25 : decode cX7_rocks 25 = .ok (.getfield 10, 3) := by decide +kernel
theorem dX7_rocks_28 : decode cX7_rocks 28 = .ok (.iload_n 1, 1) := by decide +kernel
theorem dX7_rocks_29 : decode cX7_rocks 29 = .ok (.iload_n 2, 1) := by decide +kernel
theorem dX7_rocks_30 : decode cX7_rocks 30 = .ok (.invokevirtual 136, 3) := by decide +kernel
theorem dX7_rocks_33 : decode cX7_rocks 33 = .ok (.iconst 1, 1) := by decide +kernel
theorem dX7_rocks_34 : decode cX7_rocks 34 = .ok (.iload_n 1, 1) := by decide +kernel
theorem dX7_rocks_35 : decode cX7_rocks 35 = .ok (.ishl, 1) := by decide +kernel
theorem dX7_rocks_36 : decode cX7_rocks 36 = .ok (.if_icmp .ne 7, 3) := by decide +kernel
theorem dX7_rocks_39 : decode cX7_rocks 39 = .ok (.iconst 1, 1) := by decide +kernel
theorem dX7_rocks_40 : decode cX7_rocks 40 = .ok (.goto 4, 3) := by decide +kernel
theorem dX7_rocks_43 : decode cX7_rocks 43 = .ok (.iconst 0, 1) := by decide +kernel
theorem dX7_rocks_44 : decode cX7_rocks 44 = .ok (.istore_n 3, 1) := by decide +kernel
theorem dX7_rocks_45 : decode cX7_rocks 45 = .ok (.aload_n 0, 1) := by decide +kernel
theorem dX7_rocks_46 : decode cX7_rocks 46 = .ok (.getfield 10, 3) := by decide +kernel
theorem dX7_rocks_49 : decode cX7_rocks 49 = .ok (.iload_n 1, 1) := by decide +kernel
theorem dX7_rocks_50 : decode cX7_rocks 50 = .ok (.aload_n 0, 1) := by decide +kernel
theorem dX7_rocks_51 : decode cX7_rocks 51 = .ok (.getfield 10, 3) := by decide +kernel
theorem dX7_rocks_54 : decode cX7_rocks 54 = .ok (.getfield 97, 3) := by decide +kernel
theorem dX7_rocks_57 : decode cX7_rocks 57 = .ok (.getfield 122, 3) := by decide +kernel
theorem dX7_rocks_60 : decode cX7_rocks 60 = .ok (.iload_n 2, 1) := by decide +kernel
theorem dX7_rocks_61 : decode cX7_rocks 61 = .ok (.iaload, 1) := by decide +kernel
theorem dX7_rocks_62 : decode cX7_rocks 62 = .ok (.iload_n 3, 1) := by decide +kernel
theorem dX7_rocks_63 : decode cX7_rocks 63 = .ok (.aload_n 0, 1) := by decide +kernel
theorem dX7_rocks_64 : decode cX7_rocks 64 = .ok (.getfield 10, 3) := by decide +kernel
theorem dX7_rocks_67 : decode cX7_rocks 67 = .ok (.getfield 97, 3) := by decide +kernel
theorem dX7_rocks_70 : decode cX7_rocks 70 = .ok (.invokevirtual 128, 3) := by decide +kernel
theorem dX7_rocks_73 : decode cX7_rocks 73 = .ok (.invokevirtual 139, 3) := by decide +kernel
theorem dX7_rocks_76 : decode cX7_rocks 76 = .ok (.ireturn, 1) := by decide +kernel
theorem dX7_frost_0 : decode cX7_frost 0 = .ok (.iload_n 1, 1) := by decide +kernel
theorem dX7_frost_1 : decode cX7_frost 1 = .ok (.iconst 0, 1) := by decide +kernel
theorem dX7_frost_2 : decode cX7_frost 2 = .ok (.bipush 9, 2) := by decide +kernel
theorem dX7_frost_4 : decode cX7_frost 4 = .ok (.invokestatic 61, 3) := by decide +kernel
theorem dX7_frost_7 : decode cX7_frost 7 = .ok (.ifCond .ne 5, 3) := by decide +kernel
theorem dX7_frost_10 : decode cX7_frost 10 = .ok (.iconst (-1), 1) := by decide +kernel
theorem dX7_frost_11 : decode cX7_frost 11 = .ok (.ireturn, 1) := by decide +kernel
theorem dX7_frost_12 : decode cX7_frost 12 = .ok (.aload_n 0, 1) := by decide +kernel
theorem dX7_frost_13 : decode cX7_frost 13 = .ok (.getfield 10, 3) := by decide +kernel
theorem dX7_frost_16 : decode cX7_frost 16 = .ok (.getfield 143, 3) := by decide +kernel
theorem dX7_frost_19 : decode cX7_frost 19 = .ok (.istore_n 2, 1) := by decide +kernel
theorem dX7_frost_20 : decode cX7_frost 20 = .ok (.aload_n 0, 1) := by decide +kernel
theorem dX7_frost_21 : decode cX7_frost 21 = .ok (.getfield 10, 3) := by decide +kernel
theorem dX7_frost_24 : decode cX7_frost 24 = .ok (.iload_n 1, 1) := by decide +kernel
theorem dX7_frost_25 : decode cX7_frost 25 = .ok (.putfield 143, 3) := by decide +kernel
theorem dX7_frost_28 : decode cX7_frost 28 = .ok (.iload_n 2, 1) := by decide +kernel
theorem dX7_frost_29 : decode cX7_frost 29 = .ok (.ireturn, 1) := by decide +kernel
theorem dX7_type_0 : decode cX7_type 0 = .ok (.iload_n 1, 1) := by decide +kernel
theorem dX7_type_1 : decode cX7_type 1 = .ok (.bipush 32, 2) := by decide +kernel
theorem dX7_type_3 : decode cX7_type 3 = .ok (.bipush 126, 2) := by decide +kernel
theorem dX7_type_5 : decode cX7_type 5 = .ok (.invokestatic 61, 3) := by decide +kernel
theorem dX7_type_8 : decode cX7_type 8 = .ok (.ifCond .ne 5, 3) := by decide +kernel
theorem dX7_type_11 : decode cX7_type 11 = .ok (.iconst (-1), 1) := by decide +kernel
theorem dX7_type_12 : decode cX7_type 12 = .ok (.ireturn, 1) := by decide +kernel
theorem dX7_type_13 : decode cX7_type 13 = .ok (.aload_n 0, 1) := by decide +kernel
theorem dX7_type_14 : decode cX7_type 14 = .ok (.getfield 36, 3) := by decide +kernel
theorem dX7_type_17 : decode cX7_type 17 = .ok (.invokevirtual 146, 3) := by decide +kernel
theorem dX7_type_20 : decode cX7_type 20 = .ok (.ifCond .eq 8, 3) := by decide +kernel
theorem dX7_type_23 : decode cX7_type 23 = .ok (.bipush (-3), 2) := by decide +kernel
theorem dX7_type_25 : decode cX7_type 25 = .ok (.goto 11, 3) := by decide +kernel
theorem dX7_type_28 : decode cX7_type 28 = .ok (.aload_n 0, 1) := by decide +kernel
theorem dX7_type_29 : decode cX7_type 29 = .ok (.getfield 36, 3) := by decide +kernel
theorem dX7_type_32 : decode cX7_type 32 = .ok (.iload_n 1, 1) := by decide +kernel
theorem dX7_type_33 : decode cX7_type 33 = .ok (.invokevirtual 149, 3) := by decide +kernel
theorem dX7_type_36 : decode cX7_type 36 = .ok (.ireturn, 1) := by decide +kernel
theorem dX7_canal_0 : decode cX7_canal 0 = .ok (.aload_n 0, 1) := by decide +kernel
theorem dX7_canal_1 : decode cX7_canal 1 = .ok (.getfield 36, 3) := by decide +kernel
theorem dX7_canal_4 : decode cX7_canal 4 = .ok (.aload_n 0, 1) := by decide +kernel
theorem dX7_canal_5 : decode cX7_canal 5 = .ok (.getfield 10, 3) := by decide +kernel
theorem dX7_canal_8 : decode cX7_canal 8 = .ok (.invokevirtual 152, 3) := by decide +kernel
theorem dX7_canal_11 : decode cX7_canal 11 = .ok (.istore_n 1, 1) := by decide +kernel
theorem dX7_canal_12 : decode cX7_canal 12 = .ok (.aload_n 0, 1) := by decide +kernel
theorem dX7_canal_13 : decode cX7_canal 13 = .ok (.getfield 36, 3) := by decide +kernel
theorem dX7_canal_16 : decode cX7_canal 16 = .ok (.iconst 0, 1) := by decide +kernel
theorem dX7_canal_17 : decode cX7_canal 17 = .ok (.putfield 156, 3) := by decide +kernel
theorem dX7_canal_20 : decode cX7_canal 20 = .ok (.iload_n 1, 1) := by decide +kernel
theorem dX7_canal_21 : decode cX7_canal 21 = .ok (.ifCond .le 10, 3) := by decide +kernel
theorem dX7_canal_24 : decode cX7_canal 24 = .ok (.aload_n 0, 1) := by decide +kernel
theorem dX7_canal_25 : decode cX7_canal 25 = .ok (.getfield 19, 3) := by decide +kernel
theorem dX7_canal_28 : decode cX7_canal 28 = .ok (.invokevirtual 69, 3) := by decide +kernel
theorem dX7_canal_31 : decode cX7_canal 31 = .ok (.iload_n 1, 1) := by decide +kernel
theorem dX7_canal_32 : decode cX7_canal 32 = .ok (.ireturn, 1) := by decide +kernel
theorem dX7_count_0 : decode cX7_count 0 = .ok (.iload_n 1, 1) := by decide +kernel
theorem dX7_count_1 : decode cX7_count 1 = .ok (.tableswitch 129 0 8 #[51, 59, 67, 75, 86, 97, 105, 113, 121], 51) := by decide +kernel
theorem dX7_count_52 : decode cX7_count 52 = .ok (.aload_n 0, 1) := by decide +kernel
theorem dX7_count_53 : decode cX7_count 53 = .ok (.getfield 10, 3) := by decide +kernel
theorem dX7_count_56 : decode cX7_count 56 = .ok (.getfield 65, 3) := by decide +kernel
theorem dX7_count_59 : decode cX7_count 59 = .ok (.ireturn, 1) := by decide +kernel
theorem dX7_count_60 : decode cX7_count 60 = .ok (.aload_n 0, 1) := by decide +kernel
theorem dX7_count_61 : decode cX7_count 61 = .ok (.getfield 10, 3) := by decide +kernel
theorem dX7_count_64 : decode cX7_count 64 = .ok (.getfield 76, 3) := by decide +kernel
theorem dX7_count_67 : decode cX7_count 67 = .ok (.ireturn, 1) := by decide +kernel
theorem dX7_count_68 : decode cX7_count 68 = .ok (.aload_n 0, 1) := by decide +kernel
theorem dX7_count_69 : decode cX7_count 69 = .ok (.getfield 10, 3) := by decide +kernel
theorem dX7_count_72 : decode cX7_count 72 = .ok (.getfield 87, 3) := by decide +kernel
theorem dX7_count_75 : decode cX7_count 75 = .ok (.ireturn, 1) := by decide +kernel
theorem dX7_count_76 : decode cX7_count 76 = .ok (.aload_n 0, 1) := by decide +kernel
theorem dX7_count_77 : decode cX7_count 77 = .ok (.getfield 10, 3) := by decide +kernel
theorem dX7_count_80 : decode cX7_count 80 = .ok (.getfield 97, 3) := by decide +kernel
theorem dX7_count_83 : decode cX7_count 83 = .ok (.getfield 159, 3) := by decide +kernel
theorem dX7_count_86 : decode cX7_count 86 = .ok (.ireturn, 1) := by decide +kernel
theorem dX7_count_87 : decode cX7_count 87 = .ok (.aload_n 0, 1) := by decide +kernel
theorem dX7_count_88 : decode cX7_count 88 = .ok (.getfield 10, 3) := by decide +kernel
theorem dX7_count_91 : decode cX7_count 91 = .ok (.getfield 97, 3) := by decide +kernel
theorem dX7_count_94 : decode cX7_count 94 = .ok (.getfield 162, 3) := by decide +kernel
theorem dX7_count_97 : decode cX7_count 97 = .ok (.ireturn, 1) := by decide +kernel
theorem dX7_count_98 : decode cX7_count 98 = .ok (.aload_n 0, 1) := by decide +kernel
theorem dX7_count_99 : decode cX7_count 99 = .ok (.getfield 10, 3) := by decide +kernel
theorem dX7_count_102 : decode cX7_count 102 = .ok (.getfield 143, 3) := by decide +kernel
theorem dX7_count_105 : decode cX7_count 105 = .ok (.ireturn, 1) := by decide +kernel
theorem dX7_count_106 : decode cX7_count 106 = .ok (.aload_n 0, 1) := by decide +kernel
theorem dX7_count_107 : decode cX7_count 107 = .ok (.getfield 10, 3) := by decide +kernel
theorem dX7_count_110 : decode cX7_count 110 = .ok (.invokevirtual 165, 3) := by decide +kernel
theorem dX7_count_113 : decode cX7_count 113 = .ok (.ireturn, 1) := by decide +kernel
theorem dX7_count_114 : decode cX7_count 114 = .ok (.aload_n 0, 1) := by decide +kernel
theorem dX7_count_115 : decode cX7_count 115 = .ok (.getfield 10, 3) := by decide +kernel
theorem dX7_count_118 : decode cX7_count 118 = .ok (.invokevirtual 168, 3) := by decide +kernel
theorem dX7_count_121 : decode cX7_count 121 = .ok (.ireturn, 1) := by decide +kernel
theorem dX7_count_122 : decode cX7_count 122 = .ok (.aload_n 0, 1) := by decide +kernel
theorem dX7_count_123 : decode cX7_count 123 = .ok (.getfield 19, 3) := by decide +kernel
theorem dX7_count_126 : decode cX7_count 126 = .ok (.getfield 171, 3) := by decide +kernel
theorem dX7_count_129 : decode cX7_count 129 = .ok (.ireturn, 1) := by decide +kernel
theorem dX7_count_130 : decode cX7_count 130 = .ok (.iconst (-1), 1) := by decide +kernel
theorem dX7_count_131 : decode cX7_count 131 = .ok (.ireturn, 1) := by decide +kernel
theorem dX7_say_0 : decode cX7_say 0 = .ok (.iload_n 1, 1) := by decide +kernel
theorem dX7_say_1 : decode cX7_say 1 = .ok (.bipush (-4), 2) := by decide +kernel
theorem dX7_say_3 : decode cX7_say 3 = .ok (.if_icmp .eq 16, 3) := by decide +kernel
theorem dX7_say_6 : decode cX7_say 6 = .ok (.aload_n 0, 1) := by decide +kernel
theorem dX7_say_7 : decode cX7_say 7 = .ok (.getfield 10, 3) := by decide +kernel
theorem dX7_say_10 : decode cX7_say 10 = .ok (.iload_n 1, 1) := by decide +kernel
theorem dX7_say_11 : decode cX7_say 11 = .ok (.invokevirtual 119, 3) := by decide +kernel
theorem dX7_say_14 : decode cX7_say 14 = .ok (.ifCond .ne 5, 3) := by decide +kernel
theorem dX7_say_17 : decode cX7_say 17 = .ok (.iconst (-1), 1) := by decide +kernel
theorem dX7_say_18 : decode cX7_say 18 = .ok (.ireturn, 1) := by decide +kernel
theorem dX7_say_19 : decode cX7_say 19 = .ok (.aload_n 0, 1) := by decide +kernel
theorem dX7_say_20 : decode cX7_say 20 = .ok (.getfield 10, 3) := by decide +kernel
theorem dX7_say_23 : decode cX7_say 23 = .ok (.getfield 97, 3) := by decide +kernel
theorem dX7_say_26 : decode cX7_say 26 = .ok (.getfield 162, 3) := by decide +kernel
theorem dX7_say_29 : decode cX7_say 29 = .ok (.sipush 9999, 3) := by decide +kernel
theorem dX7_say_32 : decode cX7_say 32 = .ok (.if_icmp .lt 6, 3) := by decide +kernel
theorem dX7_say_35 : decode cX7_say 35 = .ok (.bipush (-3), 2) := by decide +kernel
theorem dX7_say_37 : decode cX7_say 37 = .ok (.ireturn, 1) := by decide +kernel
theorem dX7_say_38 : decode cX7_say 38 = .ok (.aload_n 0, 1) := by decide +kernel
theorem dX7_say_39 : decode cX7_say 39 = .ok (.getfield 19, 3) := by decide +kernel
theorem dX7_say_42 : decode cX7_say 42 = .ok (.aload_n 0, 1) := by decide +kernel
theorem dX7_say_43 : decode cX7_say 43 = .ok (.getfield 10, 3) := by decide +kernel
theorem dX7_say_46 : decode cX7_say 46 = .ok (.getfield 97, 3) := by decide +kernel
theorem dX7_say_49 : decode cX7_say 49 = .ok (.invokevirtual 174, 3) := by decide +kernel
theorem dX7_say_52 : decode cX7_say 52 = .ok (.aload_n 0, 1) := by decide +kernel
theorem dX7_say_53 : decode cX7_say 53 = .ok (.getfield 10, 3) := by decide +kernel
theorem dX7_say_56 : decode cX7_say 56 = .ok (.aload_n 0, 1) := by decide +kernel
theorem dX7_say_57 : decode cX7_say 57 = .ok (.getfield 10, 3) := by decide +kernel
theorem dX7_say_60 : decode cX7_say 60 = .ok (.getfield 97, 3) := by decide +kernel
theorem dX7_say_63 : decode cX7_say 63 = .ok (.iload_n 1, 1) := by decide +kernel
theorem dX7_say_64 : decode cX7_say 64 = .ok (.invokevirtual 178, 3) := by decide +kernel
theorem dX7_say_67 : decode cX7_say 67 = .ok (.aload_n 0, 1) := by decide +kernel
theorem dX7_say_68 : decode cX7_say 68 = .ok (.getfield 10, 3) := by decide +kernel
theorem dX7_say_71 : decode cX7_say 71 = .ok (.getfield 97, 3) := by decide +kernel
theorem dX7_say_74 : decode cX7_say 74 = .ok (.getfield 159, 3) := by decide +kernel
theorem dX7_say_77 : decode cX7_say 77 = .ok (.ireturn, 1) := by decide +kernel
theorem dX7_thaw_0 : decode cX7_thaw 0 = .ok (.aload_n 0, 1) := by decide +kernel
theorem dX7_thaw_1 : decode cX7_thaw 1 = .ok (.getfield 10, 3) := by decide +kernel
theorem dX7_thaw_4 : decode cX7_thaw 4 = .ok (.iload_n 1, 1) := by decide +kernel
theorem dX7_thaw_5 : decode cX7_thaw 5 = .ok (.invokevirtual 93, 3) := by decide +kernel
theorem dX7_thaw_8 : decode cX7_thaw 8 = .ok (.ifCond .eq 13, 3) := by decide +kernel
theorem dX7_thaw_11 : decode cX7_thaw 11 = .ok (.iload_n 2, 1) := by decide +kernel
theorem dX7_thaw_12 : decode cX7_thaw 12 = .ok (.iconst 1, 1) := by decide +kernel
theorem dX7_thaw_13 : decode cX7_thaw 13 = .ok (.bipush 60, 2) := by decide +kernel
theorem dX7_thaw_15 : decode cX7_thaw 15 = .ok (.invokestatic 61, 3) := by decide +kernel
theorem dX7_thaw_18 : decode cX7_thaw 18 = .ok (.ifCond .ne 5, 3) := by decide +kernel
theorem dX7_thaw_21 : decode cX7_thaw 21 = .ok (.iconst (-1), 1) := by decide +kernel
theorem dX7_thaw_22 : decode cX7_thaw 22 = .ok (.ireturn, 1) := by decide +kernel
theorem dX7_thaw_23 : decode cX7_thaw 23 = .ok (.aload_n 0, 1) := by decide +kernel
theorem dX7_thaw_24 : decode cX7_thaw 24 = .ok (.getfield 10, 3) := by decide +kernel
theorem dX7_thaw_27 : decode cX7_thaw 27 = .ok (.getfield 97, 3) := by decide +kernel
theorem dX7_thaw_30 : decode cX7_thaw 30 = .ok (.getfield 101, 3) := by decide +kernel
theorem dX7_thaw_33 : decode cX7_thaw 33 = .ok (.iload_n 1, 1) := by decide +kernel
theorem dX7_thaw_34 : decode cX7_thaw 34 = .ok (.iaload, 1) := by decide +kernel
theorem dX7_thaw_35 : decode cX7_thaw 35 = .ok (.ifCond .ne 6, 3) := by decide +kernel
theorem dX7_thaw_38 : decode cX7_thaw 38 = .ok (.bipush (-2), 2) := by decide +kernel
theorem dX7_thaw_40 : decode cX7_thaw 40 = .ok (.ireturn, 1) := by decide +kernel
theorem dX7_thaw_41 : decode cX7_thaw 41 = .ok (.aload_n 0, 1) := by decide +kernel
theorem dX7_thaw_42 : decode cX7_thaw 42 = .ok (.getfield 19, 3) := by decide +kernel
theorem dX7_thaw_45 : decode cX7_thaw 45 = .ok (.aload_n 0, 1) := by decide +kernel
theorem dX7_thaw_46 : decode cX7_thaw 46 = .ok (.getfield 10, 3) := by decide +kernel
theorem dX7_thaw_49 : decode cX7_thaw 49 = .ok (.getfield 97, 3) := by decide +kernel
theorem dX7_thaw_52 : decode cX7_thaw 52 = .ok (.invokevirtual 174, 3) := by decide +kernel
theorem dX7_thaw_55 : decode cX7_thaw 55 = .ok (.aload_n 0, 1) := by decide +kernel
theorem dX7_thaw_56 : decode cX7_thaw 56 = .ok (.getfield 10, 3) := by decide +kernel
theorem dX7_thaw_59 : decode cX7_thaw 59 = .ok (.getfield 97, 3) := by decide +kernel
theorem dX7_thaw_62 : decode cX7_thaw 62 = .ok (.getfield 101, 3) := by decide +kernel
theorem dX7_thaw_65 : decode cX7_thaw 65 = .ok (.iload_n 1, 1) := by decide +kernel
theorem dX7_thaw_66 : decode cX7_thaw 66 = .ok (.iconst 0, 1) := by decide +kernel
theorem dX7_thaw_67 : decode cX7_thaw 67 = .ok (.aload_n 0, 1) := by decide +kernel
theorem dX7_thaw_68 : decode cX7_thaw 68 = .ok (.getfield 10, 3) := by decide +kernel
theorem dX7_thaw_71 : decode cX7_thaw 71 = .ok (.getfield 97, 3) := by decide +kernel
theorem dX7_thaw_74 : decode cX7_thaw 74 = .ok (.getfield 101, 3) := by decide +kernel
theorem dX7_thaw_77 : decode cX7_thaw 77 = .ok (.iload_n 1, 1) := by decide +kernel
theorem dX7_thaw_78 : decode cX7_thaw 78 = .ok (.iaload, 1) := by decide +kernel
theorem dX7_thaw_79 : decode cX7_thaw 79 = .ok (.iload_n 2, 1) := by decide +kernel
theorem dX7_thaw_80 : decode cX7_thaw 80 = .ok (.isub, 1) := by decide +kernel
theorem dX7_thaw_81 : decode cX7_thaw 81 = .ok (.invokestatic 182, 3) := by decide +kernel
theorem dX7_thaw_84 : decode cX7_thaw 84 = .ok (.iastore, 1) := by decide +kernel
theorem dX7_thaw_85 : decode cX7_thaw 85 = .ok (.aload_n 0, 1) := by decide +kernel
theorem dX7_thaw_86 : decode cX7_thaw 86 = .ok (.getfield 10, 3) := by decide +kernel
theorem dX7_thaw_89 : decode cX7_thaw 89 = .ok (.getfield 97, 3) := by decide +kernel
theorem dX7_thaw_92 : decode cX7_thaw 92 = .ok (.getfield 101, 3) := by decide +kernel
theorem dX7_thaw_95 : decode cX7_thaw 95 = .ok (.iload_n 1, 1) := by decide +kernel
theorem dX7_thaw_96 : decode cX7_thaw 96 = .ok (.iaload, 1) := by decide +kernel
theorem dX7_thaw_97 : decode cX7_thaw 97 = .ok (.ireturn, 1) := by decide +kernel
theorem dX7_mind_0 : decode cX7_mind 0 = .ok (.aload_n 0, 1) := by decide +kernel
theorem dX7_mind_1 : decode cX7_mind 1 = .ok (.getfield 10, 3) := by decide +kernel
theorem dX7_mind_4 : decode cX7_mind 4 = .ok (.iload_n 1, 1) := by decide +kernel
theorem dX7_mind_5 : decode cX7_mind 5 = .ok (.invokevirtual 107, 3) := by decide +kernel
theorem dX7_mind_8 : decode cX7_mind 8 = .ok (.ifCond .eq 14, 3) := by decide +kernel
theorem dX7_mind_11 : decode cX7_mind 11 = .ok (.aload_n 0, 1) := by decide +kernel
theorem dX7_mind_12 : decode cX7_mind 12 = .ok (.getfield 10, 3) := by decide +kernel
theorem dX7_mind_15 : decode cX7_mind 15 = .ok (.iload_n 2, 1) := by decide +kernel
theorem dX7_mind_16 : decode cX7_mind 16 = .ok (.invokevirtual 119, 3) := by decide +kernel
theorem dX7_mind_19 : decode cX7_mind 19 = .ok (.ifCond .ne 5, 3) := by decide +kernel
theorem dX7_mind_22 : decode cX7_mind 22 = .ok (.iconst (-1), 1) := by decide +kernel
theorem dX7_mind_23 : decode cX7_mind 23 = .ok (.ireturn, 1) := by decide +kernel
theorem dX7_mind_24 : decode cX7_mind 24 = .ok (.aload_n 0, 1) := by decide +kernel
theorem dX7_mind_25 : decode cX7_mind 25 = .ok (.getfield 19, 3) := by decide +kernel
theorem dX7_mind_28 : decode cX7_mind 28 = .ok (.aload_n 0, 1) := by decide +kernel
theorem dX7_mind_29 : decode cX7_mind 29 = .ok (.getfield 10, 3) := by decide +kernel
theorem dX7_mind_32 : decode cX7_mind 32 = .ok (.getfield 97, 3) := by decide +kernel
theorem dX7_mind_35 : decode cX7_mind 35 = .ok (.invokevirtual 174, 3) := by decide +kernel
theorem dX7_mind_38 : decode cX7_mind 38 = .ok (.aload_n 0, 1) := by decide +kernel
theorem dX7_mind_39 : decode cX7_mind 39 = .ok (.getfield 10, 3) := by decide +kernel
theorem dX7_mind_42 : decode cX7_mind 42 = .ok (.getfield 97, 3) := by decide +kernel
theorem dX7_mind_45 : decode cX7_mind 45 = .ok (.getfield 125, 3) := by decide +kernel
theorem dX7_mind_48 : decode cX7_mind 48 = .ok (.iload_n 2, 1) := by decide +kernel
theorem dX7_mind_49 : decode cX7_mind 49 = .ok (.dup2, 1) := by decide +kernel
theorem dX7_mind_50 : decode cX7_mind 50 = .ok (.iaload, 1) := by decide +kernel
theorem dX7_mind_51 : decode cX7_mind 51 = .ok (.iconst 1, 1) := by decide +kernel
theorem dX7_mind_52 : decode cX7_mind 52 = .ok (.iload_n 1, 1) := by decide +kernel
theorem dX7_mind_53 : decode cX7_mind 53 = .ok (.ishl, 1) := by decide +kernel
theorem dX7_mind_54 : decode cX7_mind 54 = .ok (.ixor, 1) := by decide +kernel
theorem dX7_mind_55 : decode cX7_mind 55 = .ok (.iastore, 1) := by decide +kernel
theorem dX7_mind_56 : decode cX7_mind 56 = .ok (.aload_n 0, 1) := by decide +kernel
theorem dX7_mind_57 : decode cX7_mind 57 = .ok (.getfield 10, 3) := by decide +kernel
theorem dX7_mind_60 : decode cX7_mind 60 = .ok (.getfield 97, 3) := by decide +kernel
theorem dX7_mind_63 : decode cX7_mind 63 = .ok (.getfield 125, 3) := by decide +kernel
theorem dX7_mind_66 : decode cX7_mind 66 = .ok (.iload_n 2, 1) := by decide +kernel
theorem dX7_mind_67 : decode cX7_mind 67 = .ok (.iaload, 1) := by decide +kernel
theorem dX7_mind_68 : decode cX7_mind 68 = .ok (.ireturn, 1) := by decide +kernel
theorem dX7_drift_0 : decode cX7_drift 0 = .ok (.iload_n 1, 1) := by decide +kernel
theorem dX7_drift_1 : decode cX7_drift 1 = .ok (.iconst 1, 1) := by decide +kernel
theorem dX7_drift_2 : decode cX7_drift 2 = .ok (.bipush 40, 2) := by decide +kernel
theorem dX7_drift_4 : decode cX7_drift 4 = .ok (.invokestatic 61, 3) := by decide +kernel
theorem dX7_drift_7 : decode cX7_drift 7 = .ok (.ifCond .ne 5, 3) := by decide +kernel
theorem dX7_drift_10 : decode cX7_drift 10 = .ok (.iconst (-1), 1) := by decide +kernel
theorem dX7_drift_11 : decode cX7_drift 11 = .ok (.ireturn, 1) := by decide +kernel
theorem dX7_drift_12 : decode cX7_drift 12 = .ok (.aload_n 0, 1) := by decide +kernel
theorem dX7_drift_13 : decode cX7_drift 13 = .ok (.getfield 10, 3) := by decide +kernel
theorem dX7_drift_16 : decode cX7_drift 16 = .ok (.getfield 97, 3) := by decide +kernel
theorem dX7_drift_19 : decode cX7_drift 19 = .ok (.getfield 162, 3) := by decide +kernel
theorem dX7_drift_22 : decode cX7_drift 22 = .ok (.iload_n 1, 1) := by decide +kernel
theorem dX7_drift_23 : decode cX7_drift 23 = .ok (.iadd, 1) := by decide +kernel
theorem dX7_drift_24 : decode cX7_drift 24 = .ok (.sipush 9999, 3) := by decide +kernel
theorem dX7_drift_27 : decode cX7_drift 27 = .ok (.if_icmp .le 6, 3) := by decide +kernel
theorem dX7_drift_30 : decode cX7_drift 30 = .ok (.bipush (-3), 2) := by decide +kernel
theorem dX7_drift_32 : decode cX7_drift 32 = .ok (.ireturn, 1) := by decide +kernel
theorem dX7_drift_33 : decode cX7_drift 33 = .ok (.iconst 0, 1) := by decide +kernel
theorem dX7_drift_34 : decode cX7_drift 34 = .ok (.istore_n 2, 1) := by decide +kernel
theorem dX7_drift_35 : decode cX7_drift 35 = .ok (.iload_n 2, 1) := by decide +kernel
theorem dX7_drift_36 : decode cX7_drift 36 = .ok (.iload_n 1, 1) := by decide +kernel
theorem dX7_drift_37 : decode cX7_drift 37 = .ok (.if_icmp .ge 44, 3) := by decide +kernel
theorem dX7_drift_40 : decode cX7_drift 40 = .ok (.aload_n 0, 1) := by decide +kernel
theorem dX7_drift_41 : decode cX7_drift 41 = .ok (.getfield 19, 3) := by decide +kernel
theorem dX7_drift_44 : decode cX7_drift 44 = .ok (.aload_n 0, 1) := by decide +kernel
theorem dX7_drift_45 : decode cX7_drift 45 = .ok (.getfield 10, 3) := by decide +kernel
theorem dX7_drift_48 : decode cX7_drift 48 = .ok (.getfield 97, 3) := by decide +kernel
theorem dX7_drift_51 : decode cX7_drift 51 = .ok (.invokevirtual 174, 3) := by decide +kernel
theorem dX7_drift_54 : decode cX7_drift 54 = .ok (.aload_n 0, 1) := by decide +kernel
theorem dX7_drift_55 : decode cX7_drift 55 = .ok (.getfield 10, 3) := by decide +kernel
theorem dX7_drift_58 : decode cX7_drift 58 = .ok (.aload_n 0, 1) := by decide +kernel
theorem dX7_drift_59 : decode cX7_drift 59 = .ok (.getfield 10, 3) := by decide +kernel
theorem dX7_drift_62 : decode cX7_drift 62 = .ok (.getfield 97, 3) := by decide +kernel
theorem dX7_drift_65 : decode cX7_drift 65 = .ok (.aload_n 0, 1) := by decide +kernel
theorem dX7_drift_66 : decode cX7_drift 66 = .ok (.getfield 10, 3) := by decide +kernel
theorem dX7_drift_69 : decode cX7_drift 69 = .ok (.invokevirtual 187, 3) := by decide +kernel
theorem dX7_drift_72 : decode cX7_drift 72 = .ok (.invokevirtual 178, 3) := by decide +kernel
theorem dX7_drift_75 : decode cX7_drift 75 = .ok (.iinc 2 1, 3) := by decide +kernel
theorem dX7_drift_78 : decode cX7_drift 78 = .ok (.goto (-43), 3) := by decide +kernel
theorem dX7_drift_81 : decode cX7_drift 81 = .ok (.aload_n 0, 1) := by decide +kernel
theorem dX7_drift_82 : decode cX7_drift 82 = .ok (.getfield 10, 3) := by decide +kernel
theorem dX7_drift_85 : decode cX7_drift 85 = .ok (.getfield 97, 3) := by decide +kernel
theorem dX7_drift_88 : decode cX7_drift 88 = .ok (.getfield 159, 3) := by decide +kernel
theorem dX7_drift_91 : decode cX7_drift 91 = .ok (.ireturn, 1) := by decide +kernel
theorem dX7_undo_0 : decode cX7_undo 0 = .ok (.aload_n 0, 1) := by decide +kernel
theorem dX7_undo_1 : decode cX7_undo 1 = .ok (.getfield 19, 3) := by decide +kernel
theorem dX7_undo_4 : decode cX7_undo 4 = .ok (.getfield 171, 3) := by decide +kernel
theorem dX7_undo_7 : decode cX7_undo 7 = .ok (.ifCond .ne 6, 3) := by decide +kernel
theorem dX7_undo_10 : decode cX7_undo 10 = .ok (.bipush (-4), 2) := by decide +kernel
theorem dX7_undo_12 : decode cX7_undo 12 = .ok (.ireturn, 1) := by decide +kernel
theorem dX7_undo_13 : decode cX7_undo 13 = .ok (.aload_n 0, 1) := by decide +kernel
theorem dX7_undo_14 : decode cX7_undo 14 = .ok (.getfield 19, 3) := by decide +kernel
theorem dX7_undo_17 : decode cX7_undo 17 = .ok (.aload_n 0, 1) := by decide +kernel
theorem dX7_undo_18 : decode cX7_undo 18 = .ok (.getfield 10, 3) := by decide +kernel
theorem dX7_undo_21 : decode cX7_undo 21 = .ok (.getfield 97, 3) := by decide +kernel
theorem dX7_undo_24 : decode cX7_undo 24 = .ok (.invokevirtual 190, 3) := by decide +kernel
theorem dX7_undo_27 : decode cX7_undo 27 = .ok (.aload_n 0, 1) := by decide +kernel
theorem dX7_undo_28 : decode cX7_undo 28 = .ok (.getfield 19, 3) := by decide +kernel
theorem dX7_undo_31 : decode cX7_undo 31 = .ok (.getfield 171, 3) := by decide +kernel
theorem dX7_undo_34 : decode cX7_undo 34 = .ok (.ireturn, 1) := by decide +kernel
theorem dX7_seed_0 : decode cX7_seed 0 = .ok (.iload_n 1, 1) := by decide +kernel
theorem dX7_seed_1 : decode cX7_seed 1 = .ok (.ifCond .ge 5, 3) := by decide +kernel
theorem dX7_seed_4 : decode cX7_seed 4 = .ok (.iconst (-1), 1) := by decide +kernel
theorem dX7_seed_5 : decode cX7_seed 5 = .ok (.ireturn, 1) := by decide +kernel
theorem dX7_seed_6 : decode cX7_seed 6 = .ok (.aload_n 0, 1) := by decide +kernel
theorem dX7_seed_7 : decode cX7_seed 7 = .ok (.getfield 10, 3) := by decide +kernel
theorem dX7_seed_10 : decode cX7_seed 10 = .ok (.getfield 97, 3) := by decide +kernel
theorem dX7_seed_13 : decode cX7_seed 13 = .ok (.getfield 193, 3) := by decide +kernel
theorem dX7_seed_16 : decode cX7_seed 16 = .ok (.istore_n 2, 1) := by decide +kernel
theorem dX7_seed_17 : decode cX7_seed 17 = .ok (.aload_n 0, 1) := by decide +kernel
theorem dX7_seed_18 : decode cX7_seed 18 = .ok (.getfield 10, 3) := by decide +kernel
theorem dX7_seed_21 : decode cX7_seed 21 = .ok (.getfield 97, 3) := by decide +kernel
theorem dX7_seed_24 : decode cX7_seed 24 = .ok (.iload_n 1, 1) := by decide +kernel
theorem dX7_seed_25 : decode cX7_seed 25 = .ok (.putfield 193, 3) := by decide +kernel
theorem dX7_seed_28 : decode cX7_seed 28 = .ok (.iload_n 2, 1) := by decide +kernel
theorem dX7_seed_29 : decode cX7_seed 29 = .ok (.ireturn, 1) := by decide +kernel
theorem dX7_rock_0 : decode cX7_rock 0 = .ok (.aload_n 0, 1) := by decide +kernel
theorem dX7_rock_1 : decode cX7_rock 1 = .ok (.getfield 10, 3) := by decide +kernel
theorem dX7_rock_4 : decode cX7_rock 4 = .ok (.iload_n 1, 1) := by decide +kernel
theorem dX7_rock_5 : decode cX7_rock 5 = .ok (.invokevirtual 119, 3) := by decide +kernel
theorem dX7_rock_8 : decode cX7_rock 8 = .ok (.ifCond .eq 21, 3) := by decide +kernel
theorem dX7_rock_11 : decode cX7_rock 11 = .ok (.aload_n 0, 1) := by decide +kernel
theorem dX7_rock_12 : decode cX7_rock 12 = .ok (.getfield 10, 3) := by decide +kernel
theorem dX7_rock_15 : decode cX7_rock 15 = .ok (.aload_n 0, 1) := by decide +kernel
theorem dX7_rock_16 : decode cX7_rock 16 = .ok (.getfield 10, 3) := by decide +kernel
theorem dX7_rock_19 : decode cX7_rock 19 = .ok (.getfield 97, 3) := by decide +kernel
theorem dX7_rock_22 : decode cX7_rock 22 = .ok (.iload_n 1, 1) := by decide +kernel
theorem dX7_rock_23 : decode cX7_rock 23 = .ok (.invokevirtual 196, 3) := by decide +kernel
theorem dX7_rock_26 : decode cX7_rock 26 = .ok (.goto 4, 3) := by decide +kernel
theorem dX7_rock_29 : decode cX7_rock 29 = .ok (.iconst (-1), 1) := by decide +kernel
theorem dX7_rock_30 : decode cX7_rock 30 = .ok (.ireturn, 1) := by decide +kernel
theorem dX7_next_0 : decode cX7_next 0 = .ok (.iload_n 1, 1) := by decide +kernel
theorem dX7_next_1 : decode cX7_next 1 = .ok (.iconst 0, 1) := by decide +kernel
theorem dX7_next_2 : decode cX7_next 2 = .ok (.iconst 1, 1) := by decide +kernel
theorem dX7_next_3 : decode cX7_next 3 = .ok (.invokestatic 61, 3) := by decide +kernel
theorem dX7_next_6 : decode cX7_next 6 = .ok (.ifCond .ne 5, 3) := by decide +kernel
theorem dX7_next_9 : decode cX7_next 9 = .ok (.iconst (-1), 1) := by decide +kernel
theorem dX7_next_10 : decode cX7_next 10 = .ok (.ireturn, 1) := by decide +kernel
theorem dX7_next_11 : decode cX7_next 11 = .ok (.aload_n 0, 1) := by decide +kernel
theorem dX7_next_12 : decode cX7_next 12 = .ok (.getfield 10, 3) := by decide +kernel
theorem dX7_next_15 : decode cX7_next 15 = .ok (.aload_n 0, 1) := by decide +kernel
theorem dX7_next_16 : decode cX7_next 16 = .ok (.getfield 10, 3) := by decide +kernel
theorem dX7_next_19 : decode cX7_next 19 = .ok (.getfield 97, 3) := by decide +kernel
theorem dX7_next_22 : decode cX7_next 22 = .ok (.invokevirtual 200, 3) := by decide +kernel
theorem dX7_next_25 : decode cX7_next 25 = .ok (.istore_n 2, 1) := by decide +kernel
theorem dX7_next_26 : decode cX7_next 26 = .ok (.aload_n 0, 1) := by decide +kernel
theorem dX7_next_27 : decode cX7_next 27 = .ok (.getfield 10, 3) := by decide +kernel
theorem dX7_next_30 : decode cX7_next 30 = .ok (.iload_n 2, 1) := by decide +kernel
theorem dX7_next_31 : decode cX7_next 31 = .ok (.invokevirtual 119, 3) := by decide +kernel
theorem dX7_next_34 : decode cX7_next 34 = .ok (.ifCond .ne 6, 3) := by decide +kernel
theorem dX7_next_37 : decode cX7_next 37 = .ok (.bipush (-4), 2) := by decide +kernel
theorem dX7_next_39 : decode cX7_next 39 = .ok (.ireturn, 1) := by decide +kernel
theorem dX7_next_40 : decode cX7_next 40 = .ok (.iload_n 1, 1) := by decide +kernel
theorem dX7_next_41 : decode cX7_next 41 = .ok (.ifCond .ne 7, 3) := by decide +kernel
theorem dX7_next_44 : decode cX7_next 44 = .ok (.iload_n 2, 1) := by decide +kernel
theorem dX7_next_45 : decode cX7_next 45 = .ok (.goto 18, 3) := by decide +kernel
theorem dX7_next_48 : decode cX7_next 48 = .ok (.aload_n 0, 1) := by decide +kernel
theorem dX7_next_49 : decode cX7_next 49 = .ok (.getfield 10, 3) := by decide +kernel
theorem dX7_next_52 : decode cX7_next 52 = .ok (.aload_n 0, 1) := by decide +kernel
theorem dX7_next_53 : decode cX7_next 53 = .ok (.getfield 10, 3) := by decide +kernel
theorem dX7_next_56 : decode cX7_next 56 = .ok (.getfield 97, 3) := by decide +kernel
theorem dX7_next_59 : decode cX7_next 59 = .ok (.iload_n 2, 1) := by decide +kernel
theorem dX7_next_60 : decode cX7_next 60 = .ok (.invokevirtual 196, 3) := by decide +kernel
theorem dX7_next_63 : decode cX7_next 63 = .ok (.ireturn, 1) := by decide +kernel
theorem dX7_greedy_0 : decode cX7_greedy 0 = .ok (.iload_n 1, 1) := by decide +kernel
theorem dX7_greedy_1 : decode cX7_greedy 1 = .ok (.iconst 0, 1) := by decide +kernel
theorem dX7_greedy_2 : decode cX7_greedy 2 = .ok (.bipush 99, 2) := by decide +kernel
theorem dX7_greedy_4 : decode cX7_greedy 4 = .ok (.invokestatic 61, 3) := by decide +kernel
theorem dX7_greedy_7 : decode cX7_greedy 7 = .ok (.ifCond .eq 12, 3) := by decide +kernel
theorem dX7_greedy_10 : decode cX7_greedy 10 = .ok (.iload_n 2, 1) := by decide +kernel
theorem dX7_greedy_11 : decode cX7_greedy 11 = .ok (.iconst 0, 1) := by decide +kernel
theorem dX7_greedy_12 : decode cX7_greedy 12 = .ok (.iconst 1, 1) := by decide +kernel
theorem dX7_greedy_13 : decode cX7_greedy 13 = .ok (.invokestatic 61, 3) := by decide +kernel
theorem dX7_greedy_16 : decode cX7_greedy 16 = .ok (.ifCond .ne 5, 3) := by decide +kernel
theorem dX7_greedy_19 : decode cX7_greedy 19 = .ok (.iconst (-1), 1) := by decide +kernel
theorem dX7_greedy_20 : decode cX7_greedy 20 = .ok (.ireturn, 1) := by decide +kernel
theorem dX7_greedy_21 : decode cX7_greedy 21 = .ok (.aload_n 0, 1) := by decide +kernel
theorem dX7_greedy_22 : decode cX7_greedy 22 = .ok (.getfield 43, 3) := by decide +kernel
theorem dX7_greedy_25 : decode cX7_greedy 25 = .ok (.aload_n 0, 1) := by decide +kernel
theorem dX7_greedy_26 : decode cX7_greedy 26 = .ok (.getfield 10, 3) := by decide +kernel
theorem dX7_greedy_29 : decode cX7_greedy 29 = .ok (.iload_n 1, 1) := by decide +kernel
theorem dX7_greedy_30 : decode cX7_greedy 30 = .ok (.invokevirtual 204, 3) := by decide +kernel
theorem dX7_greedy_33 : decode cX7_greedy 33 = .ok (.astore_n 3, 1) := by decide +kernel
theorem dX7_greedy_34 : decode cX7_greedy 34 = .ok (.iload_n 2, 1) := by decide +kernel
theorem dX7_greedy_35 : decode cX7_greedy 35 = .ok (.ifCond .ne 10, 3) := by decide +kernel
theorem dX7_greedy_38 : decode cX7_greedy 38 = .ok (.aload_n 3, 1) := by decide +kernel
theorem dX7_greedy_39 : decode cX7_greedy 39 = .ok (.getfield 159, 3) := by decide +kernel
theorem dX7_greedy_42 : decode cX7_greedy 42 = .ok (.goto 11, 3) := by decide +kernel
theorem dX7_greedy_45 : decode cX7_greedy 45 = .ok (.aload_n 0, 1) := by decide +kernel
theorem dX7_greedy_46 : decode cX7_greedy 46 = .ok (.getfield 10, 3) := by decide +kernel
theorem dX7_greedy_49 : decode cX7_greedy 49 = .ok (.aload_n 3, 1) := by decide +kernel
theorem dX7_greedy_50 : decode cX7_greedy 50 = .ok (.invokevirtual 208, 3) := by decide +kernel
theorem dX7_greedy_53 : decode cX7_greedy 53 = .ok (.ireturn, 1) := by decide +kernel
theorem dX7_through_0 : decode cX7_through 0 = .ok (.aload_n 0, 1) := by decide +kernel
theorem dX7_through_1 : decode cX7_through 1 = .ok (.getfield 43, 3) := by decide +kernel
theorem dX7_through_4 : decode cX7_through 4 = .ok (.aload_n 0, 1) := by decide +kernel
theorem dX7_through_5 : decode cX7_through 5 = .ok (.getfield 10, 3) := by decide +kernel
theorem dX7_through_8 : decode cX7_through 8 = .ok (.invokevirtual 211, 3) := by decide +kernel
theorem dX7_through_11 : decode cX7_through 11 = .ok (.ireturn, 1) := by decide +kernel
theorem dX7_plan_0 : decode cX7_plan 0 = .ok (.iload_n 1, 1) := by decide +kernel
theorem dX7_plan_1 : decode cX7_plan 1 = .ok (.iconst 1, 1) := by decide +kernel
theorem dX7_plan_2 : decode cX7_plan 2 = .ok (.iconst 4, 1) := by decide +kernel
theorem dX7_plan_3 : decode cX7_plan 3 = .ok (.invokestatic 61, 3) := by decide +kernel
theorem dX7_plan_6 : decode cX7_plan 6 = .ok (.ifCond .eq 8, 3) := by decide +kernel
theorem dX7_plan_9 : decode cX7_plan 9 = .ok (.iload_n 2, 1) := by decide +kernel
theorem dX7_plan_10 : decode cX7_plan 10 = .ok (.iconst (-1), 1) := by decide +kernel
theorem dX7_plan_11 : decode cX7_plan 11 = .ok (.if_icmp .ge 5, 3) := by decide +kernel
theorem dX7_plan_14 : decode cX7_plan 14 = .ok (.iconst (-1), 1) := by decide +kernel
theorem dX7_plan_15 : decode cX7_plan 15 = .ok (.ireturn, 1) := by decide +kernel
theorem dX7_plan_16 : decode cX7_plan 16 = .ok (.aload_n 0, 1) := by decide +kernel
theorem dX7_plan_17 : decode cX7_plan 17 = .ok (.getfield 50, 3) := by decide +kernel
theorem dX7_plan_20 : decode cX7_plan 20 = .ok (.aload_n 0, 1) := by decide +kernel
theorem dX7_plan_21 : decode cX7_plan 21 = .ok (.getfield 10, 3) := by decide +kernel
theorem dX7_plan_24 : decode cX7_plan 24 = .ok (.iload_n 1, 1) := by decide +kernel
theorem dX7_plan_25 : decode cX7_plan 25 = .ok (.iconst 0, 1) := by decide +kernel
theorem dX7_plan_26 : decode cX7_plan 26 = .ok (.iload_n 2, 1) := by decide +kernel
theorem dX7_plan_27 : decode cX7_plan 27 = .ok (.invokevirtual 214, 3) := by decide +kernel
theorem dX7_plan_30 : decode cX7_plan 30 = .ok (.ireturn, 1) := by decide +kernel
theorem dX7_crew_0 : decode cX7_crew 0 = .ok (.aload_n 0, 1) := by decide +kernel
theorem dX7_crew_1 : decode cX7_crew 1 = .ok (.getfield 10, 3) := by decide +kernel
theorem dX7_crew_4 : decode cX7_crew 4 = .ok (.iload_n 1, 1) := by decide +kernel
theorem dX7_crew_5 : decode cX7_crew 5 = .ok (.invokevirtual 119, 3) := by decide +kernel
theorem dX7_crew_8 : decode cX7_crew 8 = .ok (.ifCond .eq 22, 3) := by decide +kernel
theorem dX7_crew_11 : decode cX7_crew 11 = .ok (.iload_n 2, 1) := by decide +kernel
theorem dX7_crew_12 : decode cX7_crew 12 = .ok (.iconst 1, 1) := by decide +kernel
theorem dX7_crew_13 : decode cX7_crew 13 = .ok (.bipush 6, 2) := by decide +kernel
theorem dX7_crew_15 : decode cX7_crew 15 = .ok (.invokestatic 61, 3) := by decide +kernel
theorem dX7_crew_18 : decode cX7_crew 18 = .ok (.ifCond .eq 12, 3) := by decide +kernel
theorem dX7_crew_21 : decode cX7_crew 21 = .ok (.iload_n 3, 1) := by decide +kernel
theorem dX7_crew_22 : decode cX7_crew 22 = .ok (.iconst 0, 1) := by decide +kernel
theorem dX7_crew_23 : decode cX7_crew 23 = .ok (.iconst 1, 1) := by decide +kernel
theorem dX7_crew_24 : decode cX7_crew 24 = .ok (.invokestatic 61, 3) := by decide +kernel
theorem dX7_crew_27 : decode cX7_crew 27 = .ok (.ifCond .ne 5, 3) := by decide +kernel
theorem dX7_crew_30 : decode cX7_crew 30 = .ok (.iconst (-1), 1) := by decide +kernel
theorem dX7_crew_31 : decode cX7_crew 31 = .ok (.ireturn, 1) := by decide +kernel
theorem dX7_crew_32 : decode cX7_crew 32 = .ok (.aload_n 0, 1) := by decide +kernel
theorem dX7_crew_33 : decode cX7_crew 33 = .ok (.getfield 10, 3) := by decide +kernel
theorem dX7_crew_36 : decode cX7_crew 36 = .ok (.getfield 76, 3) := by decide +kernel
theorem dX7_crew_39 : decode cX7_crew 39 = .ok (.iload_n 2, 1) := by decide +kernel
theorem dX7_crew_40 : decode cX7_crew 40 = .ok (.if_icmp .ge 6, 3) := by decide +kernel
theorem dX7_crew_43 : decode cX7_crew 43 = .ok (.bipush (-4), 2) := by decide +kernel
theorem dX7_crew_45 : decode cX7_crew 45 = .ok (.ireturn, 1) := by decide +kernel
theorem dX7_crew_46 : decode cX7_crew 46 = .ok (.aload_n 0, 1) := by decide +kernel
theorem dX7_crew_47 : decode cX7_crew 47 = .ok (.getfield 43, 3) := by decide +kernel
theorem dX7_crew_50 : decode cX7_crew 50 = .ok (.aload_n 0, 1) := by decide +kernel
theorem dX7_crew_51 : decode cX7_crew 51 = .ok (.getfield 10, 3) := by decide +kernel
theorem dX7_crew_54 : decode cX7_crew 54 = .ok (.iload_n 1, 1) := by decide +kernel
theorem dX7_crew_55 : decode cX7_crew 55 = .ok (.iload_n 2, 1) := by decide +kernel
theorem dX7_crew_56 : decode cX7_crew 56 = .ok (.invokevirtual 218, 3) := by decide +kernel
theorem dX7_crew_59 : decode cX7_crew 59 = .ok (.istore 4, 2) := by decide +kernel
theorem dX7_crew_61 : decode cX7_crew 61 = .ok (.iload_n 3, 1) := by decide +kernel
theorem dX7_crew_62 : decode cX7_crew 62 = .ok (.ifCond .ne 16, 3) := by decide +kernel
theorem dX7_crew_65 : decode cX7_crew 65 = .ok (.aload_n 0, 1) := by decide +kernel
theorem dX7_crew_66 : decode cX7_crew 66 = .ok (.getfield 10, 3) := by decide +kernel
theorem dX7_crew_69 : decode cX7_crew 69 = .ok (.iload_n 1, 1) := by decide +kernel
theorem dX7_crew_70 : decode cX7_crew 70 = .ok (.iload 4, 2) := by decide +kernel
theorem dX7_crew_72 : decode cX7_crew 72 = .ok (.invokevirtual 222, 3) := by decide +kernel
theorem dX7_crew_75 : decode cX7_crew 75 = .ok (.goto 5, 3) := by decide +kernel
theorem dX7_crew_78 : decode cX7_crew 78 = .ok (.iload 4, 2) := by decide +kernel
theorem dX7_crew_80 : decode cX7_crew 80 = .ok (.ireturn, 1) := by decide +kernel
theorem dX7_minds_0 : decode cX7_minds 0 = .ok (.aload_n 0, 1) := by decide +kernel
theorem dX7_minds_1 : decode cX7_minds 1 = .ok (.getfield 10, 3) := by decide +kernel
theorem dX7_minds_4 : decode cX7_minds 4 = .ok (.iload_n 1, 1) := by decide +kernel
theorem dX7_minds_5 : decode cX7_minds 5 = .ok (.invokevirtual 119, 3) := by decide +kernel
theorem dX7_minds_8 : decode cX7_minds 8 = .ok (.ifCond .eq 12, 3) := by decide +kernel
theorem dX7_minds_11 : decode cX7_minds 11 = .ok (.iload_n 2, 1) := by decide +kernel
theorem dX7_minds_12 : decode cX7_minds 12 = .ok (.iconst 0, 1) := by decide +kernel
theorem dX7_minds_13 : decode cX7_minds 13 = .ok (.iconst 1, 1) := by decide +kernel
theorem dX7_minds_14 : decode cX7_minds 14 = .ok (.invokestatic 61, 3) := by decide +kernel
theorem dX7_minds_17 : decode cX7_minds 17 = .ok (.ifCond .ne 5, 3) := by decide +kernel
theorem dX7_minds_20 : decode cX7_minds 20 = .ok (.iconst (-1), 1) := by decide +kernel
theorem dX7_minds_21 : decode cX7_minds 21 = .ok (.ireturn, 1) := by decide +kernel
theorem dX7_minds_22 : decode cX7_minds 22 = .ok (.aload_n 0, 1) := by decide +kernel
theorem dX7_minds_23 : decode cX7_minds 23 = .ok (.getfield 43, 3) := by decide +kernel
theorem dX7_minds_26 : decode cX7_minds 26 = .ok (.aload_n 0, 1) := by decide +kernel
theorem dX7_minds_27 : decode cX7_minds 27 = .ok (.getfield 10, 3) := by decide +kernel
theorem dX7_minds_30 : decode cX7_minds 30 = .ok (.iload_n 1, 1) := by decide +kernel
theorem dX7_minds_31 : decode cX7_minds 31 = .ok (.invokevirtual 225, 3) := by decide +kernel
theorem dX7_minds_34 : decode cX7_minds 34 = .ok (.istore_n 3, 1) := by decide +kernel
theorem dX7_minds_35 : decode cX7_minds 35 = .ok (.iload_n 3, 1) := by decide +kernel
theorem dX7_minds_36 : decode cX7_minds 36 = .ok (.bipush (-4), 2) := by decide +kernel
theorem dX7_minds_38 : decode cX7_minds 38 = .ok (.if_icmp .ne 6, 3) := by decide +kernel
theorem dX7_minds_41 : decode cX7_minds 41 = .ok (.bipush (-4), 2) := by decide +kernel
theorem dX7_minds_43 : decode cX7_minds 43 = .ok (.ireturn, 1) := by decide +kernel
theorem dX7_minds_44 : decode cX7_minds 44 = .ok (.iload_n 2, 1) := by decide +kernel
theorem dX7_minds_45 : decode cX7_minds 45 = .ok (.ifCond .ne 7, 3) := by decide +kernel
theorem dX7_minds_48 : decode cX7_minds 48 = .ok (.iload_n 3, 1) := by decide +kernel
theorem dX7_minds_49 : decode cX7_minds 49 = .ok (.goto 14, 3) := by decide +kernel
theorem dX7_minds_52 : decode cX7_minds 52 = .ok (.aload_n 0, 1) := by decide +kernel
theorem dX7_minds_53 : decode cX7_minds 53 = .ok (.getfield 10, 3) := by decide +kernel
theorem dX7_minds_56 : decode cX7_minds 56 = .ok (.iload_n 1, 1) := by decide +kernel
theorem dX7_minds_57 : decode cX7_minds 57 = .ok (.iconst 1, 1) := by decide +kernel
theorem dX7_minds_58 : decode cX7_minds 58 = .ok (.iload_n 3, 1) := by decide +kernel
theorem dX7_minds_59 : decode cX7_minds 59 = .ok (.ishl, 1) := by decide +kernel
theorem dX7_minds_60 : decode cX7_minds 60 = .ok (.invokevirtual 229, 3) := by decide +kernel
theorem dX7_minds_63 : decode cX7_minds 63 = .ok (.ireturn, 1) := by decide +kernel
theorem dX7_once_0 : decode cX7_once 0 = .ok (.iload_n 1, 1) := by decide +kernel
theorem dX7_once_1 : decode cX7_once 1 = .ok (.iconst (-1), 1) := by decide +kernel
theorem dX7_once_2 : decode cX7_once 2 = .ok (.if_icmp .ge 5, 3) := by decide +kernel
theorem dX7_once_5 : decode cX7_once 5 = .ok (.iconst (-1), 1) := by decide +kernel
theorem dX7_once_6 : decode cX7_once 6 = .ok (.ireturn, 1) := by decide +kernel
theorem dX7_once_7 : decode cX7_once 7 = .ok (.aload_n 0, 1) := by decide +kernel
theorem dX7_once_8 : decode cX7_once 8 = .ok (.getfield 50, 3) := by decide +kernel
theorem dX7_once_11 : decode cX7_once 11 = .ok (.aload_n 0, 1) := by decide +kernel
theorem dX7_once_12 : decode cX7_once 12 = .ok (.getfield 10, 3) := by decide +kernel
theorem dX7_once_15 : decode cX7_once 15 = .ok (.aload_n 0, 1) := by decide +kernel
theorem dX7_once_16 : decode cX7_once 16 = .ok (.getfield 10, 3) := by decide +kernel
theorem dX7_once_19 : decode cX7_once 19 = .ok (.getfield 87, 3) := by decide +kernel
theorem dX7_once_22 : decode cX7_once 22 = .ok (.iconst 1, 1) := by decide +kernel
theorem dX7_once_23 : decode cX7_once 23 = .ok (.iload_n 1, 1) := by decide +kernel
theorem dX7_once_24 : decode cX7_once 24 = .ok (.invokevirtual 214, 3) := by decide +kernel
theorem dX7_once_27 : decode cX7_once 27 = .ok (.ireturn, 1) := by decide +kernel
theorem dX7_sway_0 : decode cX7_sway 0 = .ok (.aload_n 0, 1) := by decide +kernel
theorem dX7_sway_1 : decode cX7_sway 1 = .ok (.getfield 10, 3) := by decide +kernel
theorem dX7_sway_4 : decode cX7_sway 4 = .ok (.iload_n 1, 1) := by decide +kernel
theorem dX7_sway_5 : decode cX7_sway 5 = .ok (.invokevirtual 119, 3) := by decide +kernel
theorem dX7_sway_8 : decode cX7_sway 8 = .ok (.ifCond .eq 23, 3) := by decide +kernel
theorem dX7_sway_11 : decode cX7_sway 11 = .ok (.iload_n 2, 1) := by decide +kernel
theorem dX7_sway_12 : decode cX7_sway 12 = .ok (.iconst 1, 1) := by decide +kernel
theorem dX7_sway_13 : decode cX7_sway 13 = .ok (.sipush 200, 3) := by decide +kernel
theorem dX7_sway_16 : decode cX7_sway 16 = .ok (.invokestatic 61, 3) := by decide +kernel
theorem dX7_sway_19 : decode cX7_sway 19 = .ok (.ifCond .eq 12, 3) := by decide +kernel
theorem dX7_sway_22 : decode cX7_sway 22 = .ok (.iload_n 3, 1) := by decide +kernel
theorem dX7_sway_23 : decode cX7_sway 23 = .ok (.iconst 0, 1) := by decide +kernel
theorem dX7_sway_24 : decode cX7_sway 24 = .ok (.iconst 1, 1) := by decide +kernel
theorem dX7_sway_25 : decode cX7_sway 25 = .ok (.invokestatic 61, 3) := by decide +kernel
theorem dX7_sway_28 : decode cX7_sway 28 = .ok (.ifCond .ne 5, 3) := by decide +kernel
theorem dX7_sway_31 : decode cX7_sway 31 = .ok (.iconst (-1), 1) := by decide +kernel
theorem dX7_sway_32 : decode cX7_sway 32 = .ok (.ireturn, 1) := by decide +kernel
theorem dX7_sway_33 : decode cX7_sway 33 = .ok (.aload_n 0, 1) := by decide +kernel
theorem dX7_sway_34 : decode cX7_sway 34 = .ok (.getfield 43, 3) := by decide +kernel
theorem dX7_sway_37 : decode cX7_sway 37 = .ok (.aload_n 0, 1) := by decide +kernel
theorem dX7_sway_38 : decode cX7_sway 38 = .ok (.getfield 10, 3) := by decide +kernel
theorem dX7_sway_41 : decode cX7_sway 41 = .ok (.iload_n 1, 1) := by decide +kernel
theorem dX7_sway_42 : decode cX7_sway 42 = .ok (.iload_n 2, 1) := by decide +kernel
theorem dX7_sway_43 : decode cX7_sway 43 = .ok (.invokevirtual 232, 3) := by decide +kernel
theorem dX7_sway_46 : decode cX7_sway 46 = .ok (.istore 4, 2) := by decide +kernel
theorem dX7_sway_48 : decode cX7_sway 48 = .ok (.iload 4, 2) := by decide +kernel
theorem dX7_sway_50 : decode cX7_sway 50 = .ok (.bipush (-4), 2) := by decide +kernel
theorem dX7_sway_52 : decode cX7_sway 52 = .ok (.if_icmp .ne 6, 3) := by decide +kernel
theorem dX7_sway_55 : decode cX7_sway 55 = .ok (.bipush (-4), 2) := by decide +kernel
theorem dX7_sway_57 : decode cX7_sway 57 = .ok (.ireturn, 1) := by decide +kernel
theorem dX7_sway_58 : decode cX7_sway 58 = .ok (.iload_n 3, 1) := by decide +kernel
theorem dX7_sway_59 : decode cX7_sway 59 = .ok (.ifCond .ne 11, 3) := by decide +kernel
theorem dX7_sway_62 : decode cX7_sway 62 = .ok (.iload 4, 2) := by decide +kernel
theorem dX7_sway_64 : decode cX7_sway 64 = .ok (.invokestatic 235, 3) := by decide +kernel
theorem dX7_sway_67 : decode cX7_sway 67 = .ok (.goto 5, 3) := by decide +kernel
theorem dX7_sway_70 : decode cX7_sway 70 = .ok (.iload 4, 2) := by decide +kernel
theorem dX7_sway_72 : decode cX7_sway 72 = .ok (.ireturn, 1) := by decide +kernel
theorem dX7_boats_0 : decode cX7_boats 0 = .ok (.iload_n 1, 1) := by decide +kernel
theorem dX7_boats_1 : decode cX7_boats 1 = .ok (.iconst 0, 1) := by decide +kernel
theorem dX7_boats_2 : decode cX7_boats 2 = .ok (.iconst 1, 1) := by decide +kernel
theorem dX7_boats_3 : decode cX7_boats 3 = .ok (.invokestatic 61, 3) := by decide +kernel
theorem dX7_boats_6 : decode cX7_boats 6 = .ok (.ifCond .ne 5, 3) := by decide +kernel
theorem dX7_boats_9 : decode cX7_boats 9 = .ok (.iconst (-1), 1) := by decide +kernel
theorem dX7_boats_10 : decode cX7_boats 10 = .ok (.ireturn, 1) := by decide +kernel
theorem dX7_boats_11 : decode cX7_boats 11 = .ok (.aload_n 0, 1) := by decide +kernel
theorem dX7_boats_12 : decode cX7_boats 12 = .ok (.getfield 43, 3) := by decide +kernel
theorem dX7_boats_15 : decode cX7_boats 15 = .ok (.aload_n 0, 1) := by decide +kernel
theorem dX7_boats_16 : decode cX7_boats 16 = .ok (.getfield 10, 3) := by decide +kernel
theorem dX7_boats_19 : decode cX7_boats 19 = .ok (.invokevirtual 240, 3) := by decide +kernel
theorem dX7_boats_22 : decode cX7_boats 22 = .ok (.istore_n 2, 1) := by decide +kernel
theorem dX7_boats_23 : decode cX7_boats 23 = .ok (.iload_n 1, 1) := by decide +kernel
theorem dX7_boats_24 : decode cX7_boats 24 = .ok (.ifCond .ne 7, 3) := by decide +kernel
theorem dX7_boats_27 : decode cX7_boats 27 = .ok (.iload_n 2, 1) := by decide +kernel
theorem dX7_boats_28 : decode cX7_boats 28 = .ok (.goto 11, 3) := by decide +kernel
theorem dX7_boats_31 : decode cX7_boats 31 = .ok (.aload_n 0, 1) := by decide +kernel
theorem dX7_boats_32 : decode cX7_boats 32 = .ok (.getfield 10, 3) := by decide +kernel
theorem dX7_boats_35 : decode cX7_boats 35 = .ok (.iload_n 2, 1) := by decide +kernel
theorem dX7_boats_36 : decode cX7_boats 36 = .ok (.invokevirtual 243, 3) := by decide +kernel
theorem dX7_boats_39 : decode cX7_boats 39 = .ok (.ireturn, 1) := by decide +kernel
theorem dX7_ring_0 : decode cX7_ring 0 = .ok (.iload_n 1, 1) := by decide +kernel
theorem dX7_ring_1 : decode cX7_ring 1 = .ok (.iconst 0, 1) := by decide +kernel
theorem dX7_ring_2 : decode cX7_ring 2 = .ok (.iconst 1, 1) := by decide +kernel
theorem dX7_ring_3 : decode cX7_ring 3 = .ok (.invokestatic 61, 3) := by decide +kernel
theorem dX7_ring_6 : decode cX7_ring 6 = .ok (.ifCond .ne 5, 3) := by decide +kernel
theorem dX7_ring_9 : decode cX7_ring 9 = .ok (.iconst (-1), 1) := by decide +kernel
theorem dX7_ring_10 : decode cX7_ring 10 = .ok (.ireturn, 1) := by decide +kernel
theorem dX7_ring_11 : decode cX7_ring 11 = .ok (.aload_n 0, 1) := by decide +kernel
theorem dX7_ring_12 : decode cX7_ring 12 = .ok (.getfield 43, 3) := by decide +kernel
theorem dX7_ring_15 : decode cX7_ring 15 = .ok (.aload_n 0, 1) := by decide +kernel
theorem dX7_ring_16 : decode cX7_ring 16 = .ok (.getfield 10, 3) := by decide +kernel
theorem dX7_ring_19 : decode cX7_ring 19 = .ok (.invokevirtual 246, 3) := by decide +kernel
theorem dX7_ring_22 : decode cX7_ring 22 = .ok (.istore_n 2, 1) := by decide +kernel
theorem dX7_ring_23 : decode cX7_ring 23 = .ok (.iload_n 2, 1) := by decide +kernel
theorem dX7_ring_24 : decode cX7_ring 24 = .ok (.bipush (-4), 2) := by decide +kernel
theorem dX7_ring_26 : decode cX7_ring 26 = .ok (.if_icmp .eq 7, 3) := by decide +kernel
theorem dX7_ring_29 : decode cX7_ring 29 = .ok (.iload_n 1, 1) := by decide +kernel
theorem dX7_ring_30 : decode cX7_ring 30 = .ok (.ifCond .ne 5, 3) := by decide +kernel
theorem dX7_ring_33 : decode cX7_ring 33 = .ok (.iload_n 2, 1) := by decide +kernel
theorem dX7_ring_34 : decode cX7_ring 34 = .ok (.ireturn, 1) := by decide +kernel
theorem dX7_ring_35 : decode cX7_ring 35 = .ok (.iload_n 2, 1) := by decide +kernel
theorem dX7_ring_36 : decode cX7_ring 36 = .ok (.aload_n 0, 1) := by decide +kernel
theorem dX7_ring_37 : decode cX7_ring 37 = .ok (.getfield 43, 3) := by decide +kernel
theorem dX7_ring_40 : decode cX7_ring 40 = .ok (.iload_n 2, 1) := by decide +kernel
theorem dX7_ring_41 : decode cX7_ring 41 = .ok (.invokevirtual 249, 3) := by decide +kernel
theorem dX7_ring_44 : decode cX7_ring 44 = .ok (.isub, 1) := by decide +kernel
theorem dX7_ring_45 : decode cX7_ring 45 = .ok (.ireturn, 1) := by decide +kernel
theorem dX7_enough_0 : decode cX7_enough 0 = .ok (.aload_n 0, 1) := by decide +kernel
theorem dX7_enough_1 : decode cX7_enough 1 = .ok (.getfield 10, 3) := by decide +kernel
theorem dX7_enough_4 : decode cX7_enough 4 = .ok (.iload_n 1, 1) := by decide +kernel
theorem dX7_enough_5 : decode cX7_enough 5 = .ok (.invokevirtual 119, 3) := by decide +kernel
theorem dX7_enough_8 : decode cX7_enough 8 = .ok (.ifCond .eq 18, 3) := by decide +kernel
theorem dX7_enough_11 : decode cX7_enough 11 = .ok (.aload_n 0, 1) := by decide +kernel
theorem dX7_enough_12 : decode cX7_enough 12 = .ok (.getfield 43, 3) := by decide +kernel
theorem dX7_enough_15 : decode cX7_enough 15 = .ok (.aload_n 0, 1) := by decide +kernel
theorem dX7_enough_16 : decode cX7_enough 16 = .ok (.getfield 10, 3) := by decide +kernel
theorem dX7_enough_19 : decode cX7_enough 19 = .ok (.iload_n 1, 1) := by decide +kernel
theorem dX7_enough_20 : decode cX7_enough 20 = .ok (.invokevirtual 252, 3) := by decide +kernel
theorem dX7_enough_23 : decode cX7_enough 23 = .ok (.goto 4, 3) := by decide +kernel
theorem dX7_enough_26 : decode cX7_enough 26 = .ok (.iconst (-1), 1) := by decide +kernel
theorem dX7_enough_27 : decode cX7_enough 27 = .ok (.ireturn, 1) := by decide +kernel
theorem dX7_sick_0 : decode cX7_sick 0 = .ok (.aload_n 0, 1) := by decide +kernel
theorem dX7_sick_1 : decode cX7_sick 1 = .ok (.getfield 10, 3) := by decide +kernel
theorem dX7_sick_4 : decode cX7_sick 4 = .ok (.iload_n 1, 1) := by decide +kernel
theorem dX7_sick_5 : decode cX7_sick 5 = .ok (.invokevirtual 119, 3) := by decide +kernel
theorem dX7_sick_8 : decode cX7_sick 8 = .ok (.ifCond .eq 22, 3) := by decide +kernel
theorem dX7_sick_11 : decode cX7_sick 11 = .ok (.iload_n 2, 1) := by decide +kernel
theorem dX7_sick_12 : decode cX7_sick 12 = .ok (.iconst 0, 1) := by decide +kernel
theorem dX7_sick_13 : decode cX7_sick 13 = .ok (.bipush 10, 2) := by decide +kernel
theorem dX7_sick_15 : decode cX7_sick 15 = .ok (.invokestatic 61, 3) := by decide +kernel
theorem dX7_sick_18 : decode cX7_sick 18 = .ok (.ifCond .eq 12, 3) := by decide +kernel
theorem dX7_sick_21 : decode cX7_sick 21 = .ok (.iload_n 3, 1) := by decide +kernel
theorem dX7_sick_22 : decode cX7_sick 22 = .ok (.iconst 0, 1) := by decide +kernel
theorem dX7_sick_23 : decode cX7_sick 23 = .ok (.iconst 1, 1) := by decide +kernel
theorem dX7_sick_24 : decode cX7_sick 24 = .ok (.invokestatic 61, 3) := by decide +kernel
theorem dX7_sick_27 : decode cX7_sick 27 = .ok (.ifCond .ne 5, 3) := by decide +kernel
theorem dX7_sick_30 : decode cX7_sick 30 = .ok (.iconst (-1), 1) := by decide +kernel
theorem dX7_sick_31 : decode cX7_sick 31 = .ok (.ireturn, 1) := by decide +kernel
theorem dX7_sick_32 : decode cX7_sick 32 = .ok (.aload_n 0, 1) := by decide +kernel
theorem dX7_sick_33 : decode cX7_sick 33 = .ok (.getfield 43, 3) := by decide +kernel
theorem dX7_sick_36 : decode cX7_sick 36 = .ok (.aload_n 0, 1) := by decide +kernel
theorem dX7_sick_37 : decode cX7_sick 37 = .ok (.getfield 10, 3) := by decide +kernel
theorem dX7_sick_40 : decode cX7_sick 40 = .ok (.iload_n 1, 1) := by decide +kernel
theorem dX7_sick_41 : decode cX7_sick 41 = .ok (.iload_n 2, 1) := by decide +kernel
theorem dX7_sick_42 : decode cX7_sick 42 = .ok (.iload_n 3, 1) := by decide +kernel
theorem dX7_sick_43 : decode cX7_sick 43 = .ok (.ifCond .ne 7, 3) := by decide +kernel
theorem dX7_sick_46 : decode cX7_sick 46 = .ok (.iconst 1, 1) := by decide +kernel
theorem dX7_sick_47 : decode cX7_sick 47 = .ok (.goto 4, 3) := by decide +kernel
theorem dX7_sick_50 : decode cX7_sick 50 = .ok (.iconst 0, 1) := by decide +kernel
theorem dX7_sick_51 : decode cX7_sick 51 = .ok (.invokevirtual 255, 3) := by decide +kernel
theorem dX7_sick_54 : decode cX7_sick 54 = .ok (.ireturn, 1) := by decide +kernel
theorem dX7_image_0 : decode cX7_image 0 = .ok (.aload_n 0, 1) := by decide +kernel
theorem dX7_image_1 : decode cX7_image 1 = .ok (.getfield 23, 3) := by decide +kernel
theorem dX7_image_4 : decode cX7_image 4 = .ok (.aload_n 0, 1) := by decide +kernel
theorem dX7_image_5 : decode cX7_image 5 = .ok (.getfield 10, 3) := by decide +kernel
theorem dX7_image_8 : decode cX7_image 8 = .ok (.invokevirtual 259, 3) := by decide +kernel
theorem dX7_image_11 : decode cX7_image 11 = .ok (.aload_n 0, 1) := by decide +kernel
theorem dX7_image_12 : decode cX7_image 12 = .ok (.getfield 26, 3) := by decide +kernel
theorem dX7_image_15 : decode cX7_image 15 = .ok (.aload_n 0, 1) := by decide +kernel
theorem dX7_image_16 : decode cX7_image 16 = .ok (.getfield 19, 3) := by decide +kernel
theorem dX7_image_19 : decode cX7_image 19 = .ok (.invokevirtual 263, 3) := by decide +kernel
theorem dX7_image_22 : decode cX7_image 22 = .ok (.aload_n 0, 1) := by decide +kernel
theorem dX7_image_23 : decode cX7_image 23 = .ok (.iconst 1, 1) := by decide +kernel
theorem dX7_image_24 : decode cX7_image 24 = .ok (.putfield 29, 3) := by decide +kernel
theorem dX7_image_27 : decode cX7_image 27 = .ok (.iconst 1, 1) := by decide +kernel
theorem dX7_image_28 : decode cX7_image 28 = .ok (.ireturn, 1) := by decide +kernel
theorem dX7_restore_0 : decode cX7_restore 0 = .ok (.aload_n 0, 1) := by decide +kernel
theorem dX7_restore_1 : decode cX7_restore 1 = .ok (.getfield 29, 3) := by decide +kernel
theorem dX7_restore_4 : decode cX7_restore 4 = .ok (.ifCond .ne 6, 3) := by decide +kernel
theorem dX7_restore_7 : decode cX7_restore 7 = .ok (.bipush (-4), 2) := by decide +kernel
theorem dX7_restore_9 : decode cX7_restore 9 = .ok (.ireturn, 1) := by decide +kernel
theorem dX7_restore_10 : decode cX7_restore 10 = .ok (.aload_n 0, 1) := by decide +kernel
theorem dX7_restore_11 : decode cX7_restore 11 = .ok (.getfield 10, 3) := by decide +kernel
theorem dX7_restore_14 : decode cX7_restore 14 = .ok (.aload_n 0, 1) := by decide +kernel
theorem dX7_restore_15 : decode cX7_restore 15 = .ok (.getfield 23, 3) := by decide +kernel
theorem dX7_restore_18 : decode cX7_restore 18 = .ok (.invokevirtual 259, 3) := by decide +kernel
theorem dX7_restore_21 : decode cX7_restore 21 = .ok (.aload_n 0, 1) := by decide +kernel
theorem dX7_restore_22 : decode cX7_restore 22 = .ok (.getfield 19, 3) := by decide +kernel
theorem dX7_restore_25 : decode cX7_restore 25 = .ok (.aload_n 0, 1) := by decide +kernel
theorem dX7_restore_26 : decode cX7_restore 26 = .ok (.getfield 26, 3) := by decide +kernel
theorem dX7_restore_29 : decode cX7_restore 29 = .ok (.invokevirtual 263, 3) := by decide +kernel
theorem dX7_restore_32 : decode cX7_restore 32 = .ok (.iconst 1, 1) := by decide +kernel
theorem dX7_restore_33 : decode cX7_restore 33 = .ok (.ireturn, 1) := by decide +kernel
theorem dX7_felt_0 : decode cX7_felt 0 = .ok (.iload_n 1, 1) := by decide +kernel
theorem dX7_felt_1 : decode cX7_felt 1 = .ok (.invokestatic 266, 3) := by decide +kernel
theorem dX7_felt_4 : decode cX7_felt 4 = .ok (.ifCond .eq 30, 3) := by decide +kernel
theorem dX7_felt_7 : decode cX7_felt 7 = .ok (.iload_n 2, 1) := by decide +kernel
theorem dX7_felt_8 : decode cX7_felt 8 = .ok (.invokestatic 269, 3) := by decide +kernel
theorem dX7_felt_11 : decode cX7_felt 11 = .ok (.ifCond .eq 23, 3) := by decide +kernel
theorem dX7_felt_14 : decode cX7_felt 14 = .ok (.iload 4, 2) := by decide +kernel
theorem dX7_felt_16 : decode cX7_felt 16 = .ok (.iconst 1, 1) := by decide +kernel
theorem dX7_felt_17 : decode cX7_felt 17 = .ok (.iconst 5, 1) := by decide +kernel
theorem dX7_felt_18 : decode cX7_felt 18 = .ok (.invokestatic 61, 3) := by decide +kernel
theorem dX7_felt_21 : decode cX7_felt 21 = .ok (.ifCond .eq 13, 3) := by decide +kernel
theorem dX7_felt_24 : decode cX7_felt 24 = .ok (.iload 5, 2) := by decide +kernel
theorem dX7_felt_26 : decode cX7_felt 26 = .ok (.iconst 0, 1) := by decide +kernel
theorem dX7_felt_27 : decode cX7_felt 27 = .ok (.iconst 1, 1) := by decide +kernel
theorem dX7_felt_28 : decode cX7_felt 28 = .ok (.invokestatic 61, 3) := by decide +kernel
theorem dX7_felt_31 : decode cX7_felt 31 = .ok (.ifCond .ne 5, 3) := by decide +kernel
theorem dX7_felt_34 : decode cX7_felt 34 = .ok (.iconst (-1), 1) := by decide +kernel
theorem dX7_felt_35 : decode cX7_felt 35 = .ok (.ireturn, 1) := by decide +kernel
theorem dX7_felt_36 : decode cX7_felt 36 = .ok (.aload_n 0, 1) := by decide +kernel
theorem dX7_felt_37 : decode cX7_felt 37 = .ok (.getfield 56, 3) := by decide +kernel
theorem dX7_felt_40 : decode cX7_felt 40 = .ok (.iload_n 1, 1) := by decide +kernel
theorem dX7_felt_41 : decode cX7_felt 41 = .ok (.aaload, 1) := by decide +kernel
theorem dX7_felt_42 : decode cX7_felt 42 = .ok (.astore 6, 2) := by decide +kernel
theorem dX7_felt_44 : decode cX7_felt 44 = .ok (.aload 6, 2) := by decide +kernel
theorem dX7_felt_46 : decode cX7_felt 46 = .ok (.iload_n 2, 1) := by decide +kernel
theorem dX7_felt_47 : decode cX7_felt 47 = .ok (.iload_n 3, 1) := by decide +kernel
theorem dX7_felt_48 : decode cX7_felt 48 = .ok (.iconst 2, 1) := by decide +kernel
theorem dX7_felt_49 : decode cX7_felt 49 = .ok (.iload 4, 2) := by decide +kernel
theorem dX7_felt_51 : decode cX7_felt 51 = .ok (.imul, 1) := by decide +kernel
theorem dX7_felt_52 : decode cX7_felt 52 = .ok (.invokevirtual 272, 3) := by decide +kernel
theorem dX7_felt_55 : decode cX7_felt 55 = .ok (.istore 7, 2) := by decide +kernel
theorem dX7_felt_57 : decode cX7_felt 57 = .ok (.iload 7, 2) := by decide +kernel
theorem dX7_felt_59 : decode cX7_felt 59 = .ok (.ifCond .eq 6, 3) := by decide +kernel
theorem dX7_felt_62 : decode cX7_felt 62 = .ok (.iload 7, 2) := by decide +kernel
theorem dX7_felt_64 : decode cX7_felt 64 = .ok (.ireturn, 1) := by decide +kernel
theorem dX7_felt_65 : decode cX7_felt 65 = .ok (.iconst 0, 1) := by decide +kernel
theorem dX7_felt_66 : decode cX7_felt 66 = .ok (.istore 8, 2) := by decide +kernel
theorem dX7_felt_68 : decode cX7_felt 68 = .ok (.iload 8, 2) := by decide +kernel
theorem dX7_felt_70 : decode cX7_felt 70 = .ok (.iload 4, 2) := by decide +kernel
theorem dX7_felt_72 : decode cX7_felt 72 = .ok (.if_icmp .ge 31, 3) := by decide +kernel
theorem dX7_felt_75 : decode cX7_felt 75 = .ok (.aload_n 0, 1) := by decide +kernel
theorem dX7_felt_76 : decode cX7_felt 76 = .ok (.aload 6, 2) := by decide +kernel
theorem dX7_felt_78 : decode cX7_felt 78 = .ok (.getfield 276, 3) := by decide +kernel
theorem dX7_felt_81 : decode cX7_felt 81 = .ok (.iload_n 3, 1) := by decide +kernel
theorem dX7_felt_82 : decode cX7_felt 82 = .ok (.iconst 2, 1) := by decide +kernel
theorem dX7_felt_83 : decode cX7_felt 83 = .ok (.iload 8, 2) := by decide +kernel
theorem dX7_felt_85 : decode cX7_felt 85 = .ok (.imul, 1) := by decide +kernel
theorem dX7_felt_86 : decode cX7_felt 86 = .ok (.iadd, 1) := by decide +kernel
theorem dX7_felt_87 : decode cX7_felt 87 = .ok (.laload, 1) := by decide +kernel
theorem dX7_felt_88 : decode cX7_felt 88 = .ok (.invokevirtual 280, 3) := by decide +kernel
theorem dX7_felt_91 : decode cX7_felt 91 = .ok (.ifCond .ne 6, 3) := by decide +kernel
theorem dX7_felt_94 : decode cX7_felt 94 = .ok (.bipush (-2), 2) := by decide +kernel
theorem dX7_felt_96 : decode cX7_felt 96 = .ok (.ireturn, 1) := by decide +kernel
theorem dX7_felt_97 : decode cX7_felt 97 = .ok (.iinc 8 1, 3) := by decide +kernel
theorem dX7_felt_100 : decode cX7_felt 100 = .ok (.goto (-32), 3) := by decide +kernel
theorem dX7_felt_103 : decode cX7_felt 103 = .ok (.iload 5, 2) := by decide +kernel
theorem dX7_felt_105 : decode cX7_felt 105 = .ok (.ifCond .ne 15, 3) := by decide +kernel
theorem dX7_felt_108 : decode cX7_felt 108 = .ok (.aload_n 0, 1) := by decide +kernel
theorem dX7_felt_109 : decode cX7_felt 109 = .ok (.aload 6, 2) := by decide +kernel
theorem dX7_felt_111 : decode cX7_felt 111 = .ok (.iload_n 3, 1) := by decide +kernel
theorem dX7_felt_112 : decode cX7_felt 112 = .ok (.iload 4, 2) := by decide +kernel
theorem dX7_felt_114 : decode cX7_felt 114 = .ok (.invokevirtual 284, 3) := by decide +kernel
theorem dX7_felt_117 : decode cX7_felt 117 = .ok (.goto 12, 3) := by decide +kernel
theorem dX7_felt_120 : decode cX7_felt 120 = .ok (.aload_n 0, 1) := by decide +kernel
theorem dX7_felt_121 : decode cX7_felt 121 = .ok (.aload 6, 2) := by decide +kernel
theorem dX7_felt_123 : decode cX7_felt 123 = .ok (.iload_n 3, 1) := by decide +kernel
theorem dX7_felt_124 : decode cX7_felt 124 = .ok (.iload 4, 2) := by decide +kernel
theorem dX7_felt_126 : decode cX7_felt 126 = .ok (.invokevirtual 288, 3) := by decide +kernel
theorem dX7_felt_129 : decode cX7_felt 129 = .ok (.ireturn, 1) := by decide +kernel
theorem dX7_film_0 : decode cX7_film 0 = .ok (.aload_n 0, 1) := by decide +kernel
theorem dX7_film_1 : decode cX7_film 1 = .ok (.getfield 10, 3) := by decide +kernel
theorem dX7_film_4 : decode cX7_film 4 = .ok (.iload_n 1, 1) := by decide +kernel
theorem dX7_film_5 : decode cX7_film 5 = .ok (.invokevirtual 93, 3) := by decide +kernel
theorem dX7_film_8 : decode cX7_film 8 = .ok (.ifCond .eq 35, 3) := by decide +kernel
theorem dX7_film_11 : decode cX7_film 11 = .ok (.iload_n 2, 1) := by decide +kernel
theorem dX7_film_12 : decode cX7_film 12 = .ok (.iconst 1, 1) := by decide +kernel
theorem dX7_film_13 : decode cX7_film 13 = .ok (.aload_n 0, 1) := by decide +kernel
theorem dX7_film_14 : decode cX7_film 14 = .ok (.getfield 10, 3) := by decide +kernel
theorem dX7_film_17 : decode cX7_film 17 = .ok (.getfield 65, 3) := by decide +kernel
theorem dX7_film_20 : decode cX7_film 20 = .ok (.iload_n 1, 1) := by decide +kernel
theorem dX7_film_21 : decode cX7_film 21 = .ok (.isub, 1) := by decide +kernel
theorem dX7_film_22 : decode cX7_film 22 = .ok (.invokestatic 61, 3) := by decide +kernel
theorem dX7_film_25 : decode cX7_film 25 = .ok (.ifCond .eq 18, 3) := by decide +kernel
theorem dX7_film_28 : decode cX7_film 28 = .ok (.iload_n 3, 1) := by decide +kernel
theorem dX7_film_29 : decode cX7_film 29 = .ok (.invokestatic 266, 3) := by decide +kernel
theorem dX7_film_32 : decode cX7_film 32 = .ok (.ifCond .eq 11, 3) := by decide +kernel
theorem dX7_film_35 : decode cX7_film 35 = .ok (.iload 4, 2) := by decide +kernel
theorem dX7_film_37 : decode cX7_film 37 = .ok (.invokestatic 269, 3) := by decide +kernel
theorem dX7_film_40 : decode cX7_film 40 = .ok (.ifCond .ne 5, 3) := by decide +kernel
theorem dX7_film_43 : decode cX7_film 43 = .ok (.iconst (-1), 1) := by decide +kernel
theorem dX7_film_44 : decode cX7_film 44 = .ok (.ireturn, 1) := by decide +kernel
theorem dX7_film_45 : decode cX7_film 45 = .ok (.aload_n 0, 1) := by decide +kernel
theorem dX7_film_46 : decode cX7_film 46 = .ok (.getfield 56, 3) := by decide +kernel
theorem dX7_film_49 : decode cX7_film 49 = .ok (.iload_n 3, 1) := by decide +kernel
theorem dX7_film_50 : decode cX7_film 50 = .ok (.aaload, 1) := by decide +kernel
theorem dX7_film_51 : decode cX7_film 51 = .ok (.astore 6, 2) := by decide +kernel
theorem dX7_film_53 : decode cX7_film 53 = .ok (.aload 6, 2) := by decide +kernel
theorem dX7_film_55 : decode cX7_film 55 = .ok (.iload 4, 2) := by decide +kernel
theorem dX7_film_57 : decode cX7_film 57 = .ok (.iload 5, 2) := by decide +kernel
theorem dX7_film_59 : decode cX7_film 59 = .ok (.iload_n 2, 1) := by decide +kernel
theorem dX7_film_60 : decode cX7_film 60 = .ok (.invokevirtual 272, 3) := by decide +kernel
theorem dX7_film_63 : decode cX7_film 63 = .ok (.istore 7, 2) := by decide +kernel
theorem dX7_film_65 : decode cX7_film 65 = .ok (.iload 7, 2) := by decide +kernel
theorem dX7_film_67 : decode cX7_film 67 = .ok (.ifCond .eq 6, 3) := by decide +kernel
theorem dX7_film_70 : decode cX7_film 70 = .ok (.iload 7, 2) := by decide +kernel
theorem dX7_film_72 : decode cX7_film 72 = .ok (.ireturn, 1) := by decide +kernel
theorem dX7_film_73 : decode cX7_film 73 = .ok (.iconst 0, 1) := by decide +kernel
theorem dX7_film_74 : decode cX7_film 74 = .ok (.istore 8, 2) := by decide +kernel
theorem dX7_film_76 : decode cX7_film 76 = .ok (.iload 8, 2) := by decide +kernel
theorem dX7_film_78 : decode cX7_film 78 = .ok (.iload_n 2, 1) := by decide +kernel
theorem dX7_film_79 : decode cX7_film 79 = .ok (.if_icmp .ge 35, 3) := by decide +kernel
theorem dX7_film_82 : decode cX7_film 82 = .ok (.aload 6, 2) := by decide +kernel
theorem dX7_film_84 : decode cX7_film 84 = .ok (.iload 5, 2) := by decide +kernel
theorem dX7_film_86 : decode cX7_film 86 = .ok (.iload 8, 2) := by decide +kernel
theorem dX7_film_88 : decode cX7_film 88 = .ok (.iadd, 1) := by decide +kernel
theorem dX7_film_89 : decode cX7_film 89 = .ok (.aload_n 0, 1) := by decide +kernel
theorem dX7_film_90 : decode cX7_film 90 = .ok (.getfield 10, 3) := by decide +kernel
theorem dX7_film_93 : decode cX7_film 93 = .ok (.getfield 97, 3) := by decide +kernel
theorem dX7_film_96 : decode cX7_film 96 = .ok (.getfield 101, 3) := by decide +kernel
theorem dX7_film_99 : decode cX7_film 99 = .ok (.iload_n 1, 1) := by decide +kernel
theorem dX7_film_100 : decode cX7_film 100 = .ok (.iload 8, 2) := by decide +kernel
theorem dX7_film_102 : decode cX7_film 102 = .ok (.iadd, 1) := by decide +kernel
theorem dX7_film_103 : decode cX7_film 103 = .ok (.iaload, 1) := by decide +kernel
theorem dX7_film_104 : decode cX7_film 104 = .ok (.i2l, 1) := by decide +kernel
theorem dX7_film_105 : decode cX7_film 105 = .ok (.invokevirtual 291, 3) := by decide +kernel
theorem dX7_film_108 : decode cX7_film 108 = .ok (.iinc 8 1, 3) := by decide +kernel
theorem dX7_film_111 : decode cX7_film 111 = .ok (.goto (-35), 3) := by decide +kernel
theorem dX7_film_114 : decode cX7_film 114 = .ok (.iload_n 2, 1) := by decide +kernel
theorem dX7_film_115 : decode cX7_film 115 = .ok (.ireturn, 1) := by decide +kernel
theorem dX7_sheet_0 : decode cX7_sheet 0 = .ok (.iload_n 1, 1) := by decide +kernel
theorem dX7_sheet_1 : decode cX7_sheet 1 = .ok (.invokestatic 266, 3) := by decide +kernel
theorem dX7_sheet_4 : decode cX7_sheet 4 = .ok (.ifCond .eq 16, 3) := by decide +kernel
theorem dX7_sheet_7 : decode cX7_sheet 7 = .ok (.iload_n 2, 1) := by decide +kernel
theorem dX7_sheet_8 : decode cX7_sheet 8 = .ok (.invokestatic 269, 3) := by decide +kernel
theorem dX7_sheet_11 : decode cX7_sheet 11 = .ok (.ifCond .eq 9, 3) := by decide +kernel
theorem dX7_sheet_14 : decode cX7_sheet 14 = .ok (.iload_n 3, 1) := by decide +kernel
theorem dX7_sheet_15 : decode cX7_sheet 15 = .ok (.bipush 24, 2) := by decide +kernel
theorem dX7_sheet_17 : decode cX7_sheet 17 = .ok (.if_icmp .le 5, 3) := by decide +kernel
theorem dX7_sheet_20 : decode cX7_sheet 20 = .ok (.iconst (-1), 1) := by decide +kernel
theorem dX7_sheet_21 : decode cX7_sheet 21 = .ok (.ireturn, 1) := by decide +kernel
theorem dX7_sheet_22 : decode cX7_sheet 22 = .ok (.iload_n 3, 1) := by decide +kernel
theorem dX7_sheet_23 : decode cX7_sheet 23 = .ok (.ifCond .ge 6, 3) := by decide +kernel
theorem dX7_sheet_26 : decode cX7_sheet 26 = .ok (.bipush (-14), 2) := by decide +kernel
theorem dX7_sheet_28 : decode cX7_sheet 28 = .ok (.ireturn, 1) := by decide +kernel
theorem dX7_sheet_29 : decode cX7_sheet 29 = .ok (.aload_n 0, 1) := by decide +kernel
theorem dX7_sheet_30 : decode cX7_sheet 30 = .ok (.getfield 56, 3) := by decide +kernel
theorem dX7_sheet_33 : decode cX7_sheet 33 = .ok (.iload_n 1, 1) := by decide +kernel
theorem dX7_sheet_34 : decode cX7_sheet 34 = .ok (.aaload, 1) := by decide +kernel
theorem dX7_sheet_35 : decode cX7_sheet 35 = .ok (.iload_n 2, 1) := by decide +kernel
theorem dX7_sheet_36 : decode cX7_sheet 36 = .ok (.iload_n 3, 1) := by decide +kernel
theorem dX7_sheet_37 : decode cX7_sheet 37 = .ok (.invokevirtual 295, 3) := by decide +kernel
theorem dX7_sheet_40 : decode cX7_sheet 40 = .ok (.iload_n 3, 1) := by decide +kernel
theorem dX7_sheet_41 : decode cX7_sheet 41 = .ok (.ireturn, 1) := by decide +kernel
theorem dX7_drop_0 : decode cX7_drop 0 = .ok (.iload_n 1, 1) := by decide +kernel
theorem dX7_drop_1 : decode cX7_drop 1 = .ok (.invokestatic 266, 3) := by decide +kernel
theorem dX7_drop_4 : decode cX7_drop 4 = .ok (.ifCond .ne 5, 3) := by decide +kernel
theorem dX7_drop_7 : decode cX7_drop 7 = .ok (.iconst (-1), 1) := by decide +kernel
theorem dX7_drop_8 : decode cX7_drop 8 = .ok (.ireturn, 1) := by decide +kernel
theorem dX7_drop_9 : decode cX7_drop 9 = .ok (.aload_n 0, 1) := by decide +kernel
theorem dX7_drop_10 : decode cX7_drop 10 = .ok (.getfield 56, 3) := by decide +kernel
theorem dX7_drop_13 : decode cX7_drop 13 = .ok (.iload_n 1, 1) := by decide +kernel
theorem dX7_drop_14 : decode cX7_drop 14 = .ok (.aaload, 1) := by decide +kernel
theorem dX7_drop_15 : decode cX7_drop 15 = .ok (.astore_n 2, 1) := by decide +kernel
theorem dX7_drop_16 : decode cX7_drop 16 = .ok (.aload_n 2, 1) := by decide +kernel
theorem dX7_drop_17 : decode cX7_drop 17 = .ok (.invokevirtual 299, 3) := by decide +kernel
theorem dX7_drop_20 : decode cX7_drop 20 = .ok (.ifCond .eq 6, 3) := by decide +kernel
theorem dX7_drop_23 : decode cX7_drop 23 = .ok (.bipush (-11), 2) := by decide +kernel
theorem dX7_drop_25 : decode cX7_drop 25 = .ok (.ireturn, 1) := by decide +kernel
theorem dX7_drop_26 : decode cX7_drop 26 = .ok (.aload_n 2, 1) := by decide +kernel
theorem dX7_drop_27 : decode cX7_drop 27 = .ok (.getfield 302, 3) := by decide +kernel
theorem dX7_drop_30 : decode cX7_drop 30 = .ok (.istore_n 3, 1) := by decide +kernel
theorem dX7_drop_31 : decode cX7_drop 31 = .ok (.aload_n 2, 1) := by decide +kernel
theorem dX7_drop_32 : decode cX7_drop 32 = .ok (.invokevirtual 303, 3) := by decide +kernel
theorem dX7_drop_35 : decode cX7_drop 35 = .ok (.iload_n 3, 1) := by decide +kernel
theorem dX7_drop_36 : decode cX7_drop 36 = .ok (.ireturn, 1) := by decide +kernel
theorem dX7_item_0 : decode cX7_item 0 = .ok (.iload_n 1, 1) := by decide +kernel
theorem dX7_item_1 : decode cX7_item 1 = .ok (.invokestatic 266, 3) := by decide +kernel
theorem dX7_item_4 : decode cX7_item 4 = .ok (.ifCond .eq 10, 3) := by decide +kernel
theorem dX7_item_7 : decode cX7_item 7 = .ok (.iload_n 2, 1) := by decide +kernel
theorem dX7_item_8 : decode cX7_item 8 = .ok (.invokestatic 269, 3) := by decide +kernel
theorem dX7_item_11 : decode cX7_item 11 = .ok (.ifCond .ne 5, 3) := by decide +kernel
theorem dX7_item_14 : decode cX7_item 14 = .ok (.iconst (-1), 1) := by decide +kernel
theorem dX7_item_15 : decode cX7_item 15 = .ok (.ireturn, 1) := by decide +kernel
theorem dX7_item_16 : decode cX7_item 16 = .ok (.aload_n 0, 1) := by decide +kernel
theorem dX7_item_17 : decode cX7_item 17 = .ok (.getfield 56, 3) := by decide +kernel
theorem dX7_item_20 : decode cX7_item 20 = .ok (.iload_n 1, 1) := by decide +kernel
theorem dX7_item_21 : decode cX7_item 21 = .ok (.aaload, 1) := by decide +kernel
theorem dX7_item_22 : decode cX7_item 22 = .ok (.astore 6, 2) := by decide +kernel
theorem dX7_item_24 : decode cX7_item 24 = .ok (.aload 6, 2) := by decide +kernel
theorem dX7_item_26 : decode cX7_item 26 = .ok (.iload_n 2, 1) := by decide +kernel
theorem dX7_item_27 : decode cX7_item 27 = .ok (.iload_n 3, 1) := by decide +kernel
theorem dX7_item_28 : decode cX7_item 28 = .ok (.iconst 1, 1) := by decide +kernel
theorem dX7_item_29 : decode cX7_item 29 = .ok (.invokevirtual 272, 3) := by decide +kernel
theorem dX7_item_32 : decode cX7_item 32 = .ok (.istore 7, 2) := by decide +kernel
theorem dX7_item_34 : decode cX7_item 34 = .ok (.iload 7, 2) := by decide +kernel
theorem dX7_item_36 : decode cX7_item 36 = .ok (.ifCond .eq 6, 3) := by decide +kernel
theorem dX7_item_39 : decode cX7_item 39 = .ok (.iload 7, 2) := by decide +kernel
theorem dX7_item_41 : decode cX7_item 41 = .ok (.ireturn, 1) := by decide +kernel
theorem dX7_item_42 : decode cX7_item 42 = .ok (.aload 6, 2) := by decide +kernel
theorem dX7_item_44 : decode cX7_item 44 = .ok (.iload_n 3, 1) := by decide +kernel
theorem dX7_item_45 : decode cX7_item 45 = .ok (.lload 4, 2) := by decide +kernel
theorem dX7_item_47 : decode cX7_item 47 = .ok (.invokevirtual 291, 3) := by decide +kernel
theorem dX7_item_50 : decode cX7_item 50 = .ok (.iconst 1, 1) := by decide +kernel
theorem dX7_item_51 : decode cX7_item 51 = .ok (.ireturn, 1) := by decide +kernel
theorem dX7_copy_0 : decode cX7_copy 0 = .ok (.iload_n 1, 1) := by decide +kernel
theorem dX7_copy_1 : decode cX7_copy 1 = .ok (.invokestatic 266, 3) := by decide +kernel
theorem dX7_copy_4 : decode cX7_copy 4 = .ok (.ifCond .eq 10, 3) := by decide +kernel
theorem dX7_copy_7 : decode cX7_copy 7 = .ok (.iload_n 3, 1) := by decide +kernel
theorem dX7_copy_8 : decode cX7_copy 8 = .ok (.invokestatic 266, 3) := by decide +kernel
theorem dX7_copy_11 : decode cX7_copy 11 = .ok (.ifCond .ne 5, 3) := by decide +kernel
theorem dX7_copy_14 : decode cX7_copy 14 = .ok (.iconst (-1), 1) := by decide +kernel
theorem dX7_copy_15 : decode cX7_copy 15 = .ok (.ireturn, 1) := by decide +kernel
theorem dX7_copy_16 : decode cX7_copy 16 = .ok (.aload_n 0, 1) := by decide +kernel
theorem dX7_copy_17 : decode cX7_copy 17 = .ok (.getfield 56, 3) := by decide +kernel
theorem dX7_copy_20 : decode cX7_copy 20 = .ok (.iload_n 1, 1) := by decide +kernel
theorem dX7_copy_21 : decode cX7_copy 21 = .ok (.aaload, 1) := by decide +kernel
theorem dX7_copy_22 : decode cX7_copy 22 = .ok (.astore 6, 2) := by decide +kernel
theorem dX7_copy_24 : decode cX7_copy 24 = .ok (.aload_n 0, 1) := by decide +kernel
theorem dX7_copy_25 : decode cX7_copy 25 = .ok (.getfield 56, 3) := by decide +kernel
theorem dX7_copy_28 : decode cX7_copy 28 = .ok (.iload_n 3, 1) := by decide +kernel
theorem dX7_copy_29 : decode cX7_copy 29 = .ok (.aaload, 1) := by decide +kernel
theorem dX7_copy_30 : decode cX7_copy 30 = .ok (.astore 7, 2) := by decide +kernel
theorem dX7_copy_32 : decode cX7_copy 32 = .ok (.aload 6, 2) := by decide +kernel
theorem dX7_copy_34 : decode cX7_copy 34 = .ok (.invokevirtual 299, 3) := by decide +kernel
theorem dX7_copy_37 : decode cX7_copy 37 = .ok (.ifCond .ne 11, 3) := by decide +kernel
theorem dX7_copy_40 : decode cX7_copy 40 = .ok (.aload 7, 2) := by decide +kernel
theorem dX7_copy_42 : decode cX7_copy 42 = .ok (.invokevirtual 299, 3) := by decide +kernel
theorem dX7_copy_45 : decode cX7_copy 45 = .ok (.ifCond .eq 6, 3) := by decide +kernel
theorem dX7_copy_48 : decode cX7_copy 48 = .ok (.bipush (-11), 2) := by decide +kernel
theorem dX7_copy_50 : decode cX7_copy 50 = .ok (.ireturn, 1) := by decide +kernel
theorem dX7_copy_51 : decode cX7_copy 51 = .ok (.aload 6, 2) := by decide +kernel
theorem dX7_copy_53 : decode cX7_copy 53 = .ok (.getfield 306, 3) := by decide +kernel
theorem dX7_copy_56 : decode cX7_copy 56 = .ok (.aload 7, 2) := by decide +kernel
theorem dX7_copy_58 : decode cX7_copy 58 = .ok (.getfield 306, 3) := by decide +kernel
theorem dX7_copy_61 : decode cX7_copy 61 = .ok (.if_icmp .eq 6, 3) := by decide +kernel
theorem dX7_copy_64 : decode cX7_copy 64 = .ok (.bipush (-12), 2) := by decide +kernel
theorem dX7_copy_66 : decode cX7_copy 66 = .ok (.ireturn, 1) := by decide +kernel
theorem dX7_copy_67 : decode cX7_copy 67 = .ok (.aload 6, 2) := by decide +kernel
theorem dX7_copy_69 : decode cX7_copy 69 = .ok (.iload_n 2, 1) := by decide +kernel
theorem dX7_copy_70 : decode cX7_copy 70 = .ok (.iload 5, 2) := by decide +kernel
theorem dX7_copy_72 : decode cX7_copy 72 = .ok (.invokevirtual 309, 3) := by decide +kernel
theorem dX7_copy_75 : decode cX7_copy 75 = .ok (.ifCond .eq 15, 3) := by decide +kernel
theorem dX7_copy_78 : decode cX7_copy 78 = .ok (.aload 7, 2) := by decide +kernel
theorem dX7_copy_80 : decode cX7_copy 80 = .ok (.iload 4, 2) := by decide +kernel
theorem dX7_copy_82 : decode cX7_copy 82 = .ok (.iload 5, 2) := by decide +kernel
theorem dX7_copy_84 : decode cX7_copy 84 = .ok (.invokevirtual 309, 3) := by decide +kernel
theorem dX7_copy_87 : decode cX7_copy 87 = .ok (.ifCond .ne 6, 3) := by decide +kernel
theorem dX7_copy_90 : decode cX7_copy 90 = .ok (.bipush (-13), 2) := by decide +kernel
theorem dX7_copy_92 : decode cX7_copy 92 = .ok (.ireturn, 1) := by decide +kernel
theorem dX7_copy_93 : decode cX7_copy 93 = .ok (.aload 6, 2) := by decide +kernel
theorem dX7_copy_95 : decode cX7_copy 95 = .ok (.getfield 276, 3) := by decide +kernel
theorem dX7_copy_98 : decode cX7_copy 98 = .ok (.iload_n 2, 1) := by decide +kernel
theorem dX7_copy_99 : decode cX7_copy 99 = .ok (.aload 7, 2) := by decide +kernel
theorem dX7_copy_101 : decode cX7_copy 101 = .ok (.getfield 276, 3) := by decide +kernel
theorem dX7_copy_104 : decode cX7_copy 104 = .ok (.iload 4, 2) := by decide +kernel
theorem dX7_copy_106 : decode cX7_copy 106 = .ok (.iload 5, 2) := by decide +kernel
theorem dX7_copy_108 : decode cX7_copy 108 = .ok (.invokestatic 313, 3) := by decide +kernel
theorem dX7_copy_111 : decode cX7_copy 111 = .ok (.iload 5, 2) := by decide +kernel
theorem dX7_copy_113 : decode cX7_copy 113 = .ok (.ireturn, 1) := by decide +kernel
theorem dX7_countFelt_0 : decode cX7_countFelt 0 = .ok (.iconst 0, 1) := by decide +kernel
theorem dX7_countFelt_1 : decode cX7_countFelt 1 = .ok (.istore 4, 2) := by decide +kernel
theorem dX7_countFelt_3 : decode cX7_countFelt 3 = .ok (.iconst 0, 1) := by decide +kernel
theorem dX7_countFelt_4 : decode cX7_countFelt 4 = .ok (.istore 5, 2) := by decide +kernel
theorem dX7_countFelt_6 : decode cX7_countFelt 6 = .ok (.iload 5, 2) := by decide +kernel
theorem dX7_countFelt_8 : decode cX7_countFelt 8 = .ok (.aload_n 0, 1) := by decide +kernel
theorem dX7_countFelt_9 : decode cX7_countFelt 9 = .ok (.getfield 10, 3) := by decide +kernel
theorem dX7_countFelt_12 : decode cX7_countFelt 12 = .ok (.invokevirtual 83, 3) := by decide +kernel
theorem dX7_countFelt_15 : decode cX7_countFelt 15 = .ok (.if_icmp .gt 24, 3) := by decide +kernel
theorem dX7_countFelt_18 : decode cX7_countFelt 18 = .ok (.aload_n 0, 1) := by decide +kernel
theorem dX7_countFelt_19 : decode cX7_countFelt 19 = .ok (.iload 5, 2) := by decide +kernel
theorem dX7_countFelt_21 : decode cX7_countFelt 21 = .ok (.aload_n 1, 1) := by decide +kernel
theorem dX7_countFelt_22 : decode cX7_countFelt 22 = .ok (.iload_n 2, 1) := by decide +kernel
theorem dX7_countFelt_23 : decode cX7_countFelt 23 = .ok (.iload_n 3, 1) := by decide +kernel
theorem dX7_countFelt_24 : decode cX7_countFelt 24 = .ok (.invokevirtual 319, 3) := by decide +kernel
theorem dX7_countFelt_27 : decode cX7_countFelt 27 = .ok (.ifCond .eq 6, 3) := by decide +kernel
theorem dX7_countFelt_30 : decode cX7_countFelt 30 = .ok (.iinc 4 1, 3) := by decide +kernel
theorem dX7_countFelt_33 : decode cX7_countFelt 33 = .ok (.iinc 5 1, 3) := by decide +kernel
theorem dX7_countFelt_36 : decode cX7_countFelt 36 = .ok (.goto (-30), 3) := by decide +kernel
theorem dX7_countFelt_39 : decode cX7_countFelt 39 = .ok (.iload 4, 2) := by decide +kernel
theorem dX7_countFelt_41 : decode cX7_countFelt 41 = .ok (.ireturn, 1) := by decide +kernel
theorem dX7_leastFelt_0 : decode cX7_leastFelt 0 = .ok (.iconst 0, 1) := by decide +kernel
theorem dX7_leastFelt_1 : decode cX7_leastFelt 1 = .ok (.istore 4, 2) := by decide +kernel
theorem dX7_leastFelt_3 : decode cX7_leastFelt 3 = .ok (.iload 4, 2) := by decide +kernel
theorem dX7_leastFelt_5 : decode cX7_leastFelt 5 = .ok (.aload_n 0, 1) := by decide +kernel
theorem dX7_leastFelt_6 : decode cX7_leastFelt 6 = .ok (.getfield 10, 3) := by decide +kernel
theorem dX7_leastFelt_9 : decode cX7_leastFelt 9 = .ok (.invokevirtual 83, 3) := by decide +kernel
theorem dX7_leastFelt_12 : decode cX7_leastFelt 12 = .ok (.if_icmp .gt 24, 3) := by decide +kernel
theorem dX7_leastFelt_15 : decode cX7_leastFelt 15 = .ok (.aload_n 0, 1) := by decide +kernel
theorem dX7_leastFelt_16 : decode cX7_leastFelt 16 = .ok (.iload 4, 2) := by decide +kernel
theorem dX7_leastFelt_18 : decode cX7_leastFelt 18 = .ok (.aload_n 1, 1) := by decide +kernel
theorem dX7_leastFelt_19 : decode cX7_leastFelt 19 = .ok (.iload_n 2, 1) := by decide +kernel
theorem dX7_leastFelt_20 : decode cX7_leastFelt 20 = .ok (.iload_n 3, 1) := by decide +kernel
theorem dX7_leastFelt_21 : decode cX7_leastFelt 21 = .ok (.invokevirtual 319, 3) := by decide +kernel
theorem dX7_leastFelt_24 : decode cX7_leastFelt 24 = .ok (.ifCond .eq 6, 3) := by decide +kernel
theorem dX7_leastFelt_27 : decode cX7_leastFelt 27 = .ok (.iload 4, 2) := by decide +kernel
theorem dX7_leastFelt_29 : decode cX7_leastFelt 29 = .ok (.ireturn, 1) := by decide +kernel
theorem dX7_leastFelt_30 : decode cX7_leastFelt 30 = .ok (.iinc 4 1, 3) := by decide +kernel
theorem dX7_leastFelt_33 : decode cX7_leastFelt 33 = .ok (.goto (-30), 3) := by decide +kernel
theorem dX7_leastFelt_36 : decode cX7_leastFelt 36 = .ok (.bipush (-4), 2) := by decide +kernel
theorem dX7_leastFelt_38 : decode cX7_leastFelt 38 = .ok (.ireturn, 1) := by decide +kernel
theorem dX7_isFeltBy_0 : decode cX7_isFeltBy 0 = .ok (.iconst 0, 1) := by decide +kernel
theorem dX7_isFeltBy_1 : decode cX7_isFeltBy 1 = .ok (.istore 5, 2) := by decide +kernel
theorem dX7_isFeltBy_3 : decode cX7_isFeltBy 3 = .ok (.iload 5, 2) := by decide +kernel
theorem dX7_isFeltBy_5 : decode cX7_isFeltBy 5 = .ok (.iload 4, 2) := by decide +kernel
theorem dX7_isFeltBy_7 : decode cX7_isFeltBy 7 = .ok (.if_icmp .ge 89, 3) := by decide +kernel
theorem dX7_isFeltBy_10 : decode cX7_isFeltBy 10 = .ok (.aload_n 2, 1) := by decide +kernel
theorem dX7_isFeltBy_11 : decode cX7_isFeltBy 11 = .ok (.getfield 276, 3) := by decide +kernel
theorem dX7_isFeltBy_14 : decode cX7_isFeltBy 14 = .ok (.iload_n 3, 1) := by decide +kernel
theorem dX7_isFeltBy_15 : decode cX7_isFeltBy 15 = .ok (.iconst 2, 1) := by decide +kernel
theorem dX7_isFeltBy_16 : decode cX7_isFeltBy 16 = .ok (.iload 5, 2) := by decide +kernel
theorem dX7_isFeltBy_18 : decode cX7_isFeltBy 18 = .ok (.imul, 1) := by decide +kernel
theorem dX7_isFeltBy_19 : decode cX7_isFeltBy 19 = .ok (.iadd, 1) := by decide +kernel
theorem dX7_isFeltBy_20 : decode cX7_isFeltBy 20 = .ok (.laload, 1) := by decide +kernel
theorem dX7_isFeltBy_21 : decode cX7_isFeltBy 21 = .ok (.l2i, 1) := by decide +kernel
theorem dX7_isFeltBy_22 : decode cX7_isFeltBy 22 = .ok (.istore 6, 2) := by decide +kernel
theorem dX7_isFeltBy_24 : decode cX7_isFeltBy 24 = .ok (.aload_n 0, 1) := by decide +kernel
theorem dX7_isFeltBy_25 : decode cX7_isFeltBy 25 = .ok (.getfield 10, 3) := by decide +kernel
theorem dX7_isFeltBy_28 : decode cX7_isFeltBy 28 = .ok (.getfield 97, 3) := by decide +kernel
theorem dX7_isFeltBy_31 : decode cX7_isFeltBy 31 = .ok (.getfield 122, 3) := by decide +kernel
theorem dX7_isFeltBy_34 : decode cX7_isFeltBy 34 = .ok (.iload 6, 2) := by decide +kernel
theorem dX7_isFeltBy_36 : decode cX7_isFeltBy 36 = .ok (.iaload, 1) := by decide +kernel
theorem dX7_isFeltBy_37 : decode cX7_isFeltBy 37 = .ok (.istore 7, 2) := by decide +kernel
theorem dX7_isFeltBy_39 : decode cX7_isFeltBy 39 = .ok (.aload_n 0, 1) := by decide +kernel
theorem dX7_isFeltBy_40 : decode cX7_isFeltBy 40 = .ok (.getfield 10, 3) := by decide +kernel
theorem dX7_isFeltBy_43 : decode cX7_isFeltBy 43 = .ok (.iload 7, 2) := by decide +kernel
theorem dX7_isFeltBy_45 : decode cX7_isFeltBy 45 = .ok (.iload_n 1, 1) := by decide +kernel
theorem dX7_isFeltBy_46 : decode cX7_isFeltBy 46 = .ok (.aload_n 0, 1) := by decide +kernel
theorem dX7_isFeltBy_47 : decode cX7_isFeltBy 47 = .ok (.getfield 10, 3) := by decide +kernel
theorem dX7_isFeltBy_50 : decode cX7_isFeltBy 50 = .ok (.invokevirtual 83, 3) := by decide +kernel
theorem dX7_isFeltBy_53 : decode cX7_isFeltBy 53 = .ok (.aload_n 0, 1) := by decide +kernel
theorem dX7_isFeltBy_54 : decode cX7_isFeltBy 54 = .ok (.getfield 10, 3) := by decide +kernel
theorem dX7_isFeltBy_57 : decode cX7_isFeltBy 57 = .ok (.getfield 97, 3) := by decide +kernel
theorem dX7_isFeltBy_60 : decode cX7_isFeltBy 60 = .ok (.invokevirtual 128, 3) := by decide +kernel
theorem dX7_isFeltBy_63 : decode cX7_isFeltBy 63 = .ok (.invokevirtual 323, 3) := by decide +kernel
theorem dX7_isFeltBy_66 : decode cX7_isFeltBy 66 = .ok (.istore 8, 2) := by decide +kernel
theorem dX7_isFeltBy_68 : decode cX7_isFeltBy 68 = .ok (.aload_n 2, 1) := by decide +kernel
theorem dX7_isFeltBy_69 : decode cX7_isFeltBy 69 = .ok (.getfield 276, 3) := by decide +kernel
theorem dX7_isFeltBy_72 : decode cX7_isFeltBy 72 = .ok (.iload_n 3, 1) := by decide +kernel
theorem dX7_isFeltBy_73 : decode cX7_isFeltBy 73 = .ok (.iconst 2, 1) := by decide +kernel
theorem dX7_isFeltBy_74 : decode cX7_isFeltBy 74 = .ok (.iload 5, 2) := by decide +kernel
theorem dX7_isFeltBy_76 : decode cX7_isFeltBy 76 = .ok (.imul, 1) := by decide +kernel
theorem dX7_isFeltBy_77 : decode cX7_isFeltBy 77 = .ok (.iadd, 1) := by decide +kernel
theorem dX7_isFeltBy_78 : decode cX7_isFeltBy 78 = .ok (.iconst 1, 1) := by decide +kernel
theorem dX7_isFeltBy_79 : decode cX7_isFeltBy 79 = .ok (.iadd, 1) := by decide +kernel
theorem dX7_isFeltBy_80 : decode cX7_isFeltBy 80 = .ok (.laload, 1) := by decide +kernel
theorem dX7_isFeltBy_81 : decode cX7_isFeltBy 81 = .ok (.iload 8, 2) := by decide +kernel
theorem dX7_isFeltBy_83 : decode cX7_isFeltBy 83 = .ok (.i2l, 1) := by decide +kernel
theorem dX7_isFeltBy_84 : decode cX7_isFeltBy 84 = .ok (.lcmp, 1) := by decide +kernel
theorem dX7_isFeltBy_85 : decode cX7_isFeltBy 85 = .ok (.ifCond .eq 5, 3) := by decide +kernel
theorem dX7_isFeltBy_88 : decode cX7_isFeltBy 88 = .ok (.iconst 0, 1) := by decide +kernel
theorem dX7_isFeltBy_89 : decode cX7_isFeltBy 89 = .ok (.ireturn, 1) := by decide +kernel
theorem dX7_isFeltBy_90 : decode cX7_isFeltBy 90 = .ok (.iinc 5 1, 3) := by decide +kernel
theorem dX7_isFeltBy_93 : decode cX7_isFeltBy 93 = .ok (.goto (-90), 3) := by decide +kernel
theorem dX7_isFeltBy_96 : decode cX7_isFeltBy 96 = .ok (.iconst 1, 1) := by decide +kernel
theorem dX7_isFeltBy_97 : decode cX7_isFeltBy 97 = .ok (.ireturn, 1) := by decide +kernel
theorem dX7_isSaying_0 : decode cX7_isSaying 0 = .ok (.lload_n 1, 1) := by decide +kernel
theorem dX7_isSaying_1 : decode cX7_isSaying 1 = .ok (.lconst 0, 1) := by decide +kernel
theorem dX7_isSaying_2 : decode cX7_isSaying 2 = .ok (.lcmp, 1) := by decide +kernel
theorem dX7_isSaying_3 : decode cX7_isSaying 3 = .ok (.ifCond .lt 20, 3) := by decide +kernel
theorem dX7_isSaying_6 : decode cX7_isSaying 6 = .ok (.lload_n 1, 1) := by decide +kernel
theorem dX7_isSaying_7 : decode cX7_isSaying 7 = .ok (.aload_n 0, 1) := by decide +kernel
theorem dX7_isSaying_8 : decode cX7_isSaying 8 = .ok (.getfield 10, 3) := by decide +kernel
theorem dX7_isSaying_11 : decode cX7_isSaying 11 = .ok (.getfield 87, 3) := by decide +kernel
theorem dX7_isSaying_14 : decode cX7_isSaying 14 = .ok (.i2l, 1) := by decide +kernel
theorem dX7_isSaying_15 : decode cX7_isSaying 15 = .ok (.lcmp, 1) := by decide +kernel
theorem dX7_isSaying_16 : decode cX7_isSaying 16 = .ok (.ifCond .ge 7, 3) := by decide +kernel
theorem dX7_isSaying_19 : decode cX7_isSaying 19 = .ok (.iconst 1, 1) := by decide +kernel
theorem dX7_isSaying_20 : decode cX7_isSaying 20 = .ok (.goto 4, 3) := by decide +kernel
theorem dX7_isSaying_23 : decode cX7_isSaying 23 = .ok (.iconst 0, 1) := by decide +kernel
theorem dX7_isSaying_24 : decode cX7_isSaying 24 = .ok (.ireturn, 1) := by decide +kernel
theorem dX7_isSheet_0 : decode cX7_isSheet 0 = .ok (.iload_n 0, 1) := by decide +kernel
theorem dX7_isSheet_1 : decode cX7_isSheet 1 = .ok (.iconst 0, 1) := by decide +kernel
theorem dX7_isSheet_2 : decode cX7_isSheet 2 = .ok (.iconst 3, 1) := by decide +kernel
theorem dX7_isSheet_3 : decode cX7_isSheet 3 = .ok (.invokestatic 61, 3) := by decide +kernel
theorem dX7_isSheet_6 : decode cX7_isSheet 6 = .ok (.ireturn, 1) := by decide +kernel
theorem dX7_isLane_0 : decode cX7_isLane 0 = .ok (.iload_n 0, 1) := by decide +kernel
theorem dX7_isLane_1 : decode cX7_isLane 1 = .ok (.iconst 0, 1) := by decide +kernel
theorem dX7_isLane_2 : decode cX7_isLane 2 = .ok (.iconst 3, 1) := by decide +kernel
theorem dX7_isLane_3 : decode cX7_isLane 3 = .ok (.invokestatic 61, 3) := by decide +kernel
theorem dX7_isLane_6 : decode cX7_isLane 6 = .ok (.ireturn, 1) := by decide +kernel
theorem dX7_within_0 : decode cX7_within 0 = .ok (.iload_n 0, 1) := by decide +kernel
theorem dX7_within_1 : decode cX7_within 1 = .ok (.iload_n 1, 1) := by decide +kernel
theorem dX7_within_2 : decode cX7_within 2 = .ok (.if_icmp .lt 12, 3) := by decide +kernel
theorem dX7_within_5 : decode cX7_within 5 = .ok (.iload_n 0, 1) := by decide +kernel
theorem dX7_within_6 : decode cX7_within 6 = .ok (.iload_n 2, 1) := by decide +kernel
theorem dX7_within_7 : decode cX7_within 7 = .ok (.if_icmp .gt 7, 3) := by decide +kernel
theorem dX7_within_10 : decode cX7_within 10 = .ok (.iconst 1, 1) := by decide +kernel
theorem dX7_within_11 : decode cX7_within 11 = .ok (.goto 4, 3) := by decide +kernel
theorem dX7_within_14 : decode cX7_within 14 = .ok (.iconst 0, 1) := by decide +kernel
theorem dX7_within_15 : decode cX7_within 15 = .ok (.ireturn, 1) := by decide +kernel
theorem dL_law_0 : decode cL_law 0 = .ok (.new 7, 3) := by decide +kernel
theorem dL_law_3 : decode cL_law 3 = .ok (.dup, 1) := by decide +kernel
theorem dL_law_4 : decode cL_law 4 = .ok (.invokespecial 9, 3) := by decide +kernel
theorem dL_law_7 : decode cL_law 7 = .ok (.astore_n 1, 1) := by decide +kernel
theorem dL_law_8 : decode cL_law 8 = .ok (.new 10, 3) := by decide +kernel
theorem dL_law_11 : decode cL_law 11 = .ok (.dup, 1) := by decide +kernel
theorem dL_law_12 : decode cL_law 12 = .ok (.invokespecial 12, 3) := by decide +kernel
theorem dL_law_15 : decode cL_law 15 = .ok (.astore_n 2, 1) := by decide +kernel
theorem dL_law_16 : decode cL_law 16 = .ok (.iconst 0, 1) := by decide +kernel
theorem dL_law_17 : decode cL_law 17 = .ok (.istore_n 3, 1) := by decide +kernel
theorem dL_law_18 : decode cL_law 18 = .ok (.iload_n 3, 1) := by decide +kernel
theorem dL_law_19 : decode cL_law 19 = .ok (.aload_n 0, 1) := by decide +kernel
theorem dL_law_20 : decode cL_law 20 = .ok (.arraylength, 1) := by decide +kernel
theorem dL_law_21 : decode cL_law 21 = .ok (.bipush 6, 2) := by decide +kernel
theorem dL_law_23 : decode cL_law 23 = .ok (.isub, 1) := by decide +kernel
theorem dL_law_24 : decode cL_law 24 = .ok (.if_icmp .gt 1366, 3) := by decide +kernel
theorem dL_law_27 : decode cL_law 27 = .ok (.aload_n 0, 1) := by decide +kernel
theorem dL_law_28 : decode cL_law 28 = .ok (.iload_n 3, 1) := by decide +kernel
theorem dL_law_29 : decode cL_law 29 = .ok (.iaload, 1) := by decide +kernel
theorem dL_law_30 : decode cL_law 30 = .ok (.bipush 63, 2) := by decide +kernel
theorem dL_law_32 : decode cL_law 32 = .ok (.iand, 1) := by decide +kernel
theorem dL_law_33 : decode cL_law 33 = .ok (.tableswitch 1351 0 37 #[167, 190, 223, 256, 279, 312, 345, 378, 401, 424, 437, 460, 483, 516, 549, 572, 585, 608, 631, 654, 687, 700, 733, 776, 809, 832, 875, 898, 921, 944, 987, 1000, 1013, 1076, 1139, 1182, 1205, 1288], 167) := by decide +kernel
theorem dL_law_200 : decode cL_law 200 = .ok (.aload_n 1, 1) := by decide +kernel
theorem dL_law_201 : decode cL_law 201 = .ok (.aload_n 0, 1) := by decide +kernel
theorem dL_law_202 : decode cL_law 202 = .ok (.iload_n 3, 1) := by decide +kernel
theorem dL_law_203 : decode cL_law 203 = .ok (.iconst 1, 1) := by decide +kernel
theorem dL_law_204 : decode cL_law 204 = .ok (.iadd, 1) := by decide +kernel
theorem dL_law_205 : decode cL_law 205 = .ok (.iaload, 1) := by decide +kernel
theorem dL_law_206 : decode cL_law 206 = .ok (.invokevirtual 13, 3) := by decide +kernel
theorem dL_law_209 : decode cL_law 209 = .ok (.aload_n 2, 1) := by decide +kernel
theorem dL_law_210 : decode cL_law 210 = .ok (.aload_n 0, 1) := by decide +kernel
theorem dL_law_211 : decode cL_law 211 = .ok (.iload_n 3, 1) := by decide +kernel
theorem dL_law_212 : decode cL_law 212 = .ok (.iconst 1, 1) := by decide +kernel
theorem dL_law_213 : decode cL_law 213 = .ok (.iadd, 1) := by decide +kernel
theorem dL_law_214 : decode cL_law 214 = .ok (.iaload, 1) := by decide +kernel
theorem dL_law_215 : decode cL_law 215 = .ok (.invokevirtual 17, 3) := by decide +kernel
theorem dL_law_218 : decode cL_law 218 = .ok (.if_icmp .eq 1166, 3) := by decide +kernel
theorem dL_law_221 : decode cL_law 221 = .ok (.iconst 0, 1) := by decide +kernel
theorem dL_law_222 : decode cL_law 222 = .ok (.ireturn, 1) := by decide +kernel
theorem dL_law_223 : decode cL_law 223 = .ok (.aload_n 1, 1) := by decide +kernel
theorem dL_law_224 : decode cL_law 224 = .ok (.aload_n 0, 1) := by decide +kernel
theorem dL_law_225 : decode cL_law 225 = .ok (.iload_n 3, 1) := by decide +kernel
theorem dL_law_226 : decode cL_law 226 = .ok (.iconst 1, 1) := by decide +kernel
theorem dL_law_227 : decode cL_law 227 = .ok (.iadd, 1) := by decide +kernel
theorem dL_law_228 : decode cL_law 228 = .ok (.iaload, 1) := by decide +kernel
theorem dL_law_229 : decode cL_law 229 = .ok (.aload_n 0, 1) := by decide +kernel
theorem dL_law_230 : decode cL_law 230 = .ok (.iload_n 3, 1) := by decide +kernel
theorem dL_law_231 : decode cL_law 231 = .ok (.iconst 2, 1) := by decide +kernel
theorem dL_law_232 : decode cL_law 232 = .ok (.iadd, 1) := by decide +kernel
theorem dL_law_233 : decode cL_law 233 = .ok (.iaload, 1) := by decide +kernel
theorem dL_law_234 : decode cL_law 234 = .ok (.invokevirtual 18, 3) := by decide +kernel
theorem dL_law_237 : decode cL_law 237 = .ok (.aload_n 2, 1) := by decide +kernel
theorem dL_law_238 : decode cL_law 238 = .ok (.aload_n 0, 1) := by decide +kernel
theorem dL_law_239 : decode cL_law 239 = .ok (.iload_n 3, 1) := by decide +kernel
theorem dL_law_240 : decode cL_law 240 = .ok (.iconst 1, 1) := by decide +kernel
theorem dL_law_241 : decode cL_law 241 = .ok (.iadd, 1) := by decide +kernel
theorem dL_law_242 : decode cL_law 242 = .ok (.iaload, 1) := by decide +kernel
theorem dL_law_243 : decode cL_law 243 = .ok (.aload_n 0, 1) := by decide +kernel
theorem dL_law_244 : decode cL_law 244 = .ok (.iload_n 3, 1) := by decide +kernel
theorem dL_law_245 : decode cL_law 245 = .ok (.iconst 2, 1) := by decide +kernel
theorem dL_law_246 : decode cL_law 246 = .ok (.iadd, 1) := by decide +kernel
theorem dL_law_247 : decode cL_law 247 = .ok (.iaload, 1) := by decide +kernel
theorem dL_law_248 : decode cL_law 248 = .ok (.invokevirtual 22, 3) := by decide +kernel
theorem dL_law_251 : decode cL_law 251 = .ok (.if_icmp .eq 1133, 3) := by decide +kernel
theorem dL_law_254 : decode cL_law 254 = .ok (.iconst 0, 1) := by decide +kernel
theorem dL_law_255 : decode cL_law 255 = .ok (.ireturn, 1) := by decide +kernel
theorem dL_law_256 : decode cL_law 256 = .ok (.aload_n 1, 1) := by decide +kernel
theorem dL_law_257 : decode cL_law 257 = .ok (.aload_n 0, 1) := by decide +kernel
theorem dL_law_258 : decode cL_law 258 = .ok (.iload_n 3, 1) := by decide +kernel
theorem dL_law_259 : decode cL_law 259 = .ok (.iconst 1, 1) := by decide +kernel
theorem dL_law_260 : decode cL_law 260 = .ok (.iadd, 1) := by decide +kernel
theorem dL_law_261 : decode cL_law 261 = .ok (.iaload, 1) := by decide +kernel
theorem dL_law_262 : decode cL_law 262 = .ok (.aload_n 0, 1) := by decide +kernel
theorem dL_law_263 : decode cL_law 263 = .ok (.iload_n 3, 1) := by decide +kernel
theorem dL_law_264 : decode cL_law 264 = .ok (.iconst 2, 1) := by decide +kernel
theorem dL_law_265 : decode cL_law 265 = .ok (.iadd, 1) := by decide +kernel
theorem dL_law_266 : decode cL_law 266 = .ok (.iaload, 1) := by decide +kernel
theorem dL_law_267 : decode cL_law 267 = .ok (.invokevirtual 23, 3) := by decide +kernel
theorem dL_law_270 : decode cL_law 270 = .ok (.aload_n 2, 1) := by decide +kernel
theorem dL_law_271 : decode cL_law 271 = .ok (.aload_n 0, 1) := by decide +kernel
theorem dL_law_272 : decode cL_law 272 = .ok (.iload_n 3, 1) := by decide +kernel
theorem dL_law_273 : decode cL_law 273 = .ok (.iconst 1, 1) := by decide +kernel
theorem dL_law_274 : decode cL_law 274 = .ok (.iadd, 1) := by decide +kernel
theorem dL_law_275 : decode cL_law 275 = .ok (.iaload, 1) := by decide +kernel
theorem dL_law_276 : decode cL_law 276 = .ok (.aload_n 0, 1) := by decide +kernel
theorem dL_law_277 : decode cL_law 277 = .ok (.iload_n 3, 1) := by decide +kernel
theorem dL_law_278 : decode cL_law 278 = .ok (.iconst 2, 1) := by decide +kernel
theorem dL_law_279 : decode cL_law 279 = .ok (.iadd, 1) := by decide +kernel
theorem dL_law_280 : decode cL_law 280 = .ok (.iaload, 1) := by decide +kernel
theorem dL_law_281 : decode cL_law 281 = .ok (.invokevirtual 26, 3) := by decide +kernel
theorem dL_law_284 : decode cL_law 284 = .ok (.if_icmp .eq 1100, 3) := by decide +kernel
theorem dL_law_287 : decode cL_law 287 = .ok (.iconst 0, 1) := by decide +kernel
theorem dL_law_288 : decode cL_law 288 = .ok (.ireturn, 1) := by decide +kernel
theorem dL_law_289 : decode cL_law 289 = .ok (.aload_n 1, 1) := by decide +kernel
theorem dL_law_290 : decode cL_law 290 = .ok (.aload_n 0, 1) := by decide +kernel
theorem dL_law_291 : decode cL_law 291 = .ok (.iload_n 3, 1) := by decide +kernel
theorem dL_law_292 : decode cL_law 292 = .ok (.iconst 1, 1) := by decide +kernel
theorem dL_law_293 : decode cL_law 293 = .ok (.iadd, 1) := by decide +kernel
theorem dL_law_294 : decode cL_law 294 = .ok (.iaload, 1) := by decide +kernel
theorem dL_law_295 : decode cL_law 295 = .ok (.invokevirtual 27, 3) := by decide +kernel
theorem dL_law_298 : decode cL_law 298 = .ok (.aload_n 2, 1) := by decide +kernel
theorem dL_law_299 : decode cL_law 299 = .ok (.aload_n 0, 1) := by decide +kernel
theorem dL_law_300 : decode cL_law 300 = .ok (.iload_n 3, 1) := by decide +kernel
theorem dL_law_301 : decode cL_law 301 = .ok (.iconst 1, 1) := by decide +kernel
theorem dL_law_302 : decode cL_law 302 = .ok (.iadd, 1) := by decide +kernel
theorem dL_law_303 : decode cL_law 303 = .ok (.iaload, 1) := by decide +kernel
theorem dL_law_304 : decode cL_law 304 = .ok (.invokevirtual 30, 3) := by decide +kernel
theorem dL_law_307 : decode cL_law 307 = .ok (.if_icmp .eq 1077, 3) := by decide +kernel
theorem dL_law_310 : decode cL_law 310 = .ok (.iconst 0, 1) := by decide +kernel
theorem dL_law_311 : decode cL_law 311 = .ok (.ireturn, 1) := by decide +kernel
theorem dL_law_312 : decode cL_law 312 = .ok (.aload_n 1, 1) := by decide +kernel
theorem dL_law_313 : decode cL_law 313 = .ok (.aload_n 0, 1) := by decide +kernel
theorem dL_law_314 : decode cL_law 314 = .ok (.iload_n 3, 1) := by decide +kernel
theorem dL_law_315 : decode cL_law 315 = .ok (.iconst 1, 1) := by decide +kernel
theorem dL_law_316 : decode cL_law 316 = .ok (.iadd, 1) := by decide +kernel
theorem dL_law_317 : decode cL_law 317 = .ok (.iaload, 1) := by decide +kernel
theorem dL_law_318 : decode cL_law 318 = .ok (.aload_n 0, 1) := by decide +kernel
theorem dL_law_319 : decode cL_law 319 = .ok (.iload_n 3, 1) := by decide +kernel
theorem dL_law_320 : decode cL_law 320 = .ok (.iconst 2, 1) := by decide +kernel
theorem dL_law_321 : decode cL_law 321 = .ok (.iadd, 1) := by decide +kernel
theorem dL_law_322 : decode cL_law 322 = .ok (.iaload, 1) := by decide +kernel
theorem dL_law_323 : decode cL_law 323 = .ok (.invokevirtual 31, 3) := by decide +kernel
theorem dL_law_326 : decode cL_law 326 = .ok (.aload_n 2, 1) := by decide +kernel
theorem dL_law_327 : decode cL_law 327 = .ok (.aload_n 0, 1) := by decide +kernel
theorem dL_law_328 : decode cL_law 328 = .ok (.iload_n 3, 1) := by decide +kernel
theorem dL_law_329 : decode cL_law 329 = .ok (.iconst 1, 1) := by decide +kernel
theorem dL_law_330 : decode cL_law 330 = .ok (.iadd, 1) := by decide +kernel
theorem dL_law_331 : decode cL_law 331 = .ok (.iaload, 1) := by decide +kernel
theorem dL_law_332 : decode cL_law 332 = .ok (.aload_n 0, 1) := by decide +kernel
theorem dL_law_333 : decode cL_law 333 = .ok (.iload_n 3, 1) := by decide +kernel
theorem dL_law_334 : decode cL_law 334 = .ok (.iconst 2, 1) := by decide +kernel
theorem dL_law_335 : decode cL_law 335 = .ok (.iadd, 1) := by decide +kernel
theorem dL_law_336 : decode cL_law 336 = .ok (.iaload, 1) := by decide +kernel
theorem dL_law_337 : decode cL_law 337 = .ok (.invokevirtual 34, 3) := by decide +kernel
theorem dL_law_340 : decode cL_law 340 = .ok (.if_icmp .eq 1044, 3) := by decide +kernel
theorem dL_law_343 : decode cL_law 343 = .ok (.iconst 0, 1) := by decide +kernel
theorem dL_law_344 : decode cL_law 344 = .ok (.ireturn, 1) := by decide +kernel
theorem dL_law_345 : decode cL_law 345 = .ok (.aload_n 1, 1) := by decide +kernel
theorem dL_law_346 : decode cL_law 346 = .ok (.aload_n 0, 1) := by decide +kernel
theorem dL_law_347 : decode cL_law 347 = .ok (.iload_n 3, 1) := by decide +kernel
theorem dL_law_348 : decode cL_law 348 = .ok (.iconst 1, 1) := by decide +kernel
theorem dL_law_349 : decode cL_law 349 = .ok (.iadd, 1) := by decide +kernel
theorem dL_law_350 : decode cL_law 350 = .ok (.iaload, 1) := by decide +kernel
theorem dL_law_351 : decode cL_law 351 = .ok (.aload_n 0, 1) := by decide +kernel
theorem dL_law_352 : decode cL_law 352 = .ok (.iload_n 3, 1) := by decide +kernel
theorem dL_law_353 : decode cL_law 353 = .ok (.iconst 2, 1) := by decide +kernel
theorem dL_law_354 : decode cL_law 354 = .ok (.iadd, 1) := by decide +kernel
theorem dL_law_355 : decode cL_law 355 = .ok (.iaload, 1) := by decide +kernel
theorem dL_law_356 : decode cL_law 356 = .ok (.invokevirtual 35, 3) := by decide +kernel
theorem dL_law_359 : decode cL_law 359 = .ok (.aload_n 2, 1) := by decide +kernel
theorem dL_law_360 : decode cL_law 360 = .ok (.aload_n 0, 1) := by decide +kernel
theorem dL_law_361 : decode cL_law 361 = .ok (.iload_n 3, 1) := by decide +kernel
theorem dL_law_362 : decode cL_law 362 = .ok (.iconst 1, 1) := by decide +kernel
theorem dL_law_363 : decode cL_law 363 = .ok (.iadd, 1) := by decide +kernel
theorem dL_law_364 : decode cL_law 364 = .ok (.iaload, 1) := by decide +kernel
theorem dL_law_365 : decode cL_law 365 = .ok (.aload_n 0, 1) := by decide +kernel
theorem dL_law_366 : decode cL_law 366 = .ok (.iload_n 3, 1) := by decide +kernel
theorem dL_law_367 : decode cL_law 367 = .ok (.iconst 2, 1) := by decide +kernel
theorem dL_law_368 : decode cL_law 368 = .ok (.iadd, 1) := by decide +kernel
theorem dL_law_369 : decode cL_law 369 = .ok (.iaload, 1) := by decide +kernel
theorem dL_law_370 : decode cL_law 370 = .ok (.invokevirtual 38, 3) := by decide +kernel
theorem dL_law_373 : decode cL_law 373 = .ok (.if_icmp .eq 1011, 3) := by decide +kernel
theorem dL_law_376 : decode cL_law 376 = .ok (.iconst 0, 1) := by decide +kernel
theorem dL_law_377 : decode cL_law 377 = .ok (.ireturn, 1) := by decide +kernel
theorem dL_law_378 : decode cL_law 378 = .ok (.aload_n 1, 1) := by decide +kernel
theorem dL_law_379 : decode cL_law 379 = .ok (.aload_n 0, 1) := by decide +kernel
theorem dL_law_380 : decode cL_law 380 = .ok (.iload_n 3, 1) := by decide +kernel
theorem dL_law_381 : decode cL_law 381 = .ok (.iconst 1, 1) := by decide +kernel
theorem dL_law_382 : decode cL_law 382 = .ok (.iadd, 1) := by decide +kernel
theorem dL_law_383 : decode cL_law 383 = .ok (.iaload, 1) := by decide +kernel
theorem dL_law_384 : decode cL_law 384 = .ok (.aload_n 0, 1) := by decide +kernel
theorem dL_law_385 : decode cL_law 385 = .ok (.iload_n 3, 1) := by decide +kernel
theorem dL_law_386 : decode cL_law 386 = .ok (.iconst 2, 1) := by decide +kernel
theorem dL_law_387 : decode cL_law 387 = .ok (.iadd, 1) := by decide +kernel
theorem dL_law_388 : decode cL_law 388 = .ok (.iaload, 1) := by decide +kernel
theorem dL_law_389 : decode cL_law 389 = .ok (.invokevirtual 39, 3) := by decide +kernel
theorem dL_law_392 : decode cL_law 392 = .ok (.aload_n 2, 1) := by decide +kernel
theorem dL_law_393 : decode cL_law 393 = .ok (.aload_n 0, 1) := by decide +kernel
theorem dL_law_394 : decode cL_law 394 = .ok (.iload_n 3, 1) := by decide +kernel
theorem dL_law_395 : decode cL_law 395 = .ok (.iconst 1, 1) := by decide +kernel
theorem dL_law_396 : decode cL_law 396 = .ok (.iadd, 1) := by decide +kernel
theorem dL_law_397 : decode cL_law 397 = .ok (.iaload, 1) := by decide +kernel
theorem dL_law_398 : decode cL_law 398 = .ok (.aload_n 0, 1) := by decide +kernel
theorem dL_law_399 : decode cL_law 399 = .ok (.iload_n 3, 1) := by decide +kernel
theorem dL_law_400 : decode cL_law 400 = .ok (.iconst 2, 1) := by decide +kernel
theorem dL_law_401 : decode cL_law 401 = .ok (.iadd, 1) := by decide +kernel
theorem dL_law_402 : decode cL_law 402 = .ok (.iaload, 1) := by decide +kernel
theorem dL_law_403 : decode cL_law 403 = .ok (.invokevirtual 42, 3) := by decide +kernel
theorem dL_law_406 : decode cL_law 406 = .ok (.if_icmp .eq 978, 3) := by decide +kernel
theorem dL_law_409 : decode cL_law 409 = .ok (.iconst 0, 1) := by decide +kernel
theorem dL_law_410 : decode cL_law 410 = .ok (.ireturn, 1) := by decide +kernel
theorem dL_law_411 : decode cL_law 411 = .ok (.aload_n 1, 1) := by decide +kernel
theorem dL_law_412 : decode cL_law 412 = .ok (.aload_n 0, 1) := by decide +kernel
theorem dL_law_413 : decode cL_law 413 = .ok (.iload_n 3, 1) := by decide +kernel
theorem dL_law_414 : decode cL_law 414 = .ok (.iconst 1, 1) := by decide +kernel
theorem dL_law_415 : decode cL_law 415 = .ok (.iadd, 1) := by decide +kernel
theorem dL_law_416 : decode cL_law 416 = .ok (.iaload, 1) := by decide +kernel
theorem dL_law_417 : decode cL_law 417 = .ok (.invokevirtual 43, 3) := by decide +kernel
theorem dL_law_420 : decode cL_law 420 = .ok (.aload_n 2, 1) := by decide +kernel
theorem dL_law_421 : decode cL_law 421 = .ok (.aload_n 0, 1) := by decide +kernel
theorem dL_law_422 : decode cL_law 422 = .ok (.iload_n 3, 1) := by decide +kernel
theorem dL_law_423 : decode cL_law 423 = .ok (.iconst 1, 1) := by decide +kernel
theorem dL_law_424 : decode cL_law 424 = .ok (.iadd, 1) := by decide +kernel
theorem dL_law_425 : decode cL_law 425 = .ok (.iaload, 1) := by decide +kernel
theorem dL_law_426 : decode cL_law 426 = .ok (.invokevirtual 46, 3) := by decide +kernel
theorem dL_law_429 : decode cL_law 429 = .ok (.if_icmp .eq 955, 3) := by decide +kernel
theorem dL_law_432 : decode cL_law 432 = .ok (.iconst 0, 1) := by decide +kernel
theorem dL_law_433 : decode cL_law 433 = .ok (.ireturn, 1) := by decide +kernel
theorem dL_law_434 : decode cL_law 434 = .ok (.aload_n 1, 1) := by decide +kernel
theorem dL_law_435 : decode cL_law 435 = .ok (.aload_n 0, 1) := by decide +kernel
theorem dL_law_436 : decode cL_law 436 = .ok (.iload_n 3, 1) := by decide +kernel
theorem dL_law_437 : decode cL_law 437 = .ok (.iconst 1, 1) := by decide +kernel
theorem dL_law_438 : decode cL_law 438 = .ok (.iadd, 1) := by decide +kernel
theorem dL_law_439 : decode cL_law 439 = .ok (.iaload, 1) := by decide +kernel
theorem dL_law_440 : decode cL_law 440 = .ok (.invokevirtual 47, 3) := by decide +kernel
theorem dL_law_443 : decode cL_law 443 = .ok (.aload_n 2, 1) := by decide +kernel
theorem dL_law_444 : decode cL_law 444 = .ok (.aload_n 0, 1) := by decide +kernel
theorem dL_law_445 : decode cL_law 445 = .ok (.iload_n 3, 1) := by decide +kernel
theorem dL_law_446 : decode cL_law 446 = .ok (.iconst 1, 1) := by decide +kernel
theorem dL_law_447 : decode cL_law 447 = .ok (.iadd, 1) := by decide +kernel
theorem dL_law_448 : decode cL_law 448 = .ok (.iaload, 1) := by decide +kernel
theorem dL_law_449 : decode cL_law 449 = .ok (.invokevirtual 50, 3) := by decide +kernel
theorem dL_law_452 : decode cL_law 452 = .ok (.if_icmp .eq 932, 3) := by decide +kernel
theorem dL_law_455 : decode cL_law 455 = .ok (.iconst 0, 1) := by decide +kernel
theorem dL_law_456 : decode cL_law 456 = .ok (.ireturn, 1) := by decide +kernel
theorem dL_law_457 : decode cL_law 457 = .ok (.aload_n 1, 1) := by decide +kernel
theorem dL_law_458 : decode cL_law 458 = .ok (.invokevirtual 51, 3) := by decide +kernel
theorem dL_law_461 : decode cL_law 461 = .ok (.aload_n 2, 1) := by decide +kernel
theorem dL_law_462 : decode cL_law 462 = .ok (.invokevirtual 55, 3) := by decide +kernel
theorem dL_law_465 : decode cL_law 465 = .ok (.if_icmp .eq 919, 3) := by decide +kernel
theorem dL_law_468 : decode cL_law 468 = .ok (.iconst 0, 1) := by decide +kernel
theorem dL_law_469 : decode cL_law 469 = .ok (.ireturn, 1) := by decide +kernel
theorem dL_law_470 : decode cL_law 470 = .ok (.aload_n 1, 1) := by decide +kernel
theorem dL_law_471 : decode cL_law 471 = .ok (.aload_n 0, 1) := by decide +kernel
theorem dL_law_472 : decode cL_law 472 = .ok (.iload_n 3, 1) := by decide +kernel
theorem dL_law_473 : decode cL_law 473 = .ok (.iconst 1, 1) := by decide +kernel
theorem dL_law_474 : decode cL_law 474 = .ok (.iadd, 1) := by decide +kernel
theorem dL_law_475 : decode cL_law 475 = .ok (.iaload, 1) := by decide +kernel
theorem dL_law_476 : decode cL_law 476 = .ok (.invokevirtual 56, 3) := by decide +kernel
theorem dL_law_479 : decode cL_law 479 = .ok (.aload_n 2, 1) := by decide +kernel
theorem dL_law_480 : decode cL_law 480 = .ok (.aload_n 0, 1) := by decide +kernel
theorem dL_law_481 : decode cL_law 481 = .ok (.iload_n 3, 1) := by decide +kernel
theorem dL_law_482 : decode cL_law 482 = .ok (.iconst 1, 1) := by decide +kernel
theorem dL_law_483 : decode cL_law 483 = .ok (.iadd, 1) := by decide +kernel
theorem dL_law_484 : decode cL_law 484 = .ok (.iaload, 1) := by decide +kernel
theorem dL_law_485 : decode cL_law 485 = .ok (.invokevirtual 59, 3) := by decide +kernel
theorem dL_law_488 : decode cL_law 488 = .ok (.if_icmp .eq 896, 3) := by decide +kernel
theorem dL_law_491 : decode cL_law 491 = .ok (.iconst 0, 1) := by decide +kernel
theorem dL_law_492 : decode cL_law 492 = .ok (.ireturn, 1) := by decide +kernel
theorem dL_law_493 : decode cL_law 493 = .ok (.aload_n 1, 1) := by decide +kernel
theorem dL_law_494 : decode cL_law 494 = .ok (.aload_n 0, 1) := by decide +kernel
theorem dL_law_495 : decode cL_law 495 = .ok (.iload_n 3, 1) := by decide +kernel
theorem dL_law_496 : decode cL_law 496 = .ok (.iconst 1, 1) := by decide +kernel
theorem dL_law_497 : decode cL_law 497 = .ok (.iadd, 1) := by decide +kernel
theorem dL_law_498 : decode cL_law 498 = .ok (.iaload, 1) := by decide +kernel
theorem dL_law_499 : decode cL_law 499 = .ok (.invokevirtual 60, 3) := by decide +kernel
theorem dL_law_502 : decode cL_law 502 = .ok (.aload_n 2, 1) := by decide +kernel
theorem dL_law_503 : decode cL_law 503 = .ok (.aload_n 0, 1) := by decide +kernel
theorem dL_law_504 : decode cL_law 504 = .ok (.iload_n 3, 1) := by decide +kernel
theorem dL_law_505 : decode cL_law 505 = .ok (.iconst 1, 1) := by decide +kernel
theorem dL_law_506 : decode cL_law 506 = .ok (.iadd, 1) := by decide +kernel
theorem dL_law_507 : decode cL_law 507 = .ok (.iaload, 1) := by decide +kernel
theorem dL_law_508 : decode cL_law 508 = .ok (.invokevirtual 63, 3) := by decide +kernel
theorem dL_law_511 : decode cL_law 511 = .ok (.if_icmp .eq 873, 3) := by decide +kernel
theorem dL_law_514 : decode cL_law 514 = .ok (.iconst 0, 1) := by decide +kernel
theorem dL_law_515 : decode cL_law 515 = .ok (.ireturn, 1) := by decide +kernel
theorem dL_law_516 : decode cL_law 516 = .ok (.aload_n 1, 1) := by decide +kernel
theorem dL_law_517 : decode cL_law 517 = .ok (.aload_n 0, 1) := by decide +kernel
theorem dL_law_518 : decode cL_law 518 = .ok (.iload_n 3, 1) := by decide +kernel
theorem dL_law_519 : decode cL_law 519 = .ok (.iconst 1, 1) := by decide +kernel
theorem dL_law_520 : decode cL_law 520 = .ok (.iadd, 1) := by decide +kernel
theorem dL_law_521 : decode cL_law 521 = .ok (.iaload, 1) := by decide +kernel
theorem dL_law_522 : decode cL_law 522 = .ok (.aload_n 0, 1) := by decide +kernel
theorem dL_law_523 : decode cL_law 523 = .ok (.iload_n 3, 1) := by decide +kernel
theorem dL_law_524 : decode cL_law 524 = .ok (.iconst 2, 1) := by decide +kernel
theorem dL_law_525 : decode cL_law 525 = .ok (.iadd, 1) := by decide +kernel
theorem dL_law_526 : decode cL_law 526 = .ok (.iaload, 1) := by decide +kernel
theorem dL_law_527 : decode cL_law 527 = .ok (.invokevirtual 64, 3) := by decide +kernel
theorem dL_law_530 : decode cL_law 530 = .ok (.aload_n 2, 1) := by decide +kernel
theorem dL_law_531 : decode cL_law 531 = .ok (.aload_n 0, 1) := by decide +kernel
theorem dL_law_532 : decode cL_law 532 = .ok (.iload_n 3, 1) := by decide +kernel
theorem dL_law_533 : decode cL_law 533 = .ok (.iconst 1, 1) := by decide +kernel
theorem dL_law_534 : decode cL_law 534 = .ok (.iadd, 1) := by decide +kernel
theorem dL_law_535 : decode cL_law 535 = .ok (.iaload, 1) := by decide +kernel
theorem dL_law_536 : decode cL_law 536 = .ok (.aload_n 0, 1) := by decide +kernel
theorem dL_law_537 : decode cL_law 537 = .ok (.iload_n 3, 1) := by decide +kernel
theorem dL_law_538 : decode cL_law 538 = .ok (.iconst 2, 1) := by decide +kernel
theorem dL_law_539 : decode cL_law 539 = .ok (.iadd, 1) := by decide +kernel
theorem dL_law_540 : decode cL_law 540 = .ok (.iaload, 1) := by decide +kernel
theorem dL_law_541 : decode cL_law 541 = .ok (.invokevirtual 67, 3) := by decide +kernel
theorem dL_law_544 : decode cL_law 544 = .ok (.if_icmp .eq 840, 3) := by decide +kernel
theorem dL_law_547 : decode cL_law 547 = .ok (.iconst 0, 1) := by decide +kernel
theorem dL_law_548 : decode cL_law 548 = .ok (.ireturn, 1) := by decide +kernel
theorem dL_law_549 : decode cL_law 549 = .ok (.aload_n 1, 1) := by decide +kernel
theorem dL_law_550 : decode cL_law 550 = .ok (.aload_n 0, 1) := by decide +kernel
theorem dL_law_551 : decode cL_law 551 = .ok (.iload_n 3, 1) := by decide +kernel
theorem dL_law_552 : decode cL_law 552 = .ok (.iconst 1, 1) := by decide +kernel
theorem dL_law_553 : decode cL_law 553 = .ok (.iadd, 1) := by decide +kernel
theorem dL_law_554 : decode cL_law 554 = .ok (.iaload, 1) := by decide +kernel
theorem dL_law_555 : decode cL_law 555 = .ok (.aload_n 0, 1) := by decide +kernel
theorem dL_law_556 : decode cL_law 556 = .ok (.iload_n 3, 1) := by decide +kernel
theorem dL_law_557 : decode cL_law 557 = .ok (.iconst 2, 1) := by decide +kernel
theorem dL_law_558 : decode cL_law 558 = .ok (.iadd, 1) := by decide +kernel
theorem dL_law_559 : decode cL_law 559 = .ok (.iaload, 1) := by decide +kernel
theorem dL_law_560 : decode cL_law 560 = .ok (.invokevirtual 68, 3) := by decide +kernel
theorem dL_law_563 : decode cL_law 563 = .ok (.aload_n 2, 1) := by decide +kernel
theorem dL_law_564 : decode cL_law 564 = .ok (.aload_n 0, 1) := by decide +kernel
theorem dL_law_565 : decode cL_law 565 = .ok (.iload_n 3, 1) := by decide +kernel
theorem dL_law_566 : decode cL_law 566 = .ok (.iconst 1, 1) := by decide +kernel
theorem dL_law_567 : decode cL_law 567 = .ok (.iadd, 1) := by decide +kernel
theorem dL_law_568 : decode cL_law 568 = .ok (.iaload, 1) := by decide +kernel
theorem dL_law_569 : decode cL_law 569 = .ok (.aload_n 0, 1) := by decide +kernel
theorem dL_law_570 : decode cL_law 570 = .ok (.iload_n 3, 1) := by decide +kernel
theorem dL_law_571 : decode cL_law 571 = .ok (.iconst 2, 1) := by decide +kernel
theorem dL_law_572 : decode cL_law 572 = .ok (.iadd, 1) := by decide +kernel
theorem dL_law_573 : decode cL_law 573 = .ok (.iaload, 1) := by decide +kernel
theorem dL_law_574 : decode cL_law 574 = .ok (.invokevirtual 71, 3) := by decide +kernel
theorem dL_law_577 : decode cL_law 577 = .ok (.if_icmp .eq 807, 3) := by decide +kernel
theorem dL_law_580 : decode cL_law 580 = .ok (.iconst 0, 1) := by decide +kernel
theorem dL_law_581 : decode cL_law 581 = .ok (.ireturn, 1) := by decide +kernel
theorem dL_law_582 : decode cL_law 582 = .ok (.aload_n 1, 1) := by decide +kernel
theorem dL_law_583 : decode cL_law 583 = .ok (.aload_n 0, 1) := by decide +kernel
theorem dL_law_584 : decode cL_law 584 = .ok (.iload_n 3, 1) := by decide +kernel
theorem dL_law_585 : decode cL_law 585 = .ok (.iconst 1, 1) := by decide +kernel
theorem dL_law_586 : decode cL_law 586 = .ok (.iadd, 1) := by decide +kernel
theorem dL_law_587 : decode cL_law 587 = .ok (.iaload, 1) := by decide +kernel
theorem dL_law_588 : decode cL_law 588 = .ok (.invokevirtual 72, 3) := by decide +kernel
theorem dL_law_591 : decode cL_law 591 = .ok (.aload_n 2, 1) := by decide +kernel
theorem dL_law_592 : decode cL_law 592 = .ok (.aload_n 0, 1) := by decide +kernel
theorem dL_law_593 : decode cL_law 593 = .ok (.iload_n 3, 1) := by decide +kernel
theorem dL_law_594 : decode cL_law 594 = .ok (.iconst 1, 1) := by decide +kernel
theorem dL_law_595 : decode cL_law 595 = .ok (.iadd, 1) := by decide +kernel
theorem dL_law_596 : decode cL_law 596 = .ok (.iaload, 1) := by decide +kernel
theorem dL_law_597 : decode cL_law 597 = .ok (.invokevirtual 75, 3) := by decide +kernel
theorem dL_law_600 : decode cL_law 600 = .ok (.if_icmp .eq 784, 3) := by decide +kernel
theorem dL_law_603 : decode cL_law 603 = .ok (.iconst 0, 1) := by decide +kernel
theorem dL_law_604 : decode cL_law 604 = .ok (.ireturn, 1) := by decide +kernel
theorem dL_law_605 : decode cL_law 605 = .ok (.aload_n 1, 1) := by decide +kernel
theorem dL_law_606 : decode cL_law 606 = .ok (.invokevirtual 76, 3) := by decide +kernel
theorem dL_law_609 : decode cL_law 609 = .ok (.aload_n 2, 1) := by decide +kernel
theorem dL_law_610 : decode cL_law 610 = .ok (.invokevirtual 79, 3) := by decide +kernel
theorem dL_law_613 : decode cL_law 613 = .ok (.if_icmp .eq 771, 3) := by decide +kernel
theorem dL_law_616 : decode cL_law 616 = .ok (.iconst 0, 1) := by decide +kernel
theorem dL_law_617 : decode cL_law 617 = .ok (.ireturn, 1) := by decide +kernel
theorem dL_law_618 : decode cL_law 618 = .ok (.aload_n 1, 1) := by decide +kernel
theorem dL_law_619 : decode cL_law 619 = .ok (.aload_n 0, 1) := by decide +kernel
theorem dL_law_620 : decode cL_law 620 = .ok (.iload_n 3, 1) := by decide +kernel
theorem dL_law_621 : decode cL_law 621 = .ok (.iconst 1, 1) := by decide +kernel
theorem dL_law_622 : decode cL_law 622 = .ok (.iadd, 1) := by decide +kernel
theorem dL_law_623 : decode cL_law 623 = .ok (.iaload, 1) := by decide +kernel
theorem dL_law_624 : decode cL_law 624 = .ok (.invokevirtual 80, 3) := by decide +kernel
theorem dL_law_627 : decode cL_law 627 = .ok (.aload_n 2, 1) := by decide +kernel
theorem dL_law_628 : decode cL_law 628 = .ok (.aload_n 0, 1) := by decide +kernel
theorem dL_law_629 : decode cL_law 629 = .ok (.iload_n 3, 1) := by decide +kernel
theorem dL_law_630 : decode cL_law 630 = .ok (.iconst 1, 1) := by decide +kernel
theorem dL_law_631 : decode cL_law 631 = .ok (.iadd, 1) := by decide +kernel
theorem dL_law_632 : decode cL_law 632 = .ok (.iaload, 1) := by decide +kernel
theorem dL_law_633 : decode cL_law 633 = .ok (.invokevirtual 83, 3) := by decide +kernel
theorem dL_law_636 : decode cL_law 636 = .ok (.if_icmp .eq 748, 3) := by decide +kernel
theorem dL_law_639 : decode cL_law 639 = .ok (.iconst 0, 1) := by decide +kernel
theorem dL_law_640 : decode cL_law 640 = .ok (.ireturn, 1) := by decide +kernel
theorem dL_law_641 : decode cL_law 641 = .ok (.aload_n 1, 1) := by decide +kernel
theorem dL_law_642 : decode cL_law 642 = .ok (.aload_n 0, 1) := by decide +kernel
theorem dL_law_643 : decode cL_law 643 = .ok (.iload_n 3, 1) := by decide +kernel
theorem dL_law_644 : decode cL_law 644 = .ok (.iconst 1, 1) := by decide +kernel
theorem dL_law_645 : decode cL_law 645 = .ok (.iadd, 1) := by decide +kernel
theorem dL_law_646 : decode cL_law 646 = .ok (.iaload, 1) := by decide +kernel
theorem dL_law_647 : decode cL_law 647 = .ok (.invokevirtual 84, 3) := by decide +kernel
theorem dL_law_650 : decode cL_law 650 = .ok (.aload_n 2, 1) := by decide +kernel
theorem dL_law_651 : decode cL_law 651 = .ok (.aload_n 0, 1) := by decide +kernel
theorem dL_law_652 : decode cL_law 652 = .ok (.iload_n 3, 1) := by decide +kernel
theorem dL_law_653 : decode cL_law 653 = .ok (.iconst 1, 1) := by decide +kernel
theorem dL_law_654 : decode cL_law 654 = .ok (.iadd, 1) := by decide +kernel
theorem dL_law_655 : decode cL_law 655 = .ok (.iaload, 1) := by decide +kernel
theorem dL_law_656 : decode cL_law 656 = .ok (.invokevirtual 87, 3) := by decide +kernel
theorem dL_law_659 : decode cL_law 659 = .ok (.if_icmp .eq 725, 3) := by decide +kernel
theorem dL_law_662 : decode cL_law 662 = .ok (.iconst 0, 1) := by decide +kernel
theorem dL_law_663 : decode cL_law 663 = .ok (.ireturn, 1) := by decide +kernel
theorem dL_law_664 : decode cL_law 664 = .ok (.aload_n 1, 1) := by decide +kernel
theorem dL_law_665 : decode cL_law 665 = .ok (.aload_n 0, 1) := by decide +kernel
theorem dL_law_666 : decode cL_law 666 = .ok (.iload_n 3, 1) := by decide +kernel
theorem dL_law_667 : decode cL_law 667 = .ok (.iconst 1, 1) := by decide +kernel
theorem dL_law_668 : decode cL_law 668 = .ok (.iadd, 1) := by decide +kernel
theorem dL_law_669 : decode cL_law 669 = .ok (.iaload, 1) := by decide +kernel
theorem dL_law_670 : decode cL_law 670 = .ok (.invokevirtual 88, 3) := by decide +kernel
theorem dL_law_673 : decode cL_law 673 = .ok (.aload_n 2, 1) := by decide +kernel
theorem dL_law_674 : decode cL_law 674 = .ok (.aload_n 0, 1) := by decide +kernel
theorem dL_law_675 : decode cL_law 675 = .ok (.iload_n 3, 1) := by decide +kernel
theorem dL_law_676 : decode cL_law 676 = .ok (.iconst 1, 1) := by decide +kernel
theorem dL_law_677 : decode cL_law 677 = .ok (.iadd, 1) := by decide +kernel
theorem dL_law_678 : decode cL_law 678 = .ok (.iaload, 1) := by decide +kernel
theorem dL_law_679 : decode cL_law 679 = .ok (.invokevirtual 91, 3) := by decide +kernel
theorem dL_law_682 : decode cL_law 682 = .ok (.if_icmp .eq 702, 3) := by decide +kernel
theorem dL_law_685 : decode cL_law 685 = .ok (.iconst 0, 1) := by decide +kernel
theorem dL_law_686 : decode cL_law 686 = .ok (.ireturn, 1) := by decide +kernel
theorem dL_law_687 : decode cL_law 687 = .ok (.aload_n 1, 1) := by decide +kernel
theorem dL_law_688 : decode cL_law 688 = .ok (.aload_n 0, 1) := by decide +kernel
theorem dL_law_689 : decode cL_law 689 = .ok (.iload_n 3, 1) := by decide +kernel
theorem dL_law_690 : decode cL_law 690 = .ok (.iconst 1, 1) := by decide +kernel
theorem dL_law_691 : decode cL_law 691 = .ok (.iadd, 1) := by decide +kernel
theorem dL_law_692 : decode cL_law 692 = .ok (.iaload, 1) := by decide +kernel
theorem dL_law_693 : decode cL_law 693 = .ok (.aload_n 0, 1) := by decide +kernel
theorem dL_law_694 : decode cL_law 694 = .ok (.iload_n 3, 1) := by decide +kernel
theorem dL_law_695 : decode cL_law 695 = .ok (.iconst 2, 1) := by decide +kernel
theorem dL_law_696 : decode cL_law 696 = .ok (.iadd, 1) := by decide +kernel
theorem dL_law_697 : decode cL_law 697 = .ok (.iaload, 1) := by decide +kernel
theorem dL_law_698 : decode cL_law 698 = .ok (.invokevirtual 92, 3) := by decide +kernel
theorem dL_law_701 : decode cL_law 701 = .ok (.aload_n 2, 1) := by decide +kernel
theorem dL_law_702 : decode cL_law 702 = .ok (.aload_n 0, 1) := by decide +kernel
theorem dL_law_703 : decode cL_law 703 = .ok (.iload_n 3, 1) := by decide +kernel
theorem dL_law_704 : decode cL_law 704 = .ok (.iconst 1, 1) := by decide +kernel
theorem dL_law_705 : decode cL_law 705 = .ok (.iadd, 1) := by decide +kernel
theorem dL_law_706 : decode cL_law 706 = .ok (.iaload, 1) := by decide +kernel
theorem dL_law_707 : decode cL_law 707 = .ok (.aload_n 0, 1) := by decide +kernel
theorem dL_law_708 : decode cL_law 708 = .ok (.iload_n 3, 1) := by decide +kernel
theorem dL_law_709 : decode cL_law 709 = .ok (.iconst 2, 1) := by decide +kernel
theorem dL_law_710 : decode cL_law 710 = .ok (.iadd, 1) := by decide +kernel
theorem dL_law_711 : decode cL_law 711 = .ok (.iaload, 1) := by decide +kernel
theorem dL_law_712 : decode cL_law 712 = .ok (.invokevirtual 95, 3) := by decide +kernel
theorem dL_law_715 : decode cL_law 715 = .ok (.if_icmp .eq 669, 3) := by decide +kernel
theorem dL_law_718 : decode cL_law 718 = .ok (.iconst 0, 1) := by decide +kernel
theorem dL_law_719 : decode cL_law 719 = .ok (.ireturn, 1) := by decide +kernel
theorem dL_law_720 : decode cL_law 720 = .ok (.aload_n 1, 1) := by decide +kernel
theorem dL_law_721 : decode cL_law 721 = .ok (.invokevirtual 96, 3) := by decide +kernel
theorem dL_law_724 : decode cL_law 724 = .ok (.aload_n 2, 1) := by decide +kernel
theorem dL_law_725 : decode cL_law 725 = .ok (.invokevirtual 99, 3) := by decide +kernel
theorem dL_law_728 : decode cL_law 728 = .ok (.if_icmp .eq 656, 3) := by decide +kernel
theorem dL_law_731 : decode cL_law 731 = .ok (.iconst 0, 1) := by decide +kernel
theorem dL_law_732 : decode cL_law 732 = .ok (.ireturn, 1) := by decide +kernel
theorem dL_law_733 : decode cL_law 733 = .ok (.aload_n 1, 1) := by decide +kernel
theorem dL_law_734 : decode cL_law 734 = .ok (.aload_n 0, 1) := by decide +kernel
theorem dL_law_735 : decode cL_law 735 = .ok (.iload_n 3, 1) := by decide +kernel
theorem dL_law_736 : decode cL_law 736 = .ok (.iconst 1, 1) := by decide +kernel
theorem dL_law_737 : decode cL_law 737 = .ok (.iadd, 1) := by decide +kernel
theorem dL_law_738 : decode cL_law 738 = .ok (.iaload, 1) := by decide +kernel
theorem dL_law_739 : decode cL_law 739 = .ok (.aload_n 0, 1) := by decide +kernel
theorem dL_law_740 : decode cL_law 740 = .ok (.iload_n 3, 1) := by decide +kernel
theorem dL_law_741 : decode cL_law 741 = .ok (.iconst 2, 1) := by decide +kernel
theorem dL_law_742 : decode cL_law 742 = .ok (.iadd, 1) := by decide +kernel
theorem dL_law_743 : decode cL_law 743 = .ok (.iaload, 1) := by decide +kernel
theorem dL_law_744 : decode cL_law 744 = .ok (.invokevirtual 100, 3) := by decide +kernel
theorem dL_law_747 : decode cL_law 747 = .ok (.aload_n 2, 1) := by decide +kernel
theorem dL_law_748 : decode cL_law 748 = .ok (.aload_n 0, 1) := by decide +kernel
theorem dL_law_749 : decode cL_law 749 = .ok (.iload_n 3, 1) := by decide +kernel
theorem dL_law_750 : decode cL_law 750 = .ok (.iconst 1, 1) := by decide +kernel
theorem dL_law_751 : decode cL_law 751 = .ok (.iadd, 1) := by decide +kernel
theorem dL_law_752 : decode cL_law 752 = .ok (.iaload, 1) := by decide +kernel
theorem dL_law_753 : decode cL_law 753 = .ok (.aload_n 0, 1) := by decide +kernel
theorem dL_law_754 : decode cL_law 754 = .ok (.iload_n 3, 1) := by decide +kernel
theorem dL_law_755 : decode cL_law 755 = .ok (.iconst 2, 1) := by decide +kernel
theorem dL_law_756 : decode cL_law 756 = .ok (.iadd, 1) := by decide +kernel
theorem dL_law_757 : decode cL_law 757 = .ok (.iaload, 1) := by decide +kernel
theorem dL_law_758 : decode cL_law 758 = .ok (.invokevirtual 103, 3) := by decide +kernel
theorem dL_law_761 : decode cL_law 761 = .ok (.if_icmp .eq 623, 3) := by decide +kernel
theorem dL_law_764 : decode cL_law 764 = .ok (.iconst 0, 1) := by decide +kernel
theorem dL_law_765 : decode cL_law 765 = .ok (.ireturn, 1) := by decide +kernel
theorem dL_law_766 : decode cL_law 766 = .ok (.aload_n 1, 1) := by decide +kernel
theorem dL_law_767 : decode cL_law 767 = .ok (.aload_n 0, 1) := by decide +kernel
theorem dL_law_768 : decode cL_law 768 = .ok (.iload_n 3, 1) := by decide +kernel
theorem dL_law_769 : decode cL_law 769 = .ok (.iconst 1, 1) := by decide +kernel
theorem dL_law_770 : decode cL_law 770 = .ok (.iadd, 1) := by decide +kernel
theorem dL_law_771 : decode cL_law 771 = .ok (.iaload, 1) := by decide +kernel
theorem dL_law_772 : decode cL_law 772 = .ok (.aload_n 0, 1) := by decide +kernel
theorem dL_law_773 : decode cL_law 773 = .ok (.iload_n 3, 1) := by decide +kernel
theorem dL_law_774 : decode cL_law 774 = .ok (.iconst 2, 1) := by decide +kernel
theorem dL_law_775 : decode cL_law 775 = .ok (.iadd, 1) := by decide +kernel
theorem dL_law_776 : decode cL_law 776 = .ok (.iaload, 1) := by decide +kernel
theorem dL_law_777 : decode cL_law 777 = .ok (.aload_n 0, 1) := by decide +kernel
theorem dL_law_778 : decode cL_law 778 = .ok (.iload_n 3, 1) := by decide +kernel
theorem dL_law_779 : decode cL_law 779 = .ok (.iconst 3, 1) := by decide +kernel
theorem dL_law_780 : decode cL_law 780 = .ok (.iadd, 1) := by decide +kernel
theorem dL_law_781 : decode cL_law 781 = .ok (.iaload, 1) := by decide +kernel
theorem dL_law_782 : decode cL_law 782 = .ok (.invokevirtual 104, 3) := by decide +kernel
theorem dL_law_785 : decode cL_law 785 = .ok (.aload_n 2, 1) := by decide +kernel
theorem dL_law_786 : decode cL_law 786 = .ok (.aload_n 0, 1) := by decide +kernel
theorem dL_law_787 : decode cL_law 787 = .ok (.iload_n 3, 1) := by decide +kernel
theorem dL_law_788 : decode cL_law 788 = .ok (.iconst 1, 1) := by decide +kernel
theorem dL_law_789 : decode cL_law 789 = .ok (.iadd, 1) := by decide +kernel
theorem dL_law_790 : decode cL_law 790 = .ok (.iaload, 1) := by decide +kernel
theorem dL_law_791 : decode cL_law 791 = .ok (.aload_n 0, 1) := by decide +kernel
theorem dL_law_792 : decode cL_law 792 = .ok (.iload_n 3, 1) := by decide +kernel
theorem dL_law_793 : decode cL_law 793 = .ok (.iconst 2, 1) := by decide +kernel
theorem dL_law_794 : decode cL_law 794 = .ok (.iadd, 1) := by decide +kernel
theorem dL_law_795 : decode cL_law 795 = .ok (.iaload, 1) := by decide +kernel
theorem dL_law_796 : decode cL_law 796 = .ok (.aload_n 0, 1) := by decide +kernel
theorem dL_law_797 : decode cL_law 797 = .ok (.iload_n 3, 1) := by decide +kernel
theorem dL_law_798 : decode cL_law 798 = .ok (.iconst 3, 1) := by decide +kernel
theorem dL_law_799 : decode cL_law 799 = .ok (.iadd, 1) := by decide +kernel
theorem dL_law_800 : decode cL_law 800 = .ok (.iaload, 1) := by decide +kernel
theorem dL_law_801 : decode cL_law 801 = .ok (.invokevirtual 108, 3) := by decide +kernel
theorem dL_law_804 : decode cL_law 804 = .ok (.if_icmp .eq 580, 3) := by decide +kernel
theorem dL_law_807 : decode cL_law 807 = .ok (.iconst 0, 1) := by decide +kernel
theorem dL_law_808 : decode cL_law 808 = .ok (.ireturn, 1) := by decide +kernel
theorem dL_law_809 : decode cL_law 809 = .ok (.aload_n 1, 1) := by decide +kernel
theorem dL_law_810 : decode cL_law 810 = .ok (.aload_n 0, 1) := by decide +kernel
theorem dL_law_811 : decode cL_law 811 = .ok (.iload_n 3, 1) := by decide +kernel
theorem dL_law_812 : decode cL_law 812 = .ok (.iconst 1, 1) := by decide +kernel
theorem dL_law_813 : decode cL_law 813 = .ok (.iadd, 1) := by decide +kernel
theorem dL_law_814 : decode cL_law 814 = .ok (.iaload, 1) := by decide +kernel
theorem dL_law_815 : decode cL_law 815 = .ok (.aload_n 0, 1) := by decide +kernel
theorem dL_law_816 : decode cL_law 816 = .ok (.iload_n 3, 1) := by decide +kernel
theorem dL_law_817 : decode cL_law 817 = .ok (.iconst 2, 1) := by decide +kernel
theorem dL_law_818 : decode cL_law 818 = .ok (.iadd, 1) := by decide +kernel
theorem dL_law_819 : decode cL_law 819 = .ok (.iaload, 1) := by decide +kernel
theorem dL_law_820 : decode cL_law 820 = .ok (.invokevirtual 109, 3) := by decide +kernel
theorem dL_law_823 : decode cL_law 823 = .ok (.aload_n 2, 1) := by decide +kernel
theorem dL_law_824 : decode cL_law 824 = .ok (.aload_n 0, 1) := by decide +kernel
theorem dL_law_825 : decode cL_law 825 = .ok (.iload_n 3, 1) := by decide +kernel
theorem dL_law_826 : decode cL_law 826 = .ok (.iconst 1, 1) := by decide +kernel
theorem dL_law_827 : decode cL_law 827 = .ok (.iadd, 1) := by decide +kernel
theorem dL_law_828 : decode cL_law 828 = .ok (.iaload, 1) := by decide +kernel
theorem dL_law_829 : decode cL_law 829 = .ok (.aload_n 0, 1) := by decide +kernel
theorem dL_law_830 : decode cL_law 830 = .ok (.iload_n 3, 1) := by decide +kernel
theorem dL_law_831 : decode cL_law 831 = .ok (.iconst 2, 1) := by decide +kernel
theorem dL_law_832 : decode cL_law 832 = .ok (.iadd, 1) := by decide +kernel
theorem dL_law_833 : decode cL_law 833 = .ok (.iaload, 1) := by decide +kernel
theorem dL_law_834 : decode cL_law 834 = .ok (.invokevirtual 112, 3) := by decide +kernel
theorem dL_law_837 : decode cL_law 837 = .ok (.if_icmp .eq 547, 3) := by decide +kernel
theorem dL_law_840 : decode cL_law 840 = .ok (.iconst 0, 1) := by decide +kernel
theorem dL_law_841 : decode cL_law 841 = .ok (.ireturn, 1) := by decide +kernel
theorem dL_law_842 : decode cL_law 842 = .ok (.aload_n 1, 1) := by decide +kernel
theorem dL_law_843 : decode cL_law 843 = .ok (.aload_n 0, 1) := by decide +kernel
theorem dL_law_844 : decode cL_law 844 = .ok (.iload_n 3, 1) := by decide +kernel
theorem dL_law_845 : decode cL_law 845 = .ok (.iconst 1, 1) := by decide +kernel
theorem dL_law_846 : decode cL_law 846 = .ok (.iadd, 1) := by decide +kernel
theorem dL_law_847 : decode cL_law 847 = .ok (.iaload, 1) := by decide +kernel
theorem dL_law_848 : decode cL_law 848 = .ok (.invokevirtual 113, 3) := by decide +kernel
theorem dL_law_851 : decode cL_law 851 = .ok (.aload_n 2, 1) := by decide +kernel
theorem dL_law_852 : decode cL_law 852 = .ok (.aload_n 0, 1) := by decide +kernel
theorem dL_law_853 : decode cL_law 853 = .ok (.iload_n 3, 1) := by decide +kernel
theorem dL_law_854 : decode cL_law 854 = .ok (.iconst 1, 1) := by decide +kernel
theorem dL_law_855 : decode cL_law 855 = .ok (.iadd, 1) := by decide +kernel
theorem dL_law_856 : decode cL_law 856 = .ok (.iaload, 1) := by decide +kernel
theorem dL_law_857 : decode cL_law 857 = .ok (.invokevirtual 116, 3) := by decide +kernel
theorem dL_law_860 : decode cL_law 860 = .ok (.if_icmp .eq 524, 3) := by decide +kernel
theorem dL_law_863 : decode cL_law 863 = .ok (.iconst 0, 1) := by decide +kernel
theorem dL_law_864 : decode cL_law 864 = .ok (.ireturn, 1) := by decide +kernel
theorem dL_law_865 : decode cL_law 865 = .ok (.aload_n 1, 1) := by decide +kernel
theorem dL_law_866 : decode cL_law 866 = .ok (.aload_n 0, 1) := by decide +kernel
theorem dL_law_867 : decode cL_law 867 = .ok (.iload_n 3, 1) := by decide +kernel
theorem dL_law_868 : decode cL_law 868 = .ok (.iconst 1, 1) := by decide +kernel
theorem dL_law_869 : decode cL_law 869 = .ok (.iadd, 1) := by decide +kernel
theorem dL_law_870 : decode cL_law 870 = .ok (.iaload, 1) := by decide +kernel
theorem dL_law_871 : decode cL_law 871 = .ok (.aload_n 0, 1) := by decide +kernel
theorem dL_law_872 : decode cL_law 872 = .ok (.iload_n 3, 1) := by decide +kernel
theorem dL_law_873 : decode cL_law 873 = .ok (.iconst 2, 1) := by decide +kernel
theorem dL_law_874 : decode cL_law 874 = .ok (.iadd, 1) := by decide +kernel
theorem dL_law_875 : decode cL_law 875 = .ok (.iaload, 1) := by decide +kernel
theorem dL_law_876 : decode cL_law 876 = .ok (.aload_n 0, 1) := by decide +kernel
theorem dL_law_877 : decode cL_law 877 = .ok (.iload_n 3, 1) := by decide +kernel
theorem dL_law_878 : decode cL_law 878 = .ok (.iconst 3, 1) := by decide +kernel
theorem dL_law_879 : decode cL_law 879 = .ok (.iadd, 1) := by decide +kernel
theorem dL_law_880 : decode cL_law 880 = .ok (.iaload, 1) := by decide +kernel
theorem dL_law_881 : decode cL_law 881 = .ok (.invokevirtual 117, 3) := by decide +kernel
theorem dL_law_884 : decode cL_law 884 = .ok (.aload_n 2, 1) := by decide +kernel
theorem dL_law_885 : decode cL_law 885 = .ok (.aload_n 0, 1) := by decide +kernel
theorem dL_law_886 : decode cL_law 886 = .ok (.iload_n 3, 1) := by decide +kernel
theorem dL_law_887 : decode cL_law 887 = .ok (.iconst 1, 1) := by decide +kernel
theorem dL_law_888 : decode cL_law 888 = .ok (.iadd, 1) := by decide +kernel
theorem dL_law_889 : decode cL_law 889 = .ok (.iaload, 1) := by decide +kernel
theorem dL_law_890 : decode cL_law 890 = .ok (.aload_n 0, 1) := by decide +kernel
theorem dL_law_891 : decode cL_law 891 = .ok (.iload_n 3, 1) := by decide +kernel
theorem dL_law_892 : decode cL_law 892 = .ok (.iconst 2, 1) := by decide +kernel
theorem dL_law_893 : decode cL_law 893 = .ok (.iadd, 1) := by decide +kernel
theorem dL_law_894 : decode cL_law 894 = .ok (.iaload, 1) := by decide +kernel
theorem dL_law_895 : decode cL_law 895 = .ok (.aload_n 0, 1) := by decide +kernel
theorem dL_law_896 : decode cL_law 896 = .ok (.iload_n 3, 1) := by decide +kernel
theorem dL_law_897 : decode cL_law 897 = .ok (.iconst 3, 1) := by decide +kernel
theorem dL_law_898 : decode cL_law 898 = .ok (.iadd, 1) := by decide +kernel
theorem dL_law_899 : decode cL_law 899 = .ok (.iaload, 1) := by decide +kernel
theorem dL_law_900 : decode cL_law 900 = .ok (.invokevirtual 120, 3) := by decide +kernel
theorem dL_law_903 : decode cL_law 903 = .ok (.if_icmp .eq 481, 3) := by decide +kernel
theorem dL_law_906 : decode cL_law 906 = .ok (.iconst 0, 1) := by decide +kernel
theorem dL_law_907 : decode cL_law 907 = .ok (.ireturn, 1) := by decide +kernel
theorem dL_law_908 : decode cL_law 908 = .ok (.aload_n 1, 1) := by decide +kernel
theorem dL_law_909 : decode cL_law 909 = .ok (.aload_n 0, 1) := by decide +kernel
theorem dL_law_910 : decode cL_law 910 = .ok (.iload_n 3, 1) := by decide +kernel
theorem dL_law_911 : decode cL_law 911 = .ok (.iconst 1, 1) := by decide +kernel
theorem dL_law_912 : decode cL_law 912 = .ok (.iadd, 1) := by decide +kernel
theorem dL_law_913 : decode cL_law 913 = .ok (.iaload, 1) := by decide +kernel
theorem dL_law_914 : decode cL_law 914 = .ok (.invokevirtual 121, 3) := by decide +kernel
theorem dL_law_917 : decode cL_law 917 = .ok (.aload_n 2, 1) := by decide +kernel
theorem dL_law_918 : decode cL_law 918 = .ok (.aload_n 0, 1) := by decide +kernel
theorem dL_law_919 : decode cL_law 919 = .ok (.iload_n 3, 1) := by decide +kernel
theorem dL_law_920 : decode cL_law 920 = .ok (.iconst 1, 1) := by decide +kernel
theorem dL_law_921 : decode cL_law 921 = .ok (.iadd, 1) := by decide +kernel
theorem dL_law_922 : decode cL_law 922 = .ok (.iaload, 1) := by decide +kernel
theorem dL_law_923 : decode cL_law 923 = .ok (.invokevirtual 124, 3) := by decide +kernel
theorem dL_law_926 : decode cL_law 926 = .ok (.if_icmp .eq 458, 3) := by decide +kernel
theorem dL_law_929 : decode cL_law 929 = .ok (.iconst 0, 1) := by decide +kernel
theorem dL_law_930 : decode cL_law 930 = .ok (.ireturn, 1) := by decide +kernel
theorem dL_law_931 : decode cL_law 931 = .ok (.aload_n 1, 1) := by decide +kernel
theorem dL_law_932 : decode cL_law 932 = .ok (.aload_n 0, 1) := by decide +kernel
theorem dL_law_933 : decode cL_law 933 = .ok (.iload_n 3, 1) := by decide +kernel
theorem dL_law_934 : decode cL_law 934 = .ok (.iconst 1, 1) := by decide +kernel
theorem dL_law_935 : decode cL_law 935 = .ok (.iadd, 1) := by decide +kernel
theorem dL_law_936 : decode cL_law 936 = .ok (.iaload, 1) := by decide +kernel
theorem dL_law_937 : decode cL_law 937 = .ok (.invokevirtual 125, 3) := by decide +kernel
theorem dL_law_940 : decode cL_law 940 = .ok (.aload_n 2, 1) := by decide +kernel
theorem dL_law_941 : decode cL_law 941 = .ok (.aload_n 0, 1) := by decide +kernel
theorem dL_law_942 : decode cL_law 942 = .ok (.iload_n 3, 1) := by decide +kernel
theorem dL_law_943 : decode cL_law 943 = .ok (.iconst 1, 1) := by decide +kernel
theorem dL_law_944 : decode cL_law 944 = .ok (.iadd, 1) := by decide +kernel
theorem dL_law_945 : decode cL_law 945 = .ok (.iaload, 1) := by decide +kernel
theorem dL_law_946 : decode cL_law 946 = .ok (.invokevirtual 128, 3) := by decide +kernel
theorem dL_law_949 : decode cL_law 949 = .ok (.if_icmp .eq 435, 3) := by decide +kernel
theorem dL_law_952 : decode cL_law 952 = .ok (.iconst 0, 1) := by decide +kernel
theorem dL_law_953 : decode cL_law 953 = .ok (.ireturn, 1) := by decide +kernel
theorem dL_law_954 : decode cL_law 954 = .ok (.aload_n 1, 1) := by decide +kernel
theorem dL_law_955 : decode cL_law 955 = .ok (.aload_n 0, 1) := by decide +kernel
theorem dL_law_956 : decode cL_law 956 = .ok (.iload_n 3, 1) := by decide +kernel
theorem dL_law_957 : decode cL_law 957 = .ok (.iconst 1, 1) := by decide +kernel
theorem dL_law_958 : decode cL_law 958 = .ok (.iadd, 1) := by decide +kernel
theorem dL_law_959 : decode cL_law 959 = .ok (.iaload, 1) := by decide +kernel
theorem dL_law_960 : decode cL_law 960 = .ok (.invokevirtual 129, 3) := by decide +kernel
theorem dL_law_963 : decode cL_law 963 = .ok (.aload_n 2, 1) := by decide +kernel
theorem dL_law_964 : decode cL_law 964 = .ok (.aload_n 0, 1) := by decide +kernel
theorem dL_law_965 : decode cL_law 965 = .ok (.iload_n 3, 1) := by decide +kernel
theorem dL_law_966 : decode cL_law 966 = .ok (.iconst 1, 1) := by decide +kernel
theorem dL_law_967 : decode cL_law 967 = .ok (.iadd, 1) := by decide +kernel
theorem dL_law_968 : decode cL_law 968 = .ok (.iaload, 1) := by decide +kernel
theorem dL_law_969 : decode cL_law 969 = .ok (.invokevirtual 132, 3) := by decide +kernel
theorem dL_law_972 : decode cL_law 972 = .ok (.if_icmp .eq 412, 3) := by decide +kernel
theorem dL_law_975 : decode cL_law 975 = .ok (.iconst 0, 1) := by decide +kernel
theorem dL_law_976 : decode cL_law 976 = .ok (.ireturn, 1) := by decide +kernel
theorem dL_law_977 : decode cL_law 977 = .ok (.aload_n 1, 1) := by decide +kernel
theorem dL_law_978 : decode cL_law 978 = .ok (.aload_n 0, 1) := by decide +kernel
theorem dL_law_979 : decode cL_law 979 = .ok (.iload_n 3, 1) := by decide +kernel
theorem dL_law_980 : decode cL_law 980 = .ok (.iconst 1, 1) := by decide +kernel
theorem dL_law_981 : decode cL_law 981 = .ok (.iadd, 1) := by decide +kernel
theorem dL_law_982 : decode cL_law 982 = .ok (.iaload, 1) := by decide +kernel
theorem dL_law_983 : decode cL_law 983 = .ok (.aload_n 0, 1) := by decide +kernel
theorem dL_law_984 : decode cL_law 984 = .ok (.iload_n 3, 1) := by decide +kernel
theorem dL_law_985 : decode cL_law 985 = .ok (.iconst 2, 1) := by decide +kernel
theorem dL_law_986 : decode cL_law 986 = .ok (.iadd, 1) := by decide +kernel
theorem dL_law_987 : decode cL_law 987 = .ok (.iaload, 1) := by decide +kernel
theorem dL_law_988 : decode cL_law 988 = .ok (.aload_n 0, 1) := by decide +kernel
theorem dL_law_989 : decode cL_law 989 = .ok (.iload_n 3, 1) := by decide +kernel
theorem dL_law_990 : decode cL_law 990 = .ok (.iconst 3, 1) := by decide +kernel
theorem dL_law_991 : decode cL_law 991 = .ok (.iadd, 1) := by decide +kernel
theorem dL_law_992 : decode cL_law 992 = .ok (.iaload, 1) := by decide +kernel
theorem dL_law_993 : decode cL_law 993 = .ok (.invokevirtual 133, 3) := by decide +kernel
theorem dL_law_996 : decode cL_law 996 = .ok (.aload_n 2, 1) := by decide +kernel
theorem dL_law_997 : decode cL_law 997 = .ok (.aload_n 0, 1) := by decide +kernel
theorem dL_law_998 : decode cL_law 998 = .ok (.iload_n 3, 1) := by decide +kernel
theorem dL_law_999 : decode cL_law 999 = .ok (.iconst 1, 1) := by decide +kernel
theorem dL_law_1000 : decode cL_law 1000 = .ok (.iadd, 1) := by decide +kernel
theorem dL_law_1001 : decode cL_law 1001 = .ok (.iaload, 1) := by decide +kernel
theorem dL_law_1002 : decode cL_law 1002 = .ok (.aload_n 0, 1) := by decide +kernel
theorem dL_law_1003 : decode cL_law 1003 = .ok (.iload_n 3, 1) := by decide +kernel
theorem dL_law_1004 : decode cL_law 1004 = .ok (.iconst 2, 1) := by decide +kernel
theorem dL_law_1005 : decode cL_law 1005 = .ok (.iadd, 1) := by decide +kernel
theorem dL_law_1006 : decode cL_law 1006 = .ok (.iaload, 1) := by decide +kernel
theorem dL_law_1007 : decode cL_law 1007 = .ok (.aload_n 0, 1) := by decide +kernel
theorem dL_law_1008 : decode cL_law 1008 = .ok (.iload_n 3, 1) := by decide +kernel
theorem dL_law_1009 : decode cL_law 1009 = .ok (.iconst 3, 1) := by decide +kernel
theorem dL_law_1010 : decode cL_law 1010 = .ok (.iadd, 1) := by decide +kernel
theorem dL_law_1011 : decode cL_law 1011 = .ok (.iaload, 1) := by decide +kernel
theorem dL_law_1012 : decode cL_law 1012 = .ok (.invokevirtual 136, 3) := by decide +kernel
theorem dL_law_1015 : decode cL_law 1015 = .ok (.if_icmp .eq 369, 3) := by decide +kernel
theorem dL_law_1018 : decode cL_law 1018 = .ok (.iconst 0, 1) := by decide +kernel
theorem dL_law_1019 : decode cL_law 1019 = .ok (.ireturn, 1) := by decide +kernel
theorem dL_law_1020 : decode cL_law 1020 = .ok (.aload_n 1, 1) := by decide +kernel
theorem dL_law_1021 : decode cL_law 1021 = .ok (.invokevirtual 137, 3) := by decide +kernel
theorem dL_law_1024 : decode cL_law 1024 = .ok (.aload_n 2, 1) := by decide +kernel
theorem dL_law_1025 : decode cL_law 1025 = .ok (.invokevirtual 140, 3) := by decide +kernel
theorem dL_law_1028 : decode cL_law 1028 = .ok (.if_icmp .eq 356, 3) := by decide +kernel
theorem dL_law_1031 : decode cL_law 1031 = .ok (.iconst 0, 1) := by decide +kernel
theorem dL_law_1032 : decode cL_law 1032 = .ok (.ireturn, 1) := by decide +kernel
theorem dL_law_1033 : decode cL_law 1033 = .ok (.aload_n 1, 1) := by decide +kernel
theorem dL_law_1034 : decode cL_law 1034 = .ok (.invokevirtual 141, 3) := by decide +kernel
theorem dL_law_1037 : decode cL_law 1037 = .ok (.aload_n 2, 1) := by decide +kernel
theorem dL_law_1038 : decode cL_law 1038 = .ok (.invokevirtual 144, 3) := by decide +kernel
theorem dL_law_1041 : decode cL_law 1041 = .ok (.if_icmp .eq 343, 3) := by decide +kernel
theorem dL_law_1044 : decode cL_law 1044 = .ok (.iconst 0, 1) := by decide +kernel
theorem dL_law_1045 : decode cL_law 1045 = .ok (.ireturn, 1) := by decide +kernel
theorem dL_law_1046 : decode cL_law 1046 = .ok (.aload_n 1, 1) := by decide +kernel
theorem dL_law_1047 : decode cL_law 1047 = .ok (.aload_n 0, 1) := by decide +kernel
theorem dL_law_1048 : decode cL_law 1048 = .ok (.iload_n 3, 1) := by decide +kernel
theorem dL_law_1049 : decode cL_law 1049 = .ok (.iconst 1, 1) := by decide +kernel
theorem dL_law_1050 : decode cL_law 1050 = .ok (.iadd, 1) := by decide +kernel
theorem dL_law_1051 : decode cL_law 1051 = .ok (.iaload, 1) := by decide +kernel
theorem dL_law_1052 : decode cL_law 1052 = .ok (.aload_n 0, 1) := by decide +kernel
theorem dL_law_1053 : decode cL_law 1053 = .ok (.iload_n 3, 1) := by decide +kernel
theorem dL_law_1054 : decode cL_law 1054 = .ok (.iconst 2, 1) := by decide +kernel
theorem dL_law_1055 : decode cL_law 1055 = .ok (.iadd, 1) := by decide +kernel
theorem dL_law_1056 : decode cL_law 1056 = .ok (.iaload, 1) := by decide +kernel
theorem dL_law_1057 : decode cL_law 1057 = .ok (.aload_n 0, 1) := by decide +kernel
theorem dL_law_1058 : decode cL_law 1058 = .ok (.iload_n 3, 1) := by decide +kernel
theorem dL_law_1059 : decode cL_law 1059 = .ok (.iconst 3, 1) := by decide +kernel
theorem dL_law_1060 : decode cL_law 1060 = .ok (.iadd, 1) := by decide +kernel
theorem dL_law_1061 : decode cL_law 1061 = .ok (.iaload, 1) := by decide +kernel
theorem dL_law_1062 : decode cL_law 1062 = .ok (.aload_n 0, 1) := by decide +kernel
theorem dL_law_1063 : decode cL_law 1063 = .ok (.iload_n 3, 1) := by decide +kernel
theorem dL_law_1064 : decode cL_law 1064 = .ok (.iconst 4, 1) := by decide +kernel
theorem dL_law_1065 : decode cL_law 1065 = .ok (.iadd, 1) := by decide +kernel
theorem dL_law_1066 : decode cL_law 1066 = .ok (.iaload, 1) := by decide +kernel
theorem dL_law_1067 : decode cL_law 1067 = .ok (.aload_n 0, 1) := by decide +kernel
theorem dL_law_1068 : decode cL_law 1068 = .ok (.iload_n 3, 1) := by decide +kernel
theorem dL_law_1069 : decode cL_law 1069 = .ok (.iconst 5, 1) := by decide +kernel
theorem dL_law_1070 : decode cL_law 1070 = .ok (.iadd, 1) := by decide +kernel
theorem dL_law_1071 : decode cL_law 1071 = .ok (.iaload, 1) := by decide +kernel
theorem dL_law_1072 : decode cL_law 1072 = .ok (.invokevirtual 145, 3) := by decide +kernel
theorem dL_law_1075 : decode cL_law 1075 = .ok (.aload_n 2, 1) := by decide +kernel
theorem dL_law_1076 : decode cL_law 1076 = .ok (.aload_n 0, 1) := by decide +kernel
theorem dL_law_1077 : decode cL_law 1077 = .ok (.iload_n 3, 1) := by decide +kernel
theorem dL_law_1078 : decode cL_law 1078 = .ok (.iconst 1, 1) := by decide +kernel
theorem dL_law_1079 : decode cL_law 1079 = .ok (.iadd, 1) := by decide +kernel
theorem dL_law_1080 : decode cL_law 1080 = .ok (.iaload, 1) := by decide +kernel
theorem dL_law_1081 : decode cL_law 1081 = .ok (.aload_n 0, 1) := by decide +kernel
theorem dL_law_1082 : decode cL_law 1082 = .ok (.iload_n 3, 1) := by decide +kernel
theorem dL_law_1083 : decode cL_law 1083 = .ok (.iconst 2, 1) := by decide +kernel
theorem dL_law_1084 : decode cL_law 1084 = .ok (.iadd, 1) := by decide +kernel
theorem dL_law_1085 : decode cL_law 1085 = .ok (.iaload, 1) := by decide +kernel
theorem dL_law_1086 : decode cL_law 1086 = .ok (.aload_n 0, 1) := by decide +kernel
theorem dL_law_1087 : decode cL_law 1087 = .ok (.iload_n 3, 1) := by decide +kernel
theorem dL_law_1088 : decode cL_law 1088 = .ok (.iconst 3, 1) := by decide +kernel
theorem dL_law_1089 : decode cL_law 1089 = .ok (.iadd, 1) := by decide +kernel
theorem dL_law_1090 : decode cL_law 1090 = .ok (.iaload, 1) := by decide +kernel
theorem dL_law_1091 : decode cL_law 1091 = .ok (.aload_n 0, 1) := by decide +kernel
theorem dL_law_1092 : decode cL_law 1092 = .ok (.iload_n 3, 1) := by decide +kernel
theorem dL_law_1093 : decode cL_law 1093 = .ok (.iconst 4, 1) := by decide +kernel
theorem dL_law_1094 : decode cL_law 1094 = .ok (.iadd, 1) := by decide +kernel
theorem dL_law_1095 : decode cL_law 1095 = .ok (.iaload, 1) := by decide +kernel
theorem dL_law_1096 : decode cL_law 1096 = .ok (.aload_n 0, 1) := by decide +kernel
theorem dL_law_1097 : decode cL_law 1097 = .ok (.iload_n 3, 1) := by decide +kernel
theorem dL_law_1098 : decode cL_law 1098 = .ok (.iconst 5, 1) := by decide +kernel
theorem dL_law_1099 : decode cL_law 1099 = .ok (.iadd, 1) := by decide +kernel
theorem dL_law_1100 : decode cL_law 1100 = .ok (.iaload, 1) := by decide +kernel
theorem dL_law_1101 : decode cL_law 1101 = .ok (.invokevirtual 149, 3) := by decide +kernel
theorem dL_law_1104 : decode cL_law 1104 = .ok (.if_icmp .eq 280, 3) := by decide +kernel
theorem dL_law_1107 : decode cL_law 1107 = .ok (.iconst 0, 1) := by decide +kernel
theorem dL_law_1108 : decode cL_law 1108 = .ok (.ireturn, 1) := by decide +kernel
theorem dL_law_1109 : decode cL_law 1109 = .ok (.aload_n 1, 1) := by decide +kernel
theorem dL_law_1110 : decode cL_law 1110 = .ok (.aload_n 0, 1) := by decide +kernel
theorem dL_law_1111 : decode cL_law 1111 = .ok (.iload_n 3, 1) := by decide +kernel
theorem dL_law_1112 : decode cL_law 1112 = .ok (.iconst 1, 1) := by decide +kernel
theorem dL_law_1113 : decode cL_law 1113 = .ok (.iadd, 1) := by decide +kernel
theorem dL_law_1114 : decode cL_law 1114 = .ok (.iaload, 1) := by decide +kernel
theorem dL_law_1115 : decode cL_law 1115 = .ok (.aload_n 0, 1) := by decide +kernel
theorem dL_law_1116 : decode cL_law 1116 = .ok (.iload_n 3, 1) := by decide +kernel
theorem dL_law_1117 : decode cL_law 1117 = .ok (.iconst 2, 1) := by decide +kernel
theorem dL_law_1118 : decode cL_law 1118 = .ok (.iadd, 1) := by decide +kernel
theorem dL_law_1119 : decode cL_law 1119 = .ok (.iaload, 1) := by decide +kernel
theorem dL_law_1120 : decode cL_law 1120 = .ok (.aload_n 0, 1) := by decide +kernel
theorem dL_law_1121 : decode cL_law 1121 = .ok (.iload_n 3, 1) := by decide +kernel
theorem dL_law_1122 : decode cL_law 1122 = .ok (.iconst 3, 1) := by decide +kernel
theorem dL_law_1123 : decode cL_law 1123 = .ok (.iadd, 1) := by decide +kernel
theorem dL_law_1124 : decode cL_law 1124 = .ok (.iaload, 1) := by decide +kernel
theorem dL_law_1125 : decode cL_law 1125 = .ok (.aload_n 0, 1) := by decide +kernel
theorem dL_law_1126 : decode cL_law 1126 = .ok (.iload_n 3, 1) := by decide +kernel
theorem dL_law_1127 : decode cL_law 1127 = .ok (.iconst 4, 1) := by decide +kernel
theorem dL_law_1128 : decode cL_law 1128 = .ok (.iadd, 1) := by decide +kernel
theorem dL_law_1129 : decode cL_law 1129 = .ok (.iaload, 1) := by decide +kernel
theorem dL_law_1130 : decode cL_law 1130 = .ok (.aload_n 0, 1) := by decide +kernel
theorem dL_law_1131 : decode cL_law 1131 = .ok (.iload_n 3, 1) := by decide +kernel
theorem dL_law_1132 : decode cL_law 1132 = .ok (.iconst 5, 1) := by decide +kernel
theorem dL_law_1133 : decode cL_law 1133 = .ok (.iadd, 1) := by decide +kernel
theorem dL_law_1134 : decode cL_law 1134 = .ok (.iaload, 1) := by decide +kernel
theorem dL_law_1135 : decode cL_law 1135 = .ok (.invokevirtual 150, 3) := by decide +kernel
theorem dL_law_1138 : decode cL_law 1138 = .ok (.aload_n 2, 1) := by decide +kernel
theorem dL_law_1139 : decode cL_law 1139 = .ok (.aload_n 0, 1) := by decide +kernel
theorem dL_law_1140 : decode cL_law 1140 = .ok (.iload_n 3, 1) := by decide +kernel
theorem dL_law_1141 : decode cL_law 1141 = .ok (.iconst 1, 1) := by decide +kernel
theorem dL_law_1142 : decode cL_law 1142 = .ok (.iadd, 1) := by decide +kernel
theorem dL_law_1143 : decode cL_law 1143 = .ok (.iaload, 1) := by decide +kernel
theorem dL_law_1144 : decode cL_law 1144 = .ok (.aload_n 0, 1) := by decide +kernel
theorem dL_law_1145 : decode cL_law 1145 = .ok (.iload_n 3, 1) := by decide +kernel
theorem dL_law_1146 : decode cL_law 1146 = .ok (.iconst 2, 1) := by decide +kernel
theorem dL_law_1147 : decode cL_law 1147 = .ok (.iadd, 1) := by decide +kernel
theorem dL_law_1148 : decode cL_law 1148 = .ok (.iaload, 1) := by decide +kernel
theorem dL_law_1149 : decode cL_law 1149 = .ok (.aload_n 0, 1) := by decide +kernel
theorem dL_law_1150 : decode cL_law 1150 = .ok (.iload_n 3, 1) := by decide +kernel
theorem dL_law_1151 : decode cL_law 1151 = .ok (.iconst 3, 1) := by decide +kernel
theorem dL_law_1152 : decode cL_law 1152 = .ok (.iadd, 1) := by decide +kernel
theorem dL_law_1153 : decode cL_law 1153 = .ok (.iaload, 1) := by decide +kernel
theorem dL_law_1154 : decode cL_law 1154 = .ok (.aload_n 0, 1) := by decide +kernel
theorem dL_law_1155 : decode cL_law 1155 = .ok (.iload_n 3, 1) := by decide +kernel
theorem dL_law_1156 : decode cL_law 1156 = .ok (.iconst 4, 1) := by decide +kernel
theorem dL_law_1157 : decode cL_law 1157 = .ok (.iadd, 1) := by decide +kernel
theorem dL_law_1158 : decode cL_law 1158 = .ok (.iaload, 1) := by decide +kernel
theorem dL_law_1159 : decode cL_law 1159 = .ok (.aload_n 0, 1) := by decide +kernel
theorem dL_law_1160 : decode cL_law 1160 = .ok (.iload_n 3, 1) := by decide +kernel
theorem dL_law_1161 : decode cL_law 1161 = .ok (.iconst 5, 1) := by decide +kernel
theorem dL_law_1162 : decode cL_law 1162 = .ok (.iadd, 1) := by decide +kernel
theorem dL_law_1163 : decode cL_law 1163 = .ok (.iaload, 1) := by decide +kernel
theorem dL_law_1164 : decode cL_law 1164 = .ok (.invokevirtual 153, 3) := by decide +kernel
theorem dL_law_1167 : decode cL_law 1167 = .ok (.if_icmp .eq 217, 3) := by decide +kernel
theorem dL_law_1170 : decode cL_law 1170 = .ok (.iconst 0, 1) := by decide +kernel
theorem dL_law_1171 : decode cL_law 1171 = .ok (.ireturn, 1) := by decide +kernel
theorem dL_law_1172 : decode cL_law 1172 = .ok (.aload_n 1, 1) := by decide +kernel
theorem dL_law_1173 : decode cL_law 1173 = .ok (.aload_n 0, 1) := by decide +kernel
theorem dL_law_1174 : decode cL_law 1174 = .ok (.iload_n 3, 1) := by decide +kernel
theorem dL_law_1175 : decode cL_law 1175 = .ok (.iconst 1, 1) := by decide +kernel
theorem dL_law_1176 : decode cL_law 1176 = .ok (.iadd, 1) := by decide +kernel
theorem dL_law_1177 : decode cL_law 1177 = .ok (.iaload, 1) := by decide +kernel
theorem dL_law_1178 : decode cL_law 1178 = .ok (.aload_n 0, 1) := by decide +kernel
theorem dL_law_1179 : decode cL_law 1179 = .ok (.iload_n 3, 1) := by decide +kernel
theorem dL_law_1180 : decode cL_law 1180 = .ok (.iconst 2, 1) := by decide +kernel
theorem dL_law_1181 : decode cL_law 1181 = .ok (.iadd, 1) := by decide +kernel
theorem dL_law_1182 : decode cL_law 1182 = .ok (.iaload, 1) := by decide +kernel
theorem dL_law_1183 : decode cL_law 1183 = .ok (.aload_n 0, 1) := by decide +kernel
theorem dL_law_1184 : decode cL_law 1184 = .ok (.iload_n 3, 1) := by decide +kernel
theorem dL_law_1185 : decode cL_law 1185 = .ok (.iconst 3, 1) := by decide +kernel
theorem dL_law_1186 : decode cL_law 1186 = .ok (.iadd, 1) := by decide +kernel
theorem dL_law_1187 : decode cL_law 1187 = .ok (.iaload, 1) := by decide +kernel
theorem dL_law_1188 : decode cL_law 1188 = .ok (.invokevirtual 154, 3) := by decide +kernel
theorem dL_law_1191 : decode cL_law 1191 = .ok (.aload_n 2, 1) := by decide +kernel
theorem dL_law_1192 : decode cL_law 1192 = .ok (.aload_n 0, 1) := by decide +kernel
theorem dL_law_1193 : decode cL_law 1193 = .ok (.iload_n 3, 1) := by decide +kernel
theorem dL_law_1194 : decode cL_law 1194 = .ok (.iconst 1, 1) := by decide +kernel
theorem dL_law_1195 : decode cL_law 1195 = .ok (.iadd, 1) := by decide +kernel
theorem dL_law_1196 : decode cL_law 1196 = .ok (.iaload, 1) := by decide +kernel
theorem dL_law_1197 : decode cL_law 1197 = .ok (.aload_n 0, 1) := by decide +kernel
theorem dL_law_1198 : decode cL_law 1198 = .ok (.iload_n 3, 1) := by decide +kernel
theorem dL_law_1199 : decode cL_law 1199 = .ok (.iconst 2, 1) := by decide +kernel
theorem dL_law_1200 : decode cL_law 1200 = .ok (.iadd, 1) := by decide +kernel
theorem dL_law_1201 : decode cL_law 1201 = .ok (.iaload, 1) := by decide +kernel
theorem dL_law_1202 : decode cL_law 1202 = .ok (.aload_n 0, 1) := by decide +kernel
theorem dL_law_1203 : decode cL_law 1203 = .ok (.iload_n 3, 1) := by decide +kernel
theorem dL_law_1204 : decode cL_law 1204 = .ok (.iconst 3, 1) := by decide +kernel
theorem dL_law_1205 : decode cL_law 1205 = .ok (.iadd, 1) := by decide +kernel
theorem dL_law_1206 : decode cL_law 1206 = .ok (.iaload, 1) := by decide +kernel
theorem dL_law_1207 : decode cL_law 1207 = .ok (.invokevirtual 157, 3) := by decide +kernel
theorem dL_law_1210 : decode cL_law 1210 = .ok (.if_icmp .eq 174, 3) := by decide +kernel
theorem dL_law_1213 : decode cL_law 1213 = .ok (.iconst 0, 1) := by decide +kernel
theorem dL_law_1214 : decode cL_law 1214 = .ok (.ireturn, 1) := by decide +kernel
theorem dL_law_1215 : decode cL_law 1215 = .ok (.aload_n 1, 1) := by decide +kernel
theorem dL_law_1216 : decode cL_law 1216 = .ok (.aload_n 0, 1) := by decide +kernel
theorem dL_law_1217 : decode cL_law 1217 = .ok (.iload_n 3, 1) := by decide +kernel
theorem dL_law_1218 : decode cL_law 1218 = .ok (.iconst 1, 1) := by decide +kernel
theorem dL_law_1219 : decode cL_law 1219 = .ok (.iadd, 1) := by decide +kernel
theorem dL_law_1220 : decode cL_law 1220 = .ok (.iaload, 1) := by decide +kernel
theorem dL_law_1221 : decode cL_law 1221 = .ok (.invokevirtual 158, 3) := by decide +kernel
theorem dL_law_1224 : decode cL_law 1224 = .ok (.aload_n 2, 1) := by decide +kernel
theorem dL_law_1225 : decode cL_law 1225 = .ok (.aload_n 0, 1) := by decide +kernel
theorem dL_law_1226 : decode cL_law 1226 = .ok (.iload_n 3, 1) := by decide +kernel
theorem dL_law_1227 : decode cL_law 1227 = .ok (.iconst 1, 1) := by decide +kernel
theorem dL_law_1228 : decode cL_law 1228 = .ok (.iadd, 1) := by decide +kernel
theorem dL_law_1229 : decode cL_law 1229 = .ok (.iaload, 1) := by decide +kernel
theorem dL_law_1230 : decode cL_law 1230 = .ok (.invokevirtual 161, 3) := by decide +kernel
theorem dL_law_1233 : decode cL_law 1233 = .ok (.if_icmp .eq 151, 3) := by decide +kernel
theorem dL_law_1236 : decode cL_law 1236 = .ok (.iconst 0, 1) := by decide +kernel
theorem dL_law_1237 : decode cL_law 1237 = .ok (.ireturn, 1) := by decide +kernel
theorem dL_law_1238 : decode cL_law 1238 = .ok (.aload_n 1, 1) := by decide +kernel
theorem dL_law_1239 : decode cL_law 1239 = .ok (.aload_n 0, 1) := by decide +kernel
theorem dL_law_1240 : decode cL_law 1240 = .ok (.iload_n 3, 1) := by decide +kernel
theorem dL_law_1241 : decode cL_law 1241 = .ok (.iconst 1, 1) := by decide +kernel
theorem dL_law_1242 : decode cL_law 1242 = .ok (.iadd, 1) := by decide +kernel
theorem dL_law_1243 : decode cL_law 1243 = .ok (.iaload, 1) := by decide +kernel
theorem dL_law_1244 : decode cL_law 1244 = .ok (.aload_n 0, 1) := by decide +kernel
theorem dL_law_1245 : decode cL_law 1245 = .ok (.iload_n 3, 1) := by decide +kernel
theorem dL_law_1246 : decode cL_law 1246 = .ok (.iconst 2, 1) := by decide +kernel
theorem dL_law_1247 : decode cL_law 1247 = .ok (.iadd, 1) := by decide +kernel
theorem dL_law_1248 : decode cL_law 1248 = .ok (.iaload, 1) := by decide +kernel
theorem dL_law_1249 : decode cL_law 1249 = .ok (.aload_n 0, 1) := by decide +kernel
theorem dL_law_1250 : decode cL_law 1250 = .ok (.iload_n 3, 1) := by decide +kernel
theorem dL_law_1251 : decode cL_law 1251 = .ok (.iconst 3, 1) := by decide +kernel
theorem dL_law_1252 : decode cL_law 1252 = .ok (.iadd, 1) := by decide +kernel
theorem dL_law_1253 : decode cL_law 1253 = .ok (.iaload, 1) := by decide +kernel
theorem dL_law_1254 : decode cL_law 1254 = .ok (.aload_n 0, 1) := by decide +kernel
theorem dL_law_1255 : decode cL_law 1255 = .ok (.iload_n 3, 1) := by decide +kernel
theorem dL_law_1256 : decode cL_law 1256 = .ok (.iconst 4, 1) := by decide +kernel
theorem dL_law_1257 : decode cL_law 1257 = .ok (.iadd, 1) := by decide +kernel
theorem dL_law_1258 : decode cL_law 1258 = .ok (.iaload, 1) := by decide +kernel
theorem dL_law_1259 : decode cL_law 1259 = .ok (.i2l, 1) := by decide +kernel
theorem dL_law_1260 : decode cL_law 1260 = .ok (.bipush 32, 2) := by decide +kernel
theorem dL_law_1262 : decode cL_law 1262 = .ok (.lshl, 1) := by decide +kernel
theorem dL_law_1263 : decode cL_law 1263 = .ok (.aload_n 0, 1) := by decide +kernel
theorem dL_law_1264 : decode cL_law 1264 = .ok (.iload_n 3, 1) := by decide +kernel
theorem dL_law_1265 : decode cL_law 1265 = .ok (.iconst 5, 1) := by decide +kernel
theorem dL_law_1266 : decode cL_law 1266 = .ok (.iadd, 1) := by decide +kernel
theorem dL_law_1267 : decode cL_law 1267 = .ok (.iaload, 1) := by decide +kernel
theorem dL_law_1268 : decode cL_law 1268 = .ok (.i2l, 1) := by decide +kernel
theorem dL_law_1269 : decode cL_law 1269 = .ok (.ldc2_w 162, 3) := by decide +kernel
theorem dL_law_1272 : decode cL_law 1272 = .ok (.land, 1) := by decide +kernel
theorem dL_law_1273 : decode cL_law 1273 = .ok (.lor, 1) := by decide +kernel
theorem dL_law_1274 : decode cL_law 1274 = .ok (.invokevirtual 164, 3) := by decide +kernel
theorem dL_law_1277 : decode cL_law 1277 = .ok (.aload_n 2, 1) := by decide +kernel
theorem dL_law_1278 : decode cL_law 1278 = .ok (.aload_n 0, 1) := by decide +kernel
theorem dL_law_1279 : decode cL_law 1279 = .ok (.iload_n 3, 1) := by decide +kernel
theorem dL_law_1280 : decode cL_law 1280 = .ok (.iconst 1, 1) := by decide +kernel
theorem dL_law_1281 : decode cL_law 1281 = .ok (.iadd, 1) := by decide +kernel
theorem dL_law_1282 : decode cL_law 1282 = .ok (.iaload, 1) := by decide +kernel
theorem dL_law_1283 : decode cL_law 1283 = .ok (.aload_n 0, 1) := by decide +kernel
theorem dL_law_1284 : decode cL_law 1284 = .ok (.iload_n 3, 1) := by decide +kernel
theorem dL_law_1285 : decode cL_law 1285 = .ok (.iconst 2, 1) := by decide +kernel
theorem dL_law_1286 : decode cL_law 1286 = .ok (.iadd, 1) := by decide +kernel
theorem dL_law_1287 : decode cL_law 1287 = .ok (.iaload, 1) := by decide +kernel
theorem dL_law_1288 : decode cL_law 1288 = .ok (.aload_n 0, 1) := by decide +kernel
theorem dL_law_1289 : decode cL_law 1289 = .ok (.iload_n 3, 1) := by decide +kernel
theorem dL_law_1290 : decode cL_law 1290 = .ok (.iconst 3, 1) := by decide +kernel
theorem dL_law_1291 : decode cL_law 1291 = .ok (.iadd, 1) := by decide +kernel
theorem dL_law_1292 : decode cL_law 1292 = .ok (.iaload, 1) := by decide +kernel
theorem dL_law_1293 : decode cL_law 1293 = .ok (.aload_n 0, 1) := by decide +kernel
theorem dL_law_1294 : decode cL_law 1294 = .ok (.iload_n 3, 1) := by decide +kernel
theorem dL_law_1295 : decode cL_law 1295 = .ok (.iconst 4, 1) := by decide +kernel
theorem dL_law_1296 : decode cL_law 1296 = .ok (.iadd, 1) := by decide +kernel
theorem dL_law_1297 : decode cL_law 1297 = .ok (.iaload, 1) := by decide +kernel
theorem dL_law_1298 : decode cL_law 1298 = .ok (.i2l, 1) := by decide +kernel
theorem dL_law_1299 : decode cL_law 1299 = .ok (.bipush 32, 2) := by decide +kernel
theorem dL_law_1301 : decode cL_law 1301 = .ok (.lshl, 1) := by decide +kernel
theorem dL_law_1302 : decode cL_law 1302 = .ok (.aload_n 0, 1) := by decide +kernel
theorem dL_law_1303 : decode cL_law 1303 = .ok (.iload_n 3, 1) := by decide +kernel
theorem dL_law_1304 : decode cL_law 1304 = .ok (.iconst 5, 1) := by decide +kernel
theorem dL_law_1305 : decode cL_law 1305 = .ok (.iadd, 1) := by decide +kernel
theorem dL_law_1306 : decode cL_law 1306 = .ok (.iaload, 1) := by decide +kernel
theorem dL_law_1307 : decode cL_law 1307 = .ok (.i2l, 1) := by decide +kernel
theorem dL_law_1308 : decode cL_law 1308 = .ok (.ldc2_w 162, 3) := by decide +kernel
theorem dL_law_1311 : decode cL_law 1311 = .ok (.land, 1) := by decide +kernel
theorem dL_law_1312 : decode cL_law 1312 = .ok (.lor, 1) := by decide +kernel
theorem dL_law_1313 : decode cL_law 1313 = .ok (.invokevirtual 168, 3) := by decide +kernel
theorem dL_law_1316 : decode cL_law 1316 = .ok (.if_icmp .eq 68, 3) := by decide +kernel
theorem dL_law_1319 : decode cL_law 1319 = .ok (.iconst 0, 1) := by decide +kernel
theorem dL_law_1320 : decode cL_law 1320 = .ok (.ireturn, 1) := by decide +kernel
theorem dL_law_1321 : decode cL_law 1321 = .ok (.aload_n 1, 1) := by decide +kernel
theorem dL_law_1322 : decode cL_law 1322 = .ok (.aload_n 0, 1) := by decide +kernel
theorem dL_law_1323 : decode cL_law 1323 = .ok (.iload_n 3, 1) := by decide +kernel
theorem dL_law_1324 : decode cL_law 1324 = .ok (.iconst 1, 1) := by decide +kernel
theorem dL_law_1325 : decode cL_law 1325 = .ok (.iadd, 1) := by decide +kernel
theorem dL_law_1326 : decode cL_law 1326 = .ok (.iaload, 1) := by decide +kernel
theorem dL_law_1327 : decode cL_law 1327 = .ok (.aload_n 0, 1) := by decide +kernel
theorem dL_law_1328 : decode cL_law 1328 = .ok (.iload_n 3, 1) := by decide +kernel
theorem dL_law_1329 : decode cL_law 1329 = .ok (.iconst 2, 1) := by decide +kernel
theorem dL_law_1330 : decode cL_law 1330 = .ok (.iadd, 1) := by decide +kernel
theorem dL_law_1331 : decode cL_law 1331 = .ok (.iaload, 1) := by decide +kernel
theorem dL_law_1332 : decode cL_law 1332 = .ok (.aload_n 0, 1) := by decide +kernel
theorem dL_law_1333 : decode cL_law 1333 = .ok (.iload_n 3, 1) := by decide +kernel
theorem dL_law_1334 : decode cL_law 1334 = .ok (.iconst 3, 1) := by decide +kernel
theorem dL_law_1335 : decode cL_law 1335 = .ok (.iadd, 1) := by decide +kernel
theorem dL_law_1336 : decode cL_law 1336 = .ok (.iaload, 1) := by decide +kernel
theorem dL_law_1337 : decode cL_law 1337 = .ok (.aload_n 0, 1) := by decide +kernel
theorem dL_law_1338 : decode cL_law 1338 = .ok (.iload_n 3, 1) := by decide +kernel
theorem dL_law_1339 : decode cL_law 1339 = .ok (.iconst 4, 1) := by decide +kernel
theorem dL_law_1340 : decode cL_law 1340 = .ok (.iadd, 1) := by decide +kernel
theorem dL_law_1341 : decode cL_law 1341 = .ok (.iaload, 1) := by decide +kernel
theorem dL_law_1342 : decode cL_law 1342 = .ok (.aload_n 0, 1) := by decide +kernel
theorem dL_law_1343 : decode cL_law 1343 = .ok (.iload_n 3, 1) := by decide +kernel
theorem dL_law_1344 : decode cL_law 1344 = .ok (.iconst 5, 1) := by decide +kernel
theorem dL_law_1345 : decode cL_law 1345 = .ok (.iadd, 1) := by decide +kernel
theorem dL_law_1346 : decode cL_law 1346 = .ok (.iaload, 1) := by decide +kernel
theorem dL_law_1347 : decode cL_law 1347 = .ok (.invokevirtual 169, 3) := by decide +kernel
theorem dL_law_1350 : decode cL_law 1350 = .ok (.aload_n 2, 1) := by decide +kernel
theorem dL_law_1351 : decode cL_law 1351 = .ok (.aload_n 0, 1) := by decide +kernel
theorem dL_law_1352 : decode cL_law 1352 = .ok (.iload_n 3, 1) := by decide +kernel
theorem dL_law_1353 : decode cL_law 1353 = .ok (.iconst 1, 1) := by decide +kernel
theorem dL_law_1354 : decode cL_law 1354 = .ok (.iadd, 1) := by decide +kernel
theorem dL_law_1355 : decode cL_law 1355 = .ok (.iaload, 1) := by decide +kernel
theorem dL_law_1356 : decode cL_law 1356 = .ok (.aload_n 0, 1) := by decide +kernel
theorem dL_law_1357 : decode cL_law 1357 = .ok (.iload_n 3, 1) := by decide +kernel
theorem dL_law_1358 : decode cL_law 1358 = .ok (.iconst 2, 1) := by decide +kernel
theorem dL_law_1359 : decode cL_law 1359 = .ok (.iadd, 1) := by decide +kernel
theorem dL_law_1360 : decode cL_law 1360 = .ok (.iaload, 1) := by decide +kernel
theorem dL_law_1361 : decode cL_law 1361 = .ok (.aload_n 0, 1) := by decide +kernel
theorem dL_law_1362 : decode cL_law 1362 = .ok (.iload_n 3, 1) := by decide +kernel
theorem dL_law_1363 : decode cL_law 1363 = .ok (.iconst 3, 1) := by decide +kernel
theorem dL_law_1364 : decode cL_law 1364 = .ok (.iadd, 1) := by decide +kernel
theorem dL_law_1365 : decode cL_law 1365 = .ok (.iaload, 1) := by decide +kernel
theorem dL_law_1366 : decode cL_law 1366 = .ok (.aload_n 0, 1) := by decide +kernel
theorem dL_law_1367 : decode cL_law 1367 = .ok (.iload_n 3, 1) := by decide +kernel
theorem dL_law_1368 : decode cL_law 1368 = .ok (.iconst 4, 1) := by decide +kernel
theorem dL_law_1369 : decode cL_law 1369 = .ok (.iadd, 1) := by decide +kernel
theorem dL_law_1370 : decode cL_law 1370 = .ok (.iaload, 1) := by decide +kernel
theorem dL_law_1371 : decode cL_law 1371 = .ok (.aload_n 0, 1) := by decide +kernel
theorem dL_law_1372 : decode cL_law 1372 = .ok (.iload_n 3, 1) := by decide +kernel
theorem dL_law_1373 : decode cL_law 1373 = .ok (.iconst 5, 1) := by decide +kernel
theorem dL_law_1374 : decode cL_law 1374 = .ok (.iadd, 1) := by decide +kernel
theorem dL_law_1375 : decode cL_law 1375 = .ok (.iaload, 1) := by decide +kernel
theorem dL_law_1376 : decode cL_law 1376 = .ok (.invokevirtual 172, 3) := by decide +kernel
theorem dL_law_1379 : decode cL_law 1379 = .ok (.if_icmp .eq 5, 3) := by decide +kernel
theorem dL_law_1382 : decode cL_law 1382 = .ok (.iconst 0, 1) := by decide +kernel
theorem dL_law_1383 : decode cL_law 1383 = .ok (.ireturn, 1) := by decide +kernel
theorem dL_law_1384 : decode cL_law 1384 = .ok (.iinc 3 6, 3) := by decide +kernel
theorem dL_law_1387 : decode cL_law 1387 = .ok (.goto (-1369), 3) := by decide +kernel
theorem dL_law_1390 : decode cL_law 1390 = .ok (.iconst 1, 1) := by decide +kernel
theorem dL_law_1391 : decode cL_law 1391 = .ok (.ireturn, 1) := by decide +kernel
