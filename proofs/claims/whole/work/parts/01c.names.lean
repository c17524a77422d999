theorem dX7_reason_1 : decode cX7_reason 1 = .ok (.ifCond .eq 19, 3) := by decide +kernel
theorem dX7_reason_4 : decode cX7_reason 4 = .ok (.iload_n 1, 1) := by decide +kernel
theorem dX7_reason_5 : decode cX7_reason 5 = .ok (.iconst 1, 1) := by decide +kernel
theorem dX7_reason_6 : decode cX7_reason 6 = .ok (.if_icmp .eq 14, 3) := by decide +kernel
theorem dX7_reason_9 : decode cX7_reason 9 = .ok (.new 139, 3) := by decide +kernel
theorem dX7_reason_12 : decode cX7_reason 12 = .ok (.dup, 1) := by decide +kernel
theorem dX7_reason_13 : decode cX7_reason 13 = .ok (.ldc_w 298, 3) := by decide +kernel
theorem dX7_reason_16 : decode cX7_reason 16 = .ok (.invokespecial 143, 3) := by decide +kernel
theorem dX7_reason_19 : decode cX7_reason 19 = .ok (.athrow, 1) := by decide +kernel
theorem dX7_reason_20 : decode cX7_reason 20 = .ok (.aload_n 0, 1) := by decide +kernel
theorem dX7_reason_21 : decode cX7_reason 21 = .ok (.getfield 60, 3) := by decide +kernel
theorem dX7_reason_24 : decode cX7_reason 24 = .ok (.iload_n 1, 1) := by decide +kernel
theorem dX7_reason_25 : decode cX7_reason 25 = .ok (.invokevirtual 300, 3) := by decide +kernel
theorem dX7_reason_28 : decode cX7_reason 28 = .ok (.ifCond .ne 14, 3) := by decide +kernel
theorem dX7_reason_31 : decode cX7_reason 31 = .ok (.new 188, 3) := by decide +kernel
theorem dX7_reason_34 : decode cX7_reason 34 = .ok (.dup, 1) := by decide +kernel
theorem dX7_reason_35 : decode cX7_reason 35 = .ok (.ldc_w 303, 3) := by decide +kernel
theorem dX7_reason_38 : decode cX7_reason 38 = .ok (.invokespecial 192, 3) := by decide +kernel
theorem dX7_reason_41 : decode cX7_reason 41 = .ok (.athrow, 1) := by decide +kernel
theorem dX7_reason_42 : decode cX7_reason 42 = .ok (.aload_n 0, 1) := by decide +kernel
theorem dX7_reason_43 : decode cX7_reason 43 = .ok (.getfield 60, 3) := by decide +kernel
theorem dX7_reason_46 : decode cX7_reason 46 = .ok (.iload_n 1, 1) := by decide +kernel
theorem dX7_reason_47 : decode cX7_reason 47 = .ok (.iload_n 2, 1) := by decide +kernel
theorem dX7_reason_48 : decode cX7_reason 48 = .ok (.invokevirtual 305, 3) := by decide +kernel
theorem dX7_reason_51 : decode cX7_reason 51 = .ok (.ireturn, 1) := by decide +kernel
theorem dX7_tell_0 : decode cX7_tell 0 = .ok (.aload_n 0, 1) := by decide +kernel
theorem dX7_tell_1 : decode cX7_tell 1 = .ok (.getfield 67, 3) := by decide +kernel
theorem dX7_tell_4 : decode cX7_tell 4 = .ok (.iconst 0, 1) := by decide +kernel
theorem dX7_tell_5 : decode cX7_tell 5 = .ok (.invokevirtual 309, 3) := by decide +kernel
theorem dX7_tell_8 : decode cX7_tell 8 = .ok (.iconst 0, 1) := by decide +kernel
theorem dX7_tell_9 : decode cX7_tell 9 = .ok (.istore_n 1, 1) := by decide +kernel
theorem dX7_tell_10 : decode cX7_tell 10 = .ok (.iload_n 1, 1) := by decide +kernel
theorem dX7_tell_11 : decode cX7_tell 11 = .ok (.aload_n 0, 1) := by decide +kernel
theorem dX7_tell_12 : decode cX7_tell 12 = .ok (.getfield 12, 3) := by decide +kernel
theorem dX7_tell_15 : decode cX7_tell 15 = .ok (.getfield 223, 3) := by decide +kernel
theorem dX7_tell_18 : decode cX7_tell 18 = .ok (.if_icmp .ge 48, 3) := by decide +kernel
theorem dX7_tell_21 : decode cX7_tell 21 = .ok (.iload_n 1, 1) := by decide +kernel
theorem dX7_tell_22 : decode cX7_tell 22 = .ok (.iconst 1, 1) := by decide +kernel
theorem dX7_tell_23 : decode cX7_tell 23 = .ok (.iadd, 1) := by decide +kernel
theorem dX7_tell_24 : decode cX7_tell 24 = .ok (.istore_n 2, 1) := by decide +kernel
theorem dX7_tell_25 : decode cX7_tell 25 = .ok (.iload_n 2, 1) := by decide +kernel
theorem dX7_tell_26 : decode cX7_tell 26 = .ok (.aload_n 0, 1) := by decide +kernel
theorem dX7_tell_27 : decode cX7_tell 27 = .ok (.getfield 12, 3) := by decide +kernel
theorem dX7_tell_30 : decode cX7_tell 30 = .ok (.getfield 223, 3) := by decide +kernel
theorem dX7_tell_33 : decode cX7_tell 33 = .ok (.if_icmp .ge 27, 3) := by decide +kernel
theorem dX7_tell_36 : decode cX7_tell 36 = .ok (.aload_n 0, 1) := by decide +kernel
theorem dX7_tell_37 : decode cX7_tell 37 = .ok (.getfield 12, 3) := by decide +kernel
theorem dX7_tell_40 : decode cX7_tell 40 = .ok (.iload_n 1, 1) := by decide +kernel
theorem dX7_tell_41 : decode cX7_tell 41 = .ok (.iload_n 2, 1) := by decide +kernel
theorem dX7_tell_42 : decode cX7_tell 42 = .ok (.invokevirtual 112, 3) := by decide +kernel
theorem dX7_tell_45 : decode cX7_tell 45 = .ok (.ifCond .le 9, 3) := by decide +kernel
theorem dX7_tell_48 : decode cX7_tell 48 = .ok (.aload_n 0, 1) := by decide +kernel
theorem dX7_tell_49 : decode cX7_tell 49 = .ok (.iload_n 1, 1) := by decide +kernel
theorem dX7_tell_50 : decode cX7_tell 50 = .ok (.iload_n 2, 1) := by decide +kernel
theorem dX7_tell_51 : decode cX7_tell 51 = .ok (.invokevirtual 312, 3) := by decide +kernel
theorem dX7_tell_54 : decode cX7_tell 54 = .ok (.iinc 2 1, 3) := by decide +kernel
theorem dX7_tell_57 : decode cX7_tell 57 = .ok (.goto (-32), 3) := by decide +kernel
theorem dX7_tell_60 : decode cX7_tell 60 = .ok (.iinc 1 1, 3) := by decide +kernel
theorem dX7_tell_63 : decode cX7_tell 63 = .ok (.goto (-53), 3) := by decide +kernel
theorem dX7_tell_66 : decode cX7_tell 66 = .ok (.aload_n 0, 1) := by decide +kernel
theorem dX7_tell_67 : decode cX7_tell 67 = .ok (.getfield 67, 3) := by decide +kernel
theorem dX7_tell_70 : decode cX7_tell 70 = .ok (.invokevirtual 316, 3) := by decide +kernel
theorem dX7_tell_73 : decode cX7_tell 73 = .ok (.ireturn, 1) := by decide +kernel
theorem dX7_tellPhase_0 : decode cX7_tellPhase 0 = .ok (.aload_n 0, 1) := by decide +kernel
theorem dX7_tellPhase_1 : decode cX7_tellPhase 1 = .ok (.iload_n 1, 1) := by decide +kernel
theorem dX7_tellPhase_2 : decode cX7_tellPhase 2 = .ok (.invokevirtual 161, 3) := by decide +kernel
theorem dX7_tellPhase_5 : decode cX7_tellPhase 5 = .ok (.ifCond .ne 13, 3) := by decide +kernel
theorem dX7_tellPhase_8 : decode cX7_tellPhase 8 = .ok (.new 109, 3) := by decide +kernel
theorem dX7_tellPhase_11 : decode cX7_tellPhase 11 = .ok (.dup, 1) := by decide +kernel
theorem dX7_tellPhase_12 : decode cX7_tellPhase 12 = .ok (.ldc 164, 2) := by decide +kernel
theorem dX7_tellPhase_14 : decode cX7_tellPhase 14 = .ok (.invokespecial 111, 3) := by decide +kernel
theorem dX7_tellPhase_17 : decode cX7_tellPhase 17 = .ok (.athrow, 1) := by decide +kernel
theorem dX7_tellPhase_18 : decode cX7_tellPhase 18 = .ok (.aload_n 0, 1) := by decide +kernel
theorem dX7_tellPhase_19 : decode cX7_tellPhase 19 = .ok (.getfield 32, 3) := by decide +kernel
theorem dX7_tellPhase_22 : decode cX7_tellPhase 22 = .ok (.aload_n 0, 1) := by decide +kernel
theorem dX7_tellPhase_23 : decode cX7_tellPhase 23 = .ok (.getfield 12, 3) := by decide +kernel
theorem dX7_tellPhase_26 : decode cX7_tellPhase 26 = .ok (.invokevirtual 166, 3) := by decide +kernel
theorem dX7_tellPhase_29 : decode cX7_tellPhase 29 = .ok (.aload_n 0, 1) := by decide +kernel
theorem dX7_tellPhase_30 : decode cX7_tellPhase 30 = .ok (.getfield 67, 3) := by decide +kernel
theorem dX7_tellPhase_33 : decode cX7_tellPhase 33 = .ok (.iconst 0, 1) := by decide +kernel
theorem dX7_tellPhase_34 : decode cX7_tellPhase 34 = .ok (.invokevirtual 309, 3) := by decide +kernel
theorem dX7_tellPhase_37 : decode cX7_tellPhase 37 = .ok (.iconst 0, 1) := by decide +kernel
theorem dX7_tellPhase_38 : decode cX7_tellPhase 38 = .ok (.istore_n 2, 1) := by decide +kernel
theorem dX7_tellPhase_39 : decode cX7_tellPhase 39 = .ok (.iload_n 2, 1) := by decide +kernel
theorem dX7_tellPhase_40 : decode cX7_tellPhase 40 = .ok (.aload_n 0, 1) := by decide +kernel
theorem dX7_tellPhase_41 : decode cX7_tellPhase 41 = .ok (.getfield 32, 3) := by decide +kernel
theorem dX7_tellPhase_44 : decode cX7_tellPhase 44 = .ok (.iload_n 1, 1) := by decide +kernel
theorem dX7_tellPhase_45 : decode cX7_tellPhase 45 = .ok (.invokevirtual 170, 3) := by decide +kernel
theorem dX7_tellPhase_48 : decode cX7_tellPhase 48 = .ok (.if_icmp .ge 36, 3) := by decide +kernel
theorem dX7_tellPhase_51 : decode cX7_tellPhase 51 = .ok (.iload_n 2, 1) := by decide +kernel
theorem dX7_tellPhase_52 : decode cX7_tellPhase 52 = .ok (.ifCond .le 13, 3) := by decide +kernel
theorem dX7_tellPhase_55 : decode cX7_tellPhase 55 = .ok (.aload_n 0, 1) := by decide +kernel
theorem dX7_tellPhase_56 : decode cX7_tellPhase 56 = .ok (.getfield 67, 3) := by decide +kernel
theorem dX7_tellPhase_59 : decode cX7_tellPhase 59 = .ok (.bipush 60, 2) := by decide +kernel
theorem dX7_tellPhase_61 : decode cX7_tellPhase 61 = .ok (.invokevirtual 317, 3) := by decide +kernel
theorem dX7_tellPhase_64 : decode cX7_tellPhase 64 = .ok (.pop, 1) := by decide +kernel
theorem dX7_tellPhase_65 : decode cX7_tellPhase 65 = .ok (.aload_n 0, 1) := by decide +kernel
theorem dX7_tellPhase_66 : decode cX7_tellPhase 66 = .ok (.aload_n 0, 1) := by decide +kernel
theorem dX7_tellPhase_67 : decode cX7_tellPhase 67 = .ok (.getfield 32, 3) := by decide +kernel
theorem dX7_tellPhase_70 : decode cX7_tellPhase 70 = .ok (.iload_n 1, 1) := by decide +kernel
theorem dX7_tellPhase_71 : decode cX7_tellPhase 71 = .ok (.iload_n 2, 1) := by decide +kernel
theorem dX7_tellPhase_72 : decode cX7_tellPhase 72 = .ok (.invokevirtual 176, 3) := by decide +kernel
theorem dX7_tellPhase_75 : decode cX7_tellPhase 75 = .ok (.invokevirtual 321, 3) := by decide +kernel
theorem dX7_tellPhase_78 : decode cX7_tellPhase 78 = .ok (.iinc 2 1, 3) := by decide +kernel
theorem dX7_tellPhase_81 : decode cX7_tellPhase 81 = .ok (.goto (-42), 3) := by decide +kernel
theorem dX7_tellPhase_84 : decode cX7_tellPhase 84 = .ok (.aload_n 0, 1) := by decide +kernel
theorem dX7_tellPhase_85 : decode cX7_tellPhase 85 = .ok (.getfield 67, 3) := by decide +kernel
theorem dX7_tellPhase_88 : decode cX7_tellPhase 88 = .ok (.bipush 61, 2) := by decide +kernel
theorem dX7_tellPhase_90 : decode cX7_tellPhase 90 = .ok (.invokevirtual 317, 3) := by decide +kernel
theorem dX7_tellPhase_93 : decode cX7_tellPhase 93 = .ok (.pop, 1) := by decide +kernel
theorem dX7_tellPhase_94 : decode cX7_tellPhase 94 = .ok (.aload_n 0, 1) := by decide +kernel
theorem dX7_tellPhase_95 : decode cX7_tellPhase 95 = .ok (.getfield 67, 3) := by decide +kernel
theorem dX7_tellPhase_98 : decode cX7_tellPhase 98 = .ok (.aload_n 0, 1) := by decide +kernel
theorem dX7_tellPhase_99 : decode cX7_tellPhase 99 = .ok (.getfield 32, 3) := by decide +kernel
theorem dX7_tellPhase_102 : decode cX7_tellPhase 102 = .ok (.iload_n 1, 1) := by decide +kernel
theorem dX7_tellPhase_103 : decode cX7_tellPhase 103 = .ok (.invokevirtual 173, 3) := by decide +kernel
theorem dX7_tellPhase_106 : decode cX7_tellPhase 106 = .ok (.invokevirtual 324, 3) := by decide +kernel
theorem dX7_tellPhase_109 : decode cX7_tellPhase 109 = .ok (.pop, 1) := by decide +kernel
theorem dX7_tellPhase_110 : decode cX7_tellPhase 110 = .ok (.aload_n 0, 1) := by decide +kernel
theorem dX7_tellPhase_111 : decode cX7_tellPhase 111 = .ok (.getfield 67, 3) := by decide +kernel
theorem dX7_tellPhase_114 : decode cX7_tellPhase 114 = .ok (.invokevirtual 316, 3) := by decide +kernel
theorem dX7_tellPhase_117 : decode cX7_tellPhase 117 = .ok (.ireturn, 1) := by decide +kernel
theorem dX7_tellSides_0 : decode cX7_tellSides 0 = .ok (.aload_n 0, 1) := by decide +kernel
theorem dX7_tellSides_1 : decode cX7_tellSides 1 = .ok (.getfield 67, 3) := by decide +kernel
theorem dX7_tellSides_4 : decode cX7_tellSides 4 = .ok (.iconst 0, 1) := by decide +kernel
theorem dX7_tellSides_5 : decode cX7_tellSides 5 = .ok (.invokevirtual 309, 3) := by decide +kernel
theorem dX7_tellSides_8 : decode cX7_tellSides 8 = .ok (.aload_n 0, 1) := by decide +kernel
theorem dX7_tellSides_9 : decode cX7_tellSides 9 = .ok (.aload_n 0, 1) := by decide +kernel
theorem dX7_tellSides_10 : decode cX7_tellSides 10 = .ok (.getfield 12, 3) := by decide +kernel
theorem dX7_tellSides_13 : decode cX7_tellSides 13 = .ok (.invokevirtual 123, 3) := by decide +kernel
theorem dX7_tellSides_16 : decode cX7_tellSides 16 = .ok (.aload_n 0, 1) := by decide +kernel
theorem dX7_tellSides_17 : decode cX7_tellSides 17 = .ok (.getfield 12, 3) := by decide +kernel
theorem dX7_tellSides_20 : decode cX7_tellSides 20 = .ok (.getfield 327, 3) := by decide +kernel
theorem dX7_tellSides_23 : decode cX7_tellSides 23 = .ok (.iconst (-1), 1) := by decide +kernel
theorem dX7_tellSides_24 : decode cX7_tellSides 24 = .ok (.ixor, 1) := by decide +kernel
theorem dX7_tellSides_25 : decode cX7_tellSides 25 = .ok (.iand, 1) := by decide +kernel
theorem dX7_tellSides_26 : decode cX7_tellSides 26 = .ok (.invokevirtual 321, 3) := by decide +kernel
theorem dX7_tellSides_29 : decode cX7_tellSides 29 = .ok (.aload_n 0, 1) := by decide +kernel
theorem dX7_tellSides_30 : decode cX7_tellSides 30 = .ok (.getfield 67, 3) := by decide +kernel
theorem dX7_tellSides_33 : decode cX7_tellSides 33 = .ok (.bipush 124, 2) := by decide +kernel
theorem dX7_tellSides_35 : decode cX7_tellSides 35 = .ok (.invokevirtual 317, 3) := by decide +kernel
theorem dX7_tellSides_38 : decode cX7_tellSides 38 = .ok (.pop, 1) := by decide +kernel
theorem dX7_tellSides_39 : decode cX7_tellSides 39 = .ok (.aload_n 0, 1) := by decide +kernel
theorem dX7_tellSides_40 : decode cX7_tellSides 40 = .ok (.aload_n 0, 1) := by decide +kernel
theorem dX7_tellSides_41 : decode cX7_tellSides 41 = .ok (.getfield 12, 3) := by decide +kernel
theorem dX7_tellSides_44 : decode cX7_tellSides 44 = .ok (.getfield 327, 3) := by decide +kernel
theorem dX7_tellSides_47 : decode cX7_tellSides 47 = .ok (.invokevirtual 321, 3) := by decide +kernel
theorem dX7_tellSides_50 : decode cX7_tellSides 50 = .ok (.aload_n 0, 1) := by decide +kernel
theorem dX7_tellSides_51 : decode cX7_tellSides 51 = .ok (.getfield 67, 3) := by decide +kernel
theorem dX7_tellSides_54 : decode cX7_tellSides 54 = .ok (.invokevirtual 316, 3) := by decide +kernel
theorem dX7_tellSides_57 : decode cX7_tellSides 57 = .ok (.ireturn, 1) := by decide +kernel
theorem dX7_character_0 : decode cX7_character 0 = .ok (.iload_n 1, 1) := by decide +kernel
theorem dX7_character_1 : decode cX7_character 1 = .ok (.ifCond .lt 14, 3) := by decide +kernel
theorem dX7_character_4 : decode cX7_character 4 = .ok (.iload_n 1, 1) := by decide +kernel
theorem dX7_character_5 : decode cX7_character 5 = .ok (.aload_n 0, 1) := by decide +kernel
theorem dX7_character_6 : decode cX7_character 6 = .ok (.getfield 67, 3) := by decide +kernel
theorem dX7_character_9 : decode cX7_character 9 = .ok (.invokevirtual 316, 3) := by decide +kernel
theorem dX7_character_12 : decode cX7_character 12 = .ok (.if_icmp .lt 14, 3) := by decide +kernel
theorem dX7_character_15 : decode cX7_character 15 = .ok (.new 109, 3) := by decide +kernel
theorem dX7_character_18 : decode cX7_character 18 = .ok (.dup, 1) := by decide +kernel
theorem dX7_character_19 : decode cX7_character 19 = .ok (.ldc_w 330, 3) := by decide +kernel
theorem dX7_character_22 : decode cX7_character 22 = .ok (.invokespecial 111, 3) := by decide +kernel
theorem dX7_character_25 : decode cX7_character 25 = .ok (.athrow, 1) := by decide +kernel
theorem dX7_character_26 : decode cX7_character 26 = .ok (.aload_n 0, 1) := by decide +kernel
theorem dX7_character_27 : decode cX7_character 27 = .ok (.getfield 67, 3) := by decide +kernel
theorem dX7_character_30 : decode cX7_character 30 = .ok (.iload_n 1, 1) := by decide +kernel
theorem dX7_character_31 : decode cX7_character 31 = .ok (.invokevirtual 332, 3) := by decide +kernel
theorem dX7_character_34 : decode cX7_character 34 = .ok (.ireturn, 1) := by decide +kernel
theorem dX7_account_0 : decode cX7_account 0 = .ok (.iload_n 1, 1) := by decide +kernel
theorem dX7_account_1 : decode cX7_account 1 = .ok (.tableswitch 150 0 10 #[59, 67, 75, 83, 94, 102, 110, 118, 126, 134, 142], 59) := by decide +kernel
theorem dX7_account_60 : decode cX7_account 60 = .ok (.aload_n 0, 1) := by decide +kernel
theorem dX7_account_61 : decode cX7_account 61 = .ok (.getfield 12, 3) := by decide +kernel
theorem dX7_account_64 : decode cX7_account 64 = .ok (.getfield 223, 3) := by decide +kernel
theorem dX7_account_67 : decode cX7_account 67 = .ok (.ireturn, 1) := by decide +kernel
theorem dX7_account_68 : decode cX7_account 68 = .ok (.aload_n 0, 1) := by decide +kernel
theorem dX7_account_69 : decode cX7_account 69 = .ok (.getfield 12, 3) := by decide +kernel
theorem dX7_account_72 : decode cX7_account 72 = .ok (.invokevirtual 336, 3) := by decide +kernel
theorem dX7_account_75 : decode cX7_account 75 = .ok (.ireturn, 1) := by decide +kernel
theorem dX7_account_76 : decode cX7_account 76 = .ok (.aload_n 0, 1) := by decide +kernel
theorem dX7_account_77 : decode cX7_account 77 = .ok (.getfield 12, 3) := by decide +kernel
theorem dX7_account_80 : decode cX7_account 80 = .ok (.invokevirtual 339, 3) := by decide +kernel
theorem dX7_account_83 : decode cX7_account 83 = .ok (.ireturn, 1) := by decide +kernel
theorem dX7_account_84 : decode cX7_account 84 = .ok (.aload_n 0, 1) := by decide +kernel
theorem dX7_account_85 : decode cX7_account 85 = .ok (.getfield 12, 3) := by decide +kernel
theorem dX7_account_88 : decode cX7_account 88 = .ok (.getfield 327, 3) := by decide +kernel
theorem dX7_account_91 : decode cX7_account 91 = .ok (.invokestatic 342, 3) := by decide +kernel
theorem dX7_account_94 : decode cX7_account 94 = .ok (.ireturn, 1) := by decide +kernel
theorem dX7_account_95 : decode cX7_account 95 = .ok (.aload_n 0, 1) := by decide +kernel
theorem dX7_account_96 : decode cX7_account 96 = .ok (.getfield 12, 3) := by decide +kernel
theorem dX7_account_99 : decode cX7_account 99 = .ok (.invokevirtual 347, 3) := by decide +kernel
theorem dX7_account_102 : decode cX7_account 102 = .ok (.ireturn, 1) := by decide +kernel
theorem dX7_account_103 : decode cX7_account 103 = .ok (.aload_n 0, 1) := by decide +kernel
theorem dX7_account_104 : decode cX7_account 104 = .ok (.getfield 12, 3) := by decide +kernel
theorem dX7_account_107 : decode cX7_account 107 = .ok (.getfield 350, 3) := by decide +kernel
theorem dX7_account_110 : decode cX7_account 110 = .ok (.ireturn, 1) := by decide +kernel
theorem dX7_account_111 : decode cX7_account 111 = .ok (.aload_n 0, 1) := by decide +kernel
theorem dX7_account_112 : decode cX7_account 112 = .ok (.getfield 12, 3) := by decide +kernel
theorem dX7_account_115 : decode cX7_account 115 = .ok (.getfield 353, 3) := by decide +kernel
theorem dX7_account_118 : decode cX7_account 118 = .ok (.ireturn, 1) := by decide +kernel
theorem dX7_account_119 : decode cX7_account 119 = .ok (.aload_n 0, 1) := by decide +kernel
theorem dX7_account_120 : decode cX7_account 120 = .ok (.getfield 12, 3) := by decide +kernel
theorem dX7_account_123 : decode cX7_account 123 = .ok (.getfield 356, 3) := by decide +kernel
theorem dX7_account_126 : decode cX7_account 126 = .ok (.ireturn, 1) := by decide +kernel
theorem dX7_account_127 : decode cX7_account 127 = .ok (.aload_n 0, 1) := by decide +kernel
theorem dX7_account_128 : decode cX7_account 128 = .ok (.getfield 12, 3) := by decide +kernel
theorem dX7_account_131 : decode cX7_account 131 = .ok (.invokevirtual 359, 3) := by decide +kernel
theorem dX7_account_134 : decode cX7_account 134 = .ok (.ireturn, 1) := by decide +kernel
theorem dX7_account_135 : decode cX7_account 135 = .ok (.aload_n 0, 1) := by decide +kernel
theorem dX7_account_136 : decode cX7_account 136 = .ok (.getfield 53, 3) := by decide +kernel
theorem dX7_account_139 : decode cX7_account 139 = .ok (.invokevirtual 270, 3) := by decide +kernel
theorem dX7_account_142 : decode cX7_account 142 = .ok (.ireturn, 1) := by decide +kernel
theorem dX7_account_143 : decode cX7_account 143 = .ok (.aload_n 0, 1) := by decide +kernel
theorem dX7_account_144 : decode cX7_account 144 = .ok (.getfield 25, 3) := by decide +kernel
theorem dX7_account_147 : decode cX7_account 147 = .ok (.invokevirtual 362, 3) := by decide +kernel
theorem dX7_account_150 : decode cX7_account 150 = .ok (.ireturn, 1) := by decide +kernel
theorem dX7_account_151 : decode cX7_account 151 = .ok (.new 139, 3) := by decide +kernel
theorem dX7_account_154 : decode cX7_account 154 = .ok (.dup, 1) := by decide +kernel
theorem dX7_account_155 : decode cX7_account 155 = .ok (.ldc_w 365, 3) := by decide +kernel
theorem dX7_account_158 : decode cX7_account 158 = .ok (.invokespecial 143, 3) := by decide +kernel
theorem dX7_account_161 : decode cX7_account 161 = .ok (.athrow, 1) := by decide +kernel
theorem dX7_meanWeight_0 : decode cX7_meanWeight 0 = .ok (.aload_n 0, 1) := by decide +kernel
theorem dX7_meanWeight_1 : decode cX7_meanWeight 1 = .ok (.getfield 12, 3) := by decide +kernel
theorem dX7_meanWeight_4 : decode cX7_meanWeight 4 = .ok (.invokevirtual 336, 3) := by decide +kernel
theorem dX7_meanWeight_7 : decode cX7_meanWeight 7 = .ok (.istore_n 1, 1) := by decide +kernel
theorem dX7_meanWeight_8 : decode cX7_meanWeight 8 = .ok (.iload_n 1, 1) := by decide +kernel
theorem dX7_meanWeight_9 : decode cX7_meanWeight 9 = .ok (.ifCond .ne 13, 3) := by decide +kernel
theorem dX7_meanWeight_12 : decode cX7_meanWeight 12 = .ok (.new 367, 3) := by decide +kernel
theorem dX7_meanWeight_15 : decode cX7_meanWeight 15 = .ok (.dup, 1) := by decide +kernel
theorem dX7_meanWeight_16 : decode cX7_meanWeight 16 = .ok (.ldc 254, 2) := by decide +kernel
theorem dX7_meanWeight_18 : decode cX7_meanWeight 18 = .ok (.invokespecial 369, 3) := by decide +kernel
theorem dX7_meanWeight_21 : decode cX7_meanWeight 21 = .ok (.athrow, 1) := by decide +kernel
theorem dX7_meanWeight_22 : decode cX7_meanWeight 22 = .ok (.aload_n 0, 1) := by decide +kernel
theorem dX7_meanWeight_23 : decode cX7_meanWeight 23 = .ok (.getfield 12, 3) := by decide +kernel
theorem dX7_meanWeight_26 : decode cX7_meanWeight 26 = .ok (.invokevirtual 339, 3) := by decide +kernel
theorem dX7_meanWeight_29 : decode cX7_meanWeight 29 = .ok (.i2d, 1) := by decide +kernel
theorem dX7_meanWeight_30 : decode cX7_meanWeight 30 = .ok (.iload_n 1, 1) := by decide +kernel
theorem dX7_meanWeight_31 : decode cX7_meanWeight 31 = .ok (.i2d, 1) := by decide +kernel
theorem dX7_meanWeight_32 : decode cX7_meanWeight 32 = .ok (.ddiv, 1) := by decide +kernel
theorem dX7_meanWeight_33 : decode cX7_meanWeight 33 = .ok (.dreturn, 1) := by decide +kernel
theorem dX7_feudShare_0 : decode cX7_feudShare 0 = .ok (.aload_n 0, 1) := by decide +kernel
theorem dX7_feudShare_1 : decode cX7_feudShare 1 = .ok (.getfield 12, 3) := by decide +kernel
theorem dX7_feudShare_4 : decode cX7_feudShare 4 = .ok (.invokevirtual 339, 3) := by decide +kernel
theorem dX7_feudShare_7 : decode cX7_feudShare 7 = .ok (.istore_n 1, 1) := by decide +kernel
theorem dX7_feudShare_8 : decode cX7_feudShare 8 = .ok (.iload_n 1, 1) := by decide +kernel
theorem dX7_feudShare_9 : decode cX7_feudShare 9 = .ok (.ifCond .ne 13, 3) := by decide +kernel
theorem dX7_feudShare_12 : decode cX7_feudShare 12 = .ok (.new 367, 3) := by decide +kernel
theorem dX7_feudShare_15 : decode cX7_feudShare 15 = .ok (.dup, 1) := by decide +kernel
theorem dX7_feudShare_16 : decode cX7_feudShare 16 = .ok (.ldc 254, 2) := by decide +kernel
theorem dX7_feudShare_18 : decode cX7_feudShare 18 = .ok (.invokespecial 369, 3) := by decide +kernel
theorem dX7_feudShare_21 : decode cX7_feudShare 21 = .ok (.athrow, 1) := by decide +kernel
theorem dX7_feudShare_22 : decode cX7_feudShare 22 = .ok (.aload_n 0, 1) := by decide +kernel
theorem dX7_feudShare_23 : decode cX7_feudShare 23 = .ok (.getfield 12, 3) := by decide +kernel
theorem dX7_feudShare_26 : decode cX7_feudShare 26 = .ok (.invokevirtual 152, 3) := by decide +kernel
theorem dX7_feudShare_29 : decode cX7_feudShare 29 = .ok (.i2f, 1) := by decide +kernel
theorem dX7_feudShare_30 : decode cX7_feudShare 30 = .ok (.iload_n 1, 1) := by decide +kernel
theorem dX7_feudShare_31 : decode cX7_feudShare 31 = .ok (.i2f, 1) := by decide +kernel
theorem dX7_feudShare_32 : decode cX7_feudShare 32 = .ok (.fdiv, 1) := by decide +kernel
theorem dX7_feudShare_33 : decode cX7_feudShare 33 = .ok (.freturn, 1) := by decide +kernel
theorem dX7_undo_0 : decode cX7_undo 0 = .ok (.aload_n 0, 1) := by decide +kernel
theorem dX7_undo_1 : decode cX7_undo 1 = .ok (.getfield 25, 3) := by decide +kernel
theorem dX7_undo_4 : decode cX7_undo 4 = .ok (.aload_n 0, 1) := by decide +kernel
theorem dX7_undo_5 : decode cX7_undo 5 = .ok (.getfield 12, 3) := by decide +kernel
theorem dX7_undo_8 : decode cX7_undo 8 = .ok (.invokevirtual 370, 3) := by decide +kernel
theorem dX7_undo_11 : decode cX7_undo 11 = .ok (.ifCond .ne 14, 3) := by decide +kernel
theorem dX7_undo_14 : decode cX7_undo 14 = .ok (.new 238, 3) := by decide +kernel
theorem dX7_undo_17 : decode cX7_undo 17 = .ok (.dup, 1) := by decide +kernel
theorem dX7_undo_18 : decode cX7_undo 18 = .ok (.ldc_w 374, 3) := by decide +kernel
theorem dX7_undo_21 : decode cX7_undo 21 = .ok (.invokespecial 242, 3) := by decide +kernel
theorem dX7_undo_24 : decode cX7_undo 24 = .ok (.athrow, 1) := by decide +kernel
theorem dX7_undo_25 : decode cX7_undo 25 = .ok (.aload_n 0, 1) := by decide +kernel
theorem dX7_undo_26 : decode cX7_undo 26 = .ok (.getfield 25, 3) := by decide +kernel
theorem dX7_undo_29 : decode cX7_undo 29 = .ok (.invokevirtual 362, 3) := by decide +kernel
theorem dX7_undo_32 : decode cX7_undo 32 = .ok (.ireturn, 1) := by decide +kernel
theorem dX7_save_0 : decode cX7_save 0 = .ok (.aload_n 0, 1) := by decide +kernel
theorem dX7_save_1 : decode cX7_save 1 = .ok (.getfield 75, 3) := by decide +kernel
theorem dX7_save_4 : decode cX7_save 4 = .ok (.ifnonnull 14, 3) := by decide +kernel
theorem dX7_save_7 : decode cX7_save 7 = .ok (.aload_n 0, 1) := by decide +kernel
theorem dX7_save_8 : decode cX7_save 8 = .ok (.new 9, 3) := by decide +kernel
theorem dX7_save_11 : decode cX7_save 11 = .ok (.dup, 1) := by decide +kernel
theorem dX7_save_12 : decode cX7_save 12 = .ok (.invokespecial 11, 3) := by decide +kernel
theorem dX7_save_15 : decode cX7_save 15 = .ok (.putfield 75, 3) := by decide +kernel
theorem dX7_save_18 : decode cX7_save 18 = .ok (.aload_n 0, 1) := by decide +kernel
theorem dX7_save_19 : decode cX7_save 19 = .ok (.getfield 75, 3) := by decide +kernel
theorem dX7_save_22 : decode cX7_save 22 = .ok (.aload_n 0, 1) := by decide +kernel
theorem dX7_save_23 : decode cX7_save 23 = .ok (.getfield 12, 3) := by decide +kernel
theorem dX7_save_26 : decode cX7_save 26 = .ok (.invokevirtual 376, 3) := by decide +kernel
theorem dX7_save_29 : decode cX7_save 29 = .ok (.aload_n 0, 1) := by decide +kernel
theorem dX7_save_30 : decode cX7_save 30 = .ok (.getfield 12, 3) := by decide +kernel
theorem dX7_save_33 : decode cX7_save 33 = .ok (.getfield 223, 3) := by decide +kernel
theorem dX7_save_36 : decode cX7_save 36 = .ok (.ireturn, 1) := by decide +kernel
theorem dX7_restore_0 : decode cX7_restore 0 = .ok (.aload_n 0, 1) := by decide +kernel
theorem dX7_restore_1 : decode cX7_restore 1 = .ok (.getfield 75, 3) := by decide +kernel
theorem dX7_restore_4 : decode cX7_restore 4 = .ok (.ifnonnull 14, 3) := by decide +kernel
theorem dX7_restore_7 : decode cX7_restore 7 = .ok (.new 238, 3) := by decide +kernel
theorem dX7_restore_10 : decode cX7_restore 10 = .ok (.dup, 1) := by decide +kernel
theorem dX7_restore_11 : decode cX7_restore 11 = .ok (.ldc_w 379, 3) := by decide +kernel
theorem dX7_restore_14 : decode cX7_restore 14 = .ok (.invokespecial 242, 3) := by decide +kernel
theorem dX7_restore_17 : decode cX7_restore 17 = .ok (.athrow, 1) := by decide +kernel
theorem dX7_restore_18 : decode cX7_restore 18 = .ok (.aload_n 0, 1) := by decide +kernel
theorem dX7_restore_19 : decode cX7_restore 19 = .ok (.getfield 12, 3) := by decide +kernel
theorem dX7_restore_22 : decode cX7_restore 22 = .ok (.aload_n 0, 1) := by decide +kernel
theorem dX7_restore_23 : decode cX7_restore 23 = .ok (.getfield 75, 3) := by decide +kernel
theorem dX7_restore_26 : decode cX7_restore 26 = .ok (.invokevirtual 376, 3) := by decide +kernel
theorem dX7_restore_29 : decode cX7_restore 29 = .ok (.aload_n 0, 1) := by decide +kernel
theorem dX7_restore_30 : decode cX7_restore 30 = .ok (.getfield 25, 3) := by decide +kernel
theorem dX7_restore_33 : decode cX7_restore 33 = .ok (.invokevirtual 381, 3) := by decide +kernel
theorem dX7_restore_36 : decode cX7_restore 36 = .ok (.aload_n 0, 1) := by decide +kernel
theorem dX7_restore_37 : decode cX7_restore 37 = .ok (.getfield 12, 3) := by decide +kernel
theorem dX7_restore_40 : decode cX7_restore 40 = .ok (.getfield 223, 3) := by decide +kernel
theorem dX7_restore_43 : decode cX7_restore 43 = .ok (.ireturn, 1) := by decide +kernel
theorem dX7_refuses_0 : decode cX7_refuses 0 = .ok (.iload_n 1, 1) := by decide +kernel
theorem dX7_refuses_1 : decode cX7_refuses 1 = .ok (.tableswitch 269 0 5 #[39, 69, 75, 147, 199, 206], 39) := by decide +kernel
theorem dX7_refuses_40 : decode cX7_refuses 40 = .ok (.aload_n 0, 1) := by decide +kernel
theorem dX7_refuses_41 : decode cX7_refuses 41 = .ok (.aload_n 0, 1) := by decide +kernel
theorem dX7_refuses_42 : decode cX7_refuses 42 = .ok (.getfield 12, 3) := by decide +kernel
theorem dX7_refuses_45 : decode cX7_refuses 45 = .ok (.getfield 223, 3) := by decide +kernel
theorem dX7_refuses_48 : decode cX7_refuses 48 = .ok (.bipush 9, 2) := by decide +kernel
theorem dX7_refuses_50 : decode cX7_refuses 50 = .ok (.if_icmp .lt 7, 3) := by decide +kernel
theorem dX7_refuses_53 : decode cX7_refuses 53 = .ok (.iconst 1, 1) := by decide +kernel
theorem dX7_refuses_54 : decode cX7_refuses 54 = .ok (.goto 4, 3) := by decide +kernel
theorem dX7_refuses_57 : decode cX7_refuses 57 = .ok (.iconst 0, 1) := by decide +kernel
theorem dX7_refuses_58 : decode cX7_refuses 58 = .ok (.iconst 1, 1) := by decide +kernel
theorem dX7_refuses_59 : decode cX7_refuses 59 = .ok (.aload_n 0, 1) := by decide +kernel
theorem dX7_refuses_60 : decode cX7_refuses 60 = .ok (.getfield 12, 3) := by decide +kernel
theorem dX7_refuses_63 : decode cX7_refuses 63 = .ok (.getfield 223, 3) := by decide +kernel
theorem dX7_refuses_66 : decode cX7_refuses 66 = .ok (.invokevirtual 384, 3) := by decide +kernel
theorem dX7_refuses_69 : decode cX7_refuses 69 = .ok (.ireturn, 1) := by decide +kernel
theorem dX7_refuses_70 : decode cX7_refuses 70 = .ok (.aload_n 0, 1) := by decide +kernel
theorem dX7_refuses_71 : decode cX7_refuses 71 = .ok (.iload_n 2, 1) := by decide +kernel
theorem dX7_refuses_72 : decode cX7_refuses 72 = .ok (.invokevirtual 388, 3) := by decide +kernel
theorem dX7_refuses_75 : decode cX7_refuses 75 = .ok (.ireturn, 1) := by decide +kernel
theorem dX7_refuses_76 : decode cX7_refuses 76 = .ok (.aload_n 0, 1) := by decide +kernel
theorem dX7_refuses_77 : decode cX7_refuses 77 = .ok (.iload_n 2, 1) := by decide +kernel
theorem dX7_refuses_78 : decode cX7_refuses 78 = .ok (.iload_n 3, 1) := by decide +kernel
theorem dX7_refuses_79 : decode cX7_refuses 79 = .ok (.invokevirtual 391, 3) := by decide +kernel
theorem dX7_refuses_82 : decode cX7_refuses 82 = .ok (.ifCond .ne 60, 3) := by decide +kernel
theorem dX7_refuses_85 : decode cX7_refuses 85 = .ok (.aload_n 0, 1) := by decide +kernel
theorem dX7_refuses_86 : decode cX7_refuses 86 = .ok (.iload 4, 2) := by decide +kernel
theorem dX7_refuses_88 : decode cX7_refuses 88 = .ok (.iconst 1, 1) := by decide +kernel
theorem dX7_refuses_89 : decode cX7_refuses 89 = .ok (.if_icmp .lt 10, 3) := by decide +kernel
theorem dX7_refuses_92 : decode cX7_refuses 92 = .ok (.iload 4, 2) := by decide +kernel
theorem dX7_refuses_94 : decode cX7_refuses 94 = .ok (.bipush 99, 2) := by decide +kernel
theorem dX7_refuses_96 : decode cX7_refuses 96 = .ok (.if_icmp .le 7, 3) := by decide +kernel
theorem dX7_refuses_99 : decode cX7_refuses 99 = .ok (.iconst 1, 1) := by decide +kernel
theorem dX7_refuses_100 : decode cX7_refuses 100 = .ok (.goto 4, 3) := by decide +kernel
theorem dX7_refuses_103 : decode cX7_refuses 103 = .ok (.iconst 0, 1) := by decide +kernel
theorem dX7_refuses_104 : decode cX7_refuses 104 = .ok (.iconst 4, 1) := by decide +kernel
theorem dX7_refuses_105 : decode cX7_refuses 105 = .ok (.iload 4, 2) := by decide +kernel
theorem dX7_refuses_107 : decode cX7_refuses 107 = .ok (.invokevirtual 384, 3) := by decide +kernel
theorem dX7_refuses_110 : decode cX7_refuses 110 = .ok (.ifCond .ne 32, 3) := by decide +kernel
theorem dX7_refuses_113 : decode cX7_refuses 113 = .ok (.aload_n 0, 1) := by decide +kernel
theorem dX7_refuses_114 : decode cX7_refuses 114 = .ok (.aload_n 0, 1) := by decide +kernel
theorem dX7_refuses_115 : decode cX7_refuses 115 = .ok (.getfield 12, 3) := by decide +kernel
theorem dX7_refuses_118 : decode cX7_refuses 118 = .ok (.iload_n 2, 1) := by decide +kernel
theorem dX7_refuses_119 : decode cX7_refuses 119 = .ok (.iload_n 3, 1) := by decide +kernel
theorem dX7_refuses_120 : decode cX7_refuses 120 = .ok (.invokevirtual 112, 3) := by decide +kernel
theorem dX7_refuses_123 : decode cX7_refuses 123 = .ok (.iload 4, 2) := by decide +kernel
theorem dX7_refuses_125 : decode cX7_refuses 125 = .ok (.if_icmp .ne 7, 3) := by decide +kernel
theorem dX7_refuses_128 : decode cX7_refuses 128 = .ok (.iconst 1, 1) := by decide +kernel
theorem dX7_refuses_129 : decode cX7_refuses 129 = .ok (.goto 4, 3) := by decide +kernel
theorem dX7_refuses_132 : decode cX7_refuses 132 = .ok (.iconst 0, 1) := by decide +kernel
theorem dX7_refuses_133 : decode cX7_refuses 133 = .ok (.iconst 5, 1) := by decide +kernel
theorem dX7_refuses_134 : decode cX7_refuses 134 = .ok (.iload 4, 2) := by decide +kernel
theorem dX7_refuses_136 : decode cX7_refuses 136 = .ok (.invokevirtual 384, 3) := by decide +kernel
theorem dX7_refuses_139 : decode cX7_refuses 139 = .ok (.ifCond .eq 7, 3) := by decide +kernel
theorem dX7_refuses_142 : decode cX7_refuses 142 = .ok (.iconst 1, 1) := by decide +kernel
theorem dX7_refuses_143 : decode cX7_refuses 143 = .ok (.goto 4, 3) := by decide +kernel
theorem dX7_refuses_146 : decode cX7_refuses 146 = .ok (.iconst 0, 1) := by decide +kernel
theorem dX7_refuses_147 : decode cX7_refuses 147 = .ok (.ireturn, 1) := by decide +kernel
theorem dX7_refuses_148 : decode cX7_refuses 148 = .ok (.aload_n 0, 1) := by decide +kernel
theorem dX7_refuses_149 : decode cX7_refuses 149 = .ok (.getfield 12, 3) := by decide +kernel
theorem dX7_refuses_152 : decode cX7_refuses 152 = .ok (.iload_n 2, 1) := by decide +kernel
theorem dX7_refuses_153 : decode cX7_refuses 153 = .ok (.iload_n 3, 1) := by decide +kernel
theorem dX7_refuses_154 : decode cX7_refuses 154 = .ok (.invokevirtual 112, 3) := by decide +kernel
theorem dX7_refuses_157 : decode cX7_refuses 157 = .ok (.ifCond .ne 7, 3) := by decide +kernel
theorem dX7_refuses_160 : decode cX7_refuses 160 = .ok (.iconst 1, 1) := by decide +kernel
theorem dX7_refuses_161 : decode cX7_refuses 161 = .ok (.goto 4, 3) := by decide +kernel
theorem dX7_refuses_164 : decode cX7_refuses 164 = .ok (.iconst 0, 1) := by decide +kernel
theorem dX7_refuses_165 : decode cX7_refuses 165 = .ok (.istore 5, 2) := by decide +kernel
theorem dX7_refuses_167 : decode cX7_refuses 167 = .ok (.aload_n 0, 1) := by decide +kernel
theorem dX7_refuses_168 : decode cX7_refuses 168 = .ok (.iload_n 2, 1) := by decide +kernel
theorem dX7_refuses_169 : decode cX7_refuses 169 = .ok (.iload_n 3, 1) := by decide +kernel
theorem dX7_refuses_170 : decode cX7_refuses 170 = .ok (.invokevirtual 391, 3) := by decide +kernel
theorem dX7_refuses_173 : decode cX7_refuses 173 = .ok (.ifCond .ne 21, 3) := by decide +kernel
theorem dX7_refuses_176 : decode cX7_refuses 176 = .ok (.aload_n 0, 1) := by decide +kernel
theorem dX7_refuses_177 : decode cX7_refuses 177 = .ok (.iload 5, 2) := by decide +kernel
theorem dX7_refuses_179 : decode cX7_refuses 179 = .ok (.bipush 6, 2) := by decide +kernel
theorem dX7_refuses_181 : decode cX7_refuses 181 = .ok (.aload_n 0, 1) := by decide +kernel
theorem dX7_refuses_182 : decode cX7_refuses 182 = .ok (.getfield 12, 3) := by decide +kernel
theorem dX7_refuses_185 : decode cX7_refuses 185 = .ok (.invokevirtual 336, 3) := by decide +kernel
theorem dX7_refuses_188 : decode cX7_refuses 188 = .ok (.invokevirtual 384, 3) := by decide +kernel
theorem dX7_refuses_191 : decode cX7_refuses 191 = .ok (.ifCond .eq 7, 3) := by decide +kernel
theorem dX7_refuses_194 : decode cX7_refuses 194 = .ok (.iconst 1, 1) := by decide +kernel
theorem dX7_refuses_195 : decode cX7_refuses 195 = .ok (.goto 4, 3) := by decide +kernel
theorem dX7_refuses_198 : decode cX7_refuses 198 = .ok (.iconst 0, 1) := by decide +kernel
theorem dX7_refuses_199 : decode cX7_refuses 199 = .ok (.ireturn, 1) := by decide +kernel
theorem dX7_refuses_200 : decode cX7_refuses 200 = .ok (.aload_n 0, 1) := by decide +kernel
theorem dX7_refuses_201 : decode cX7_refuses 201 = .ok (.iload_n 2, 1) := by decide +kernel
theorem dX7_refuses_202 : decode cX7_refuses 202 = .ok (.iload_n 3, 1) := by decide +kernel
theorem dX7_refuses_203 : decode cX7_refuses 203 = .ok (.invokevirtual 391, 3) := by decide +kernel
theorem dX7_refuses_206 : decode cX7_refuses 206 = .ok (.ireturn, 1) := by decide +kernel
theorem dX7_refuses_207 : decode cX7_refuses 207 = .ok (.aload_n 0, 1) := by decide +kernel
theorem dX7_refuses_208 : decode cX7_refuses 208 = .ok (.iload_n 2, 1) := by decide +kernel
theorem dX7_refuses_209 : decode cX7_refuses 209 = .ok (.invokevirtual 388, 3) := by decide +kernel
theorem dX7_refuses_212 : decode cX7_refuses 212 = .ok (.ifCond .ne 52, 3) := by decide +kernel
theorem dX7_refuses_215 : decode cX7_refuses 215 = .ok (.aload_n 0, 1) := by decide +kernel
theorem dX7_refuses_216 : decode cX7_refuses 216 = .ok (.iload_n 3, 1) := by decide +kernel
theorem dX7_refuses_217 : decode cX7_refuses 217 = .ok (.ifCond .eq 12, 3) := by decide +kernel
theorem dX7_refuses_220 : decode cX7_refuses 220 = .ok (.iload_n 3, 1) := by decide +kernel
theorem dX7_refuses_221 : decode cX7_refuses 221 = .ok (.iconst 1, 1) := by decide +kernel
theorem dX7_refuses_222 : decode cX7_refuses 222 = .ok (.if_icmp .eq 7, 3) := by decide +kernel
theorem dX7_refuses_225 : decode cX7_refuses 225 = .ok (.iconst 1, 1) := by decide +kernel
theorem dX7_refuses_226 : decode cX7_refuses 226 = .ok (.goto 4, 3) := by decide +kernel
theorem dX7_refuses_229 : decode cX7_refuses 229 = .ok (.iconst 0, 1) := by decide +kernel
theorem dX7_refuses_230 : decode cX7_refuses 230 = .ok (.iconst 4, 1) := by decide +kernel
theorem dX7_refuses_231 : decode cX7_refuses 231 = .ok (.iload_n 3, 1) := by decide +kernel
theorem dX7_refuses_232 : decode cX7_refuses 232 = .ok (.invokevirtual 384, 3) := by decide +kernel
theorem dX7_refuses_235 : decode cX7_refuses 235 = .ok (.ifCond .ne 29, 3) := by decide +kernel
theorem dX7_refuses_238 : decode cX7_refuses 238 = .ok (.aload_n 0, 1) := by decide +kernel
theorem dX7_refuses_239 : decode cX7_refuses 239 = .ok (.aload_n 0, 1) := by decide +kernel
theorem dX7_refuses_240 : decode cX7_refuses 240 = .ok (.getfield 12, 3) := by decide +kernel
theorem dX7_refuses_243 : decode cX7_refuses 243 = .ok (.iload_n 2, 1) := by decide +kernel
theorem dX7_refuses_244 : decode cX7_refuses 244 = .ok (.invokevirtual 116, 3) := by decide +kernel
theorem dX7_refuses_247 : decode cX7_refuses 247 = .ok (.iload_n 3, 1) := by decide +kernel
theorem dX7_refuses_248 : decode cX7_refuses 248 = .ok (.if_icmp .ne 7, 3) := by decide +kernel
theorem dX7_refuses_251 : decode cX7_refuses 251 = .ok (.iconst 1, 1) := by decide +kernel
theorem dX7_refuses_252 : decode cX7_refuses 252 = .ok (.goto 4, 3) := by decide +kernel
theorem dX7_refuses_255 : decode cX7_refuses 255 = .ok (.iconst 0, 1) := by decide +kernel
theorem dX7_refuses_256 : decode cX7_refuses 256 = .ok (.iconst 5, 1) := by decide +kernel
theorem dX7_refuses_257 : decode cX7_refuses 257 = .ok (.iload_n 3, 1) := by decide +kernel
theorem dX7_refuses_258 : decode cX7_refuses 258 = .ok (.invokevirtual 384, 3) := by decide +kernel
theorem dX7_refuses_261 : decode cX7_refuses 261 = .ok (.ifCond .eq 7, 3) := by decide +kernel
theorem dX7_refuses_264 : decode cX7_refuses 264 = .ok (.iconst 1, 1) := by decide +kernel
theorem dX7_refuses_265 : decode cX7_refuses 265 = .ok (.goto 4, 3) := by decide +kernel
theorem dX7_refuses_268 : decode cX7_refuses 268 = .ok (.iconst 0, 1) := by decide +kernel
theorem dX7_refuses_269 : decode cX7_refuses 269 = .ok (.ireturn, 1) := by decide +kernel
theorem dX7_refuses_270 : decode cX7_refuses 270 = .ok (.aload_n 0, 1) := by decide +kernel
theorem dX7_refuses_271 : decode cX7_refuses 271 = .ok (.aload_n 0, 1) := by decide +kernel
theorem dX7_refuses_272 : decode cX7_refuses 272 = .ok (.invokevirtual 196, 3) := by decide +kernel
theorem dX7_refuses_275 : decode cX7_refuses 275 = .ok (.bipush 7, 2) := by decide +kernel
theorem dX7_refuses_277 : decode cX7_refuses 277 = .ok (.aload_n 0, 1) := by decide +kernel
theorem dX7_refuses_278 : decode cX7_refuses 278 = .ok (.getfield 12, 3) := by decide +kernel
theorem dX7_refuses_281 : decode cX7_refuses 281 = .ok (.getfield 223, 3) := by decide +kernel
theorem dX7_refuses_284 : decode cX7_refuses 284 = .ok (.invokevirtual 384, 3) := by decide +kernel
theorem dX7_refuses_287 : decode cX7_refuses 287 = .ok (.ireturn, 1) := by decide +kernel
theorem dX7_refusesPair_0 : decode cX7_refusesPair 0 = .ok (.aload_n 0, 1) := by decide +kernel
theorem dX7_refusesPair_1 : decode cX7_refusesPair 1 = .ok (.iload_n 1, 1) := by decide +kernel
theorem dX7_refusesPair_2 : decode cX7_refusesPair 2 = .ok (.invokevirtual 388, 3) := by decide +kernel
theorem dX7_refusesPair_5 : decode cX7_refusesPair 5 = .ok (.ifCond .ne 30, 3) := by decide +kernel
theorem dX7_refusesPair_8 : decode cX7_refusesPair 8 = .ok (.aload_n 0, 1) := by decide +kernel
theorem dX7_refusesPair_9 : decode cX7_refusesPair 9 = .ok (.iload_n 2, 1) := by decide +kernel
theorem dX7_refusesPair_10 : decode cX7_refusesPair 10 = .ok (.invokevirtual 388, 3) := by decide +kernel
theorem dX7_refusesPair_13 : decode cX7_refusesPair 13 = .ok (.ifCond .ne 22, 3) := by decide +kernel
theorem dX7_refusesPair_16 : decode cX7_refusesPair 16 = .ok (.aload_n 0, 1) := by decide +kernel
theorem dX7_refusesPair_17 : decode cX7_refusesPair 17 = .ok (.iload_n 1, 1) := by decide +kernel
theorem dX7_refusesPair_18 : decode cX7_refusesPair 18 = .ok (.iload_n 2, 1) := by decide +kernel
theorem dX7_refusesPair_19 : decode cX7_refusesPair 19 = .ok (.if_icmp .ne 7, 3) := by decide +kernel
theorem dX7_refusesPair_22 : decode cX7_refusesPair 22 = .ok (.iconst 1, 1) := by decide +kernel
theorem dX7_refusesPair_23 : decode cX7_refusesPair 23 = .ok (.goto 4, 3) := by decide +kernel
theorem dX7_refusesPair_26 : decode cX7_refusesPair 26 = .ok (.iconst 0, 1) := by decide +kernel
theorem dX7_refusesPair_27 : decode cX7_refusesPair 27 = .ok (.iconst 3, 1) := by decide +kernel
theorem dX7_refusesPair_28 : decode cX7_refusesPair 28 = .ok (.iload_n 1, 1) := by decide +kernel
theorem dX7_refusesPair_29 : decode cX7_refusesPair 29 = .ok (.invokevirtual 384, 3) := by decide +kernel
theorem dX7_refusesPair_32 : decode cX7_refusesPair 32 = .ok (.ifCond .eq 7, 3) := by decide +kernel
theorem dX7_refusesPair_35 : decode cX7_refusesPair 35 = .ok (.iconst 1, 1) := by decide +kernel
theorem dX7_refusesPair_36 : decode cX7_refusesPair 36 = .ok (.goto 4, 3) := by decide +kernel
theorem dX7_refusesPair_39 : decode cX7_refusesPair 39 = .ok (.iconst 0, 1) := by decide +kernel
theorem dX7_refusesPair_40 : decode cX7_refusesPair 40 = .ok (.ireturn, 1) := by decide +kernel
theorem dX7_refusesHousehold_0 : decode cX7_refusesHousehold 0 = .ok (.aload_n 0, 1) := by decide +kernel
theorem dX7_refusesHousehold_1 : decode cX7_refusesHousehold 1 = .ok (.aload_n 0, 1) := by decide +kernel
theorem dX7_refusesHousehold_2 : decode cX7_refusesHousehold 2 = .ok (.getfield 12, 3) := by decide +kernel
theorem dX7_refusesHousehold_5 : decode cX7_refusesHousehold 5 = .ok (.iload_n 1, 1) := by decide +kernel
theorem dX7_refusesHousehold_6 : decode cX7_refusesHousehold 6 = .ok (.invokevirtual 105, 3) := by decide +kernel
theorem dX7_refusesHousehold_9 : decode cX7_refusesHousehold 9 = .ok (.ifCond .ne 7, 3) := by decide +kernel
theorem dX7_refusesHousehold_12 : decode cX7_refusesHousehold 12 = .ok (.iconst 1, 1) := by decide +kernel
theorem dX7_refusesHousehold_13 : decode cX7_refusesHousehold 13 = .ok (.goto 4, 3) := by decide +kernel
theorem dX7_refusesHousehold_16 : decode cX7_refusesHousehold 16 = .ok (.iconst 0, 1) := by decide +kernel
theorem dX7_refusesHousehold_17 : decode cX7_refusesHousehold 17 = .ok (.iconst 2, 1) := by decide +kernel
theorem dX7_refusesHousehold_18 : decode cX7_refusesHousehold 18 = .ok (.iload_n 1, 1) := by decide +kernel
theorem dX7_refusesHousehold_19 : decode cX7_refusesHousehold 19 = .ok (.invokevirtual 384, 3) := by decide +kernel
theorem dX7_refusesHousehold_22 : decode cX7_refusesHousehold 22 = .ok (.ireturn, 1) := by decide +kernel
theorem dX7_refusesIf_0 : decode cX7_refusesIf 0 = .ok (.iload_n 1, 1) := by decide +kernel
theorem dX7_refusesIf_1 : decode cX7_refusesIf 1 = .ok (.ifCond .eq 12, 3) := by decide +kernel
theorem dX7_refusesIf_4 : decode cX7_refusesIf 4 = .ok (.aload_n 0, 1) := by decide +kernel
theorem dX7_refusesIf_5 : decode cX7_refusesIf 5 = .ok (.getfield 60, 3) := by decide +kernel
theorem dX7_refusesIf_8 : decode cX7_refusesIf 8 = .ok (.iload_n 2, 1) := by decide +kernel
theorem dX7_refusesIf_9 : decode cX7_refusesIf 9 = .ok (.iload_n 3, 1) := by decide +kernel
theorem dX7_refusesIf_10 : decode cX7_refusesIf 10 = .ok (.invokevirtual 394, 3) := by decide +kernel
theorem dX7_refusesIf_13 : decode cX7_refusesIf 13 = .ok (.iload_n 1, 1) := by decide +kernel
theorem dX7_refusesIf_14 : decode cX7_refusesIf 14 = .ok (.ireturn, 1) := by decide +kernel
theorem dX7_changed_0 : decode cX7_changed 0 = .ok (.aload_n 0, 1) := by decide +kernel
theorem dX7_changed_1 : decode cX7_changed 1 = .ok (.getfield 25, 3) := by decide +kernel
theorem dX7_changed_4 : decode cX7_changed 4 = .ok (.aload_n 0, 1) := by decide +kernel
theorem dX7_changed_5 : decode cX7_changed 5 = .ok (.getfield 12, 3) := by decide +kernel
theorem dX7_changed_8 : decode cX7_changed 8 = .ok (.invokevirtual 397, 3) := by decide +kernel
theorem dX7_changed_11 : decode cX7_changed 11 = .ok (.aload_n 0, 1) := by decide +kernel
theorem dX7_changed_12 : decode cX7_changed 12 = .ok (.iload_n 1, 1) := by decide +kernel
theorem dX7_changed_13 : decode cX7_changed 13 = .ok (.iload_n 2, 1) := by decide +kernel
theorem dX7_changed_14 : decode cX7_changed 14 = .ok (.iload_n 3, 1) := by decide +kernel
theorem dX7_changed_15 : decode cX7_changed 15 = .ok (.iload 4, 2) := by decide +kernel
theorem dX7_changed_17 : decode cX7_changed 17 = .ok (.invokevirtual 399, 3) := by decide +kernel
theorem dX7_changed_20 : decode cX7_changed 20 = .ok (.ireturn, 1) := by decide +kernel
theorem dX7_done_0 : decode cX7_done 0 = .ok (.iload_n 1, 1) := by decide +kernel
theorem dX7_done_1 : decode cX7_done 1 = .ok (.tableswitch 106 0 5 #[39, 47, 56, 68, 79, 89], 39) := by decide +kernel
theorem dX7_done_40 : decode cX7_done 40 = .ok (.aload_n 0, 1) := by decide +kernel
theorem dX7_done_41 : decode cX7_done 41 = .ok (.getfield 12, 3) := by decide +kernel
theorem dX7_done_44 : decode cX7_done 44 = .ok (.invokevirtual 402, 3) := by decide +kernel
theorem dX7_done_47 : decode cX7_done 47 = .ok (.ireturn, 1) := by decide +kernel
theorem dX7_done_48 : decode cX7_done 48 = .ok (.aload_n 0, 1) := by decide +kernel
theorem dX7_done_49 : decode cX7_done 49 = .ok (.getfield 12, 3) := by decide +kernel
theorem dX7_done_52 : decode cX7_done 52 = .ok (.iload_n 2, 1) := by decide +kernel
theorem dX7_done_53 : decode cX7_done 53 = .ok (.invokevirtual 405, 3) := by decide +kernel
theorem dX7_done_56 : decode cX7_done 56 = .ok (.ireturn, 1) := by decide +kernel
theorem dX7_done_57 : decode cX7_done 57 = .ok (.aload_n 0, 1) := by decide +kernel
theorem dX7_done_58 : decode cX7_done 58 = .ok (.getfield 12, 3) := by decide +kernel
theorem dX7_done_61 : decode cX7_done 61 = .ok (.iload_n 2, 1) := by decide +kernel
theorem dX7_done_62 : decode cX7_done 62 = .ok (.iload_n 3, 1) := by decide +kernel
theorem dX7_done_63 : decode cX7_done 63 = .ok (.iload 4, 2) := by decide +kernel
theorem dX7_done_65 : decode cX7_done 65 = .ok (.invokevirtual 408, 3) := by decide +kernel
theorem dX7_done_68 : decode cX7_done 68 = .ok (.ireturn, 1) := by decide +kernel
theorem dX7_done_69 : decode cX7_done 69 = .ok (.aload_n 0, 1) := by decide +kernel
theorem dX7_done_70 : decode cX7_done 70 = .ok (.getfield 12, 3) := by decide +kernel
theorem dX7_done_73 : decode cX7_done 73 = .ok (.iload_n 2, 1) := by decide +kernel
theorem dX7_done_74 : decode cX7_done 74 = .ok (.iload_n 3, 1) := by decide +kernel
theorem dX7_done_75 : decode cX7_done 75 = .ok (.iconst 0, 1) := by decide +kernel
theorem dX7_done_76 : decode cX7_done 76 = .ok (.invokevirtual 408, 3) := by decide +kernel
theorem dX7_done_79 : decode cX7_done 79 = .ok (.ireturn, 1) := by decide +kernel
theorem dX7_done_80 : decode cX7_done 80 = .ok (.aload_n 0, 1) := by decide +kernel
theorem dX7_done_81 : decode cX7_done 81 = .ok (.getfield 12, 3) := by decide +kernel
theorem dX7_done_84 : decode cX7_done 84 = .ok (.iload_n 2, 1) := by decide +kernel
theorem dX7_done_85 : decode cX7_done 85 = .ok (.iload_n 3, 1) := by decide +kernel
theorem dX7_done_86 : decode cX7_done 86 = .ok (.invokevirtual 411, 3) := by decide +kernel
theorem dX7_done_89 : decode cX7_done 89 = .ok (.ireturn, 1) := by decide +kernel
theorem dX7_done_90 : decode cX7_done 90 = .ok (.aload_n 0, 1) := by decide +kernel
theorem dX7_done_91 : decode cX7_done 91 = .ok (.getfield 12, 3) := by decide +kernel
theorem dX7_done_94 : decode cX7_done 94 = .ok (.iload_n 2, 1) := by decide +kernel
theorem dX7_done_95 : decode cX7_done 95 = .ok (.iload_n 3, 1) := by decide +kernel
theorem dX7_done_96 : decode cX7_done 96 = .ok (.invokevirtual 414, 3) := by decide +kernel
theorem dX7_done_99 : decode cX7_done 99 = .ok (.aload_n 0, 1) := by decide +kernel
theorem dX7_done_100 : decode cX7_done 100 = .ok (.getfield 12, 3) := by decide +kernel
theorem dX7_done_103 : decode cX7_done 103 = .ok (.invokevirtual 152, 3) := by decide +kernel
theorem dX7_done_106 : decode cX7_done 106 = .ok (.ireturn, 1) := by decide +kernel
theorem dX7_done_107 : decode cX7_done 107 = .ok (.aload_n 0, 1) := by decide +kernel
theorem dX7_done_108 : decode cX7_done 108 = .ok (.getfield 32, 3) := by decide +kernel
theorem dX7_done_111 : decode cX7_done 111 = .ok (.aload_n 0, 1) := by decide +kernel
theorem dX7_done_112 : decode cX7_done 112 = .ok (.getfield 12, 3) := by decide +kernel
theorem dX7_done_115 : decode cX7_done 115 = .ok (.invokevirtual 166, 3) := by decide +kernel
theorem dX7_done_118 : decode cX7_done 118 = .ok (.aload_n 0, 1) := by decide +kernel
theorem dX7_done_119 : decode cX7_done 119 = .ok (.getfield 12, 3) := by decide +kernel
theorem dX7_done_122 : decode cX7_done 122 = .ok (.aload_n 0, 1) := by decide +kernel
theorem dX7_done_123 : decode cX7_done 123 = .ok (.getfield 32, 3) := by decide +kernel
theorem dX7_done_126 : decode cX7_done 126 = .ok (.invokevirtual 417, 3) := by decide +kernel
theorem dX7_done_129 : decode cX7_done 129 = .ok (.putfield 327, 3) := by decide +kernel
theorem dX7_done_132 : decode cX7_done 132 = .ok (.aload_n 0, 1) := by decide +kernel
theorem dX7_done_133 : decode cX7_done 133 = .ok (.getfield 12, 3) := by decide +kernel
theorem dX7_done_136 : decode cX7_done 136 = .ok (.invokevirtual 152, 3) := by decide +kernel
theorem dX7_done_139 : decode cX7_done 139 = .ok (.ireturn, 1) := by decide +kernel
theorem dX7_doesOrders_0 : decode cX7_doesOrders 0 = .ok (.aload_n 0, 1) := by decide +kernel
theorem dX7_doesOrders_1 : decode cX7_doesOrders 1 = .ok (.getfield 19, 3) := by decide +kernel
theorem dX7_doesOrders_4 : decode cX7_doesOrders 4 = .ok (.aload_n 0, 1) := by decide +kernel
theorem dX7_doesOrders_5 : decode cX7_doesOrders 5 = .ok (.getfield 12, 3) := by decide +kernel
theorem dX7_doesOrders_8 : decode cX7_doesOrders 8 = .ok (.invokevirtual 376, 3) := by decide +kernel
theorem dX7_doesOrders_11 : decode cX7_doesOrders 11 = .ok (.iconst 0, 1) := by decide +kernel
theorem dX7_doesOrders_12 : decode cX7_doesOrders 12 = .ok (.istore_n 1, 1) := by decide +kernel
theorem dX7_doesOrders_13 : decode cX7_doesOrders 13 = .ok (.iload_n 1, 1) := by decide +kernel
theorem dX7_doesOrders_14 : decode cX7_doesOrders 14 = .ok (.aload_n 0, 1) := by decide +kernel
theorem dX7_doesOrders_15 : decode cX7_doesOrders 15 = .ok (.getfield 53, 3) := by decide +kernel
theorem dX7_doesOrders_18 : decode cX7_doesOrders 18 = .ok (.invokevirtual 292, 3) := by decide +kernel
theorem dX7_doesOrders_21 : decode cX7_doesOrders 21 = .ok (.if_icmp .ge 97, 3) := by decide +kernel
theorem dX7_doesOrders_24 : decode cX7_doesOrders 24 = .ok (.aload_n 0, 1) := by decide +kernel
theorem dX7_doesOrders_25 : decode cX7_doesOrders 25 = .ok (.getfield 53, 3) := by decide +kernel
theorem dX7_doesOrders_28 : decode cX7_doesOrders 28 = .ok (.iload_n 1, 1) := by decide +kernel
theorem dX7_doesOrders_29 : decode cX7_doesOrders 29 = .ok (.invokevirtual 420, 3) := by decide +kernel
theorem dX7_doesOrders_32 : decode cX7_doesOrders 32 = .ok (.istore_n 2, 1) := by decide +kernel
theorem dX7_doesOrders_33 : decode cX7_doesOrders 33 = .ok (.aload_n 0, 1) := by decide +kernel
theorem dX7_doesOrders_34 : decode cX7_doesOrders 34 = .ok (.getfield 53, 3) := by decide +kernel
theorem dX7_doesOrders_37 : decode cX7_doesOrders 37 = .ok (.iload_n 1, 1) := by decide +kernel
theorem dX7_doesOrders_38 : decode cX7_doesOrders 38 = .ok (.iconst 0, 1) := by decide +kernel
theorem dX7_doesOrders_39 : decode cX7_doesOrders 39 = .ok (.invokevirtual 423, 3) := by decide +kernel
theorem dX7_doesOrders_42 : decode cX7_doesOrders 42 = .ok (.istore_n 3, 1) := by decide +kernel
theorem dX7_doesOrders_43 : decode cX7_doesOrders 43 = .ok (.aload_n 0, 1) := by decide +kernel
theorem dX7_doesOrders_44 : decode cX7_doesOrders 44 = .ok (.getfield 53, 3) := by decide +kernel
theorem dX7_doesOrders_47 : decode cX7_doesOrders 47 = .ok (.iload_n 1, 1) := by decide +kernel
theorem dX7_doesOrders_48 : decode cX7_doesOrders 48 = .ok (.iconst 1, 1) := by decide +kernel
theorem dX7_doesOrders_49 : decode cX7_doesOrders 49 = .ok (.invokevirtual 423, 3) := by decide +kernel
theorem dX7_doesOrders_52 : decode cX7_doesOrders 52 = .ok (.istore 4, 2) := by decide +kernel
theorem dX7_doesOrders_54 : decode cX7_doesOrders 54 = .ok (.aload_n 0, 1) := by decide +kernel
theorem dX7_doesOrders_55 : decode cX7_doesOrders 55 = .ok (.getfield 53, 3) := by decide +kernel
theorem dX7_doesOrders_58 : decode cX7_doesOrders 58 = .ok (.iload_n 1, 1) := by decide +kernel
theorem dX7_doesOrders_59 : decode cX7_doesOrders 59 = .ok (.iconst 2, 1) := by decide +kernel
theorem dX7_doesOrders_60 : decode cX7_doesOrders 60 = .ok (.invokevirtual 423, 3) := by decide +kernel
theorem dX7_doesOrders_63 : decode cX7_doesOrders 63 = .ok (.istore 5, 2) := by decide +kernel
theorem dX7_doesOrders_65 : decode cX7_doesOrders 65 = .ok (.aload_n 0, 1) := by decide +kernel
theorem dX7_doesOrders_66 : decode cX7_doesOrders 66 = .ok (.iload_n 2, 1) := by decide +kernel
theorem dX7_doesOrders_67 : decode cX7_doesOrders 67 = .ok (.iload_n 3, 1) := by decide +kernel
theorem dX7_doesOrders_68 : decode cX7_doesOrders 68 = .ok (.iload 4, 2) := by decide +kernel
theorem dX7_doesOrders_70 : decode cX7_doesOrders 70 = .ok (.iload 5, 2) := by decide +kernel
theorem dX7_doesOrders_72 : decode cX7_doesOrders 72 = .ok (.invokevirtual 78, 3) := by decide +kernel
theorem dX7_doesOrders_75 : decode cX7_doesOrders 75 = .ok (.ifCond .eq 26, 3) := by decide +kernel
theorem dX7_doesOrders_78 : decode cX7_doesOrders 78 = .ok (.aload_n 0, 1) := by decide +kernel
theorem dX7_doesOrders_79 : decode cX7_doesOrders 79 = .ok (.getfield 60, 3) := by decide +kernel
theorem dX7_doesOrders_82 : decode cX7_doesOrders 82 = .ok (.bipush 8, 2) := by decide +kernel
theorem dX7_doesOrders_84 : decode cX7_doesOrders 84 = .ok (.iload_n 1, 1) := by decide +kernel
theorem dX7_doesOrders_85 : decode cX7_doesOrders 85 = .ok (.invokevirtual 426, 3) := by decide +kernel
theorem dX7_doesOrders_88 : decode cX7_doesOrders 88 = .ok (.aload_n 0, 1) := by decide +kernel
theorem dX7_doesOrders_89 : decode cX7_doesOrders 89 = .ok (.getfield 12, 3) := by decide +kernel
theorem dX7_doesOrders_92 : decode cX7_doesOrders 92 = .ok (.aload_n 0, 1) := by decide +kernel
theorem dX7_doesOrders_93 : decode cX7_doesOrders 93 = .ok (.getfield 19, 3) := by decide +kernel
theorem dX7_doesOrders_96 : decode cX7_doesOrders 96 = .ok (.invokevirtual 376, 3) := by decide +kernel
theorem dX7_doesOrders_99 : decode cX7_doesOrders 99 = .ok (.iconst 0, 1) := by decide +kernel
theorem dX7_doesOrders_100 : decode cX7_doesOrders 100 = .ok (.ireturn, 1) := by decide +kernel
theorem dX7_doesOrders_101 : decode cX7_doesOrders 101 = .ok (.aload_n 0, 1) := by decide +kernel
theorem dX7_doesOrders_102 : decode cX7_doesOrders 102 = .ok (.iload_n 2, 1) := by decide +kernel
theorem dX7_doesOrders_103 : decode cX7_doesOrders 103 = .ok (.iload_n 3, 1) := by decide +kernel
theorem dX7_doesOrders_104 : decode cX7_doesOrders 104 = .ok (.iload 4, 2) := by decide +kernel
theorem dX7_doesOrders_106 : decode cX7_doesOrders 106 = .ok (.iload 5, 2) := by decide +kernel
theorem dX7_doesOrders_108 : decode cX7_doesOrders 108 = .ok (.invokevirtual 399, 3) := by decide +kernel
theorem dX7_doesOrders_111 : decode cX7_doesOrders 111 = .ok (.pop, 1) := by decide +kernel
theorem dX7_doesOrders_112 : decode cX7_doesOrders 112 = .ok (.iinc 1 1, 3) := by decide +kernel
theorem dX7_doesOrders_115 : decode cX7_doesOrders 115 = .ok (.goto (-102), 3) := by decide +kernel
theorem dX7_doesOrders_118 : decode cX7_doesOrders 118 = .ok (.aload_n 0, 1) := by decide +kernel
theorem dX7_doesOrders_119 : decode cX7_doesOrders 119 = .ok (.getfield 25, 3) := by decide +kernel
theorem dX7_doesOrders_122 : decode cX7_doesOrders 122 = .ok (.aload_n 0, 1) := by decide +kernel
theorem dX7_doesOrders_123 : decode cX7_doesOrders 123 = .ok (.getfield 19, 3) := by decide +kernel
theorem dX7_doesOrders_126 : decode cX7_doesOrders 126 = .ok (.invokevirtual 397, 3) := by decide +kernel
theorem dX7_doesOrders_129 : decode cX7_doesOrders 129 = .ok (.iconst 1, 1) := by decide +kernel
theorem dX7_doesOrders_130 : decode cX7_doesOrders 130 = .ok (.ireturn, 1) := by decide +kernel
theorem dX7_isTooSmall_0 : decode cX7_isTooSmall 0 = .ok (.aload_n 0, 1) := by decide +kernel
theorem dX7_isTooSmall_1 : decode cX7_isTooSmall 1 = .ok (.getfield 12, 3) := by decide +kernel
theorem dX7_isTooSmall_4 : decode cX7_isTooSmall 4 = .ok (.getfield 223, 3) := by decide +kernel
theorem dX7_isTooSmall_7 : decode cX7_isTooSmall 7 = .ok (.iconst 2, 1) := by decide +kernel
theorem dX7_isTooSmall_8 : decode cX7_isTooSmall 8 = .ok (.if_icmp .ge 7, 3) := by decide +kernel
theorem dX7_isTooSmall_11 : decode cX7_isTooSmall 11 = .ok (.iconst 1, 1) := by decide +kernel
theorem dX7_isTooSmall_12 : decode cX7_isTooSmall 12 = .ok (.goto 4, 3) := by decide +kernel
theorem dX7_isTooSmall_15 : decode cX7_isTooSmall 15 = .ok (.iconst 0, 1) := by decide +kernel
theorem dX7_isTooSmall_16 : decode cX7_isTooSmall 16 = .ok (.ireturn, 1) := by decide +kernel
theorem dX7_hasPhase_0 : decode cX7_hasPhase 0 = .ok (.iload_n 1, 1) := by decide +kernel
theorem dX7_hasPhase_1 : decode cX7_hasPhase 1 = .ok (.ifCond .lt 18, 3) := by decide +kernel
theorem dX7_hasPhase_4 : decode cX7_hasPhase 4 = .ok (.iload_n 1, 1) := by decide +kernel
theorem dX7_hasPhase_5 : decode cX7_hasPhase 5 = .ok (.aload_n 0, 1) := by decide +kernel
theorem dX7_hasPhase_6 : decode cX7_hasPhase 6 = .ok (.getfield 12, 3) := by decide +kernel
theorem dX7_hasPhase_9 : decode cX7_hasPhase 9 = .ok (.invokevirtual 158, 3) := by decide +kernel
theorem dX7_hasPhase_12 : decode cX7_hasPhase 12 = .ok (.if_icmp .ge 7, 3) := by decide +kernel
theorem dX7_hasPhase_15 : decode cX7_hasPhase 15 = .ok (.iconst 1, 1) := by decide +kernel
theorem dX7_hasPhase_16 : decode cX7_hasPhase 16 = .ok (.goto 4, 3) := by decide +kernel
theorem dX7_hasPhase_19 : decode cX7_hasPhase 19 = .ok (.iconst 0, 1) := by decide +kernel
theorem dX7_hasPhase_20 : decode cX7_hasPhase 20 = .ok (.ireturn, 1) := by decide +kernel
theorem dX7_leastByPhases_0 : decode cX7_leastByPhases 0 = .ok (.aload_n 0, 1) := by decide +kernel
theorem dX7_leastByPhases_1 : decode cX7_leastByPhases 1 = .ok (.getfield 32, 3) := by decide +kernel
theorem dX7_leastByPhases_4 : decode cX7_leastByPhases 4 = .ok (.aload_n 1, 1) := by decide +kernel
theorem dX7_leastByPhases_5 : decode cX7_leastByPhases 5 = .ok (.invokevirtual 166, 3) := by decide +kernel
theorem dX7_leastByPhases_8 : decode cX7_leastByPhases 8 = .ok (.aload_n 0, 1) := by decide +kernel
theorem dX7_leastByPhases_9 : decode cX7_leastByPhases 9 = .ok (.getfield 32, 3) := by decide +kernel
theorem dX7_leastByPhases_12 : decode cX7_leastByPhases 12 = .ok (.aload_n 0, 1) := by decide +kernel
theorem dX7_leastByPhases_13 : decode cX7_leastByPhases 13 = .ok (.getfield 32, 3) := by decide +kernel
theorem dX7_leastByPhases_16 : decode cX7_leastByPhases 16 = .ok (.invokevirtual 208, 3) := by decide +kernel
theorem dX7_leastByPhases_19 : decode cX7_leastByPhases 19 = .ok (.invokevirtual 173, 3) := by decide +kernel
theorem dX7_leastByPhases_22 : decode cX7_leastByPhases 22 = .ok (.ireturn, 1) := by decide +kernel
theorem dX7_leastWith_0 : decode cX7_leastWith 0 = .ok (.aload_n 0, 1) := by decide +kernel
theorem dX7_leastWith_1 : decode cX7_leastWith 1 = .ok (.getfield 16, 3) := by decide +kernel
theorem dX7_leastWith_4 : decode cX7_leastWith 4 = .ok (.aload_n 0, 1) := by decide +kernel
theorem dX7_leastWith_5 : decode cX7_leastWith 5 = .ok (.getfield 12, 3) := by decide +kernel
theorem dX7_leastWith_8 : decode cX7_leastWith 8 = .ok (.invokevirtual 376, 3) := by decide +kernel
theorem dX7_leastWith_11 : decode cX7_leastWith 11 = .ok (.aload_n 0, 1) := by decide +kernel
theorem dX7_leastWith_12 : decode cX7_leastWith 12 = .ok (.getfield 16, 3) := by decide +kernel
theorem dX7_leastWith_15 : decode cX7_leastWith 15 = .ok (.iload_n 1, 1) := by decide +kernel
theorem dX7_leastWith_16 : decode cX7_leastWith 16 = .ok (.iload_n 2, 1) := by decide +kernel
theorem dX7_leastWith_17 : decode cX7_leastWith 17 = .ok (.iload_n 3, 1) := by decide +kernel
theorem dX7_leastWith_18 : decode cX7_leastWith 18 = .ok (.invokevirtual 408, 3) := by decide +kernel
theorem dX7_leastWith_21 : decode cX7_leastWith 21 = .ok (.pop, 1) := by decide +kernel
theorem dX7_leastWith_22 : decode cX7_leastWith 22 = .ok (.aload_n 0, 1) := by decide +kernel
theorem dX7_leastWith_23 : decode cX7_leastWith 23 = .ok (.aload_n 0, 1) := by decide +kernel
theorem dX7_leastWith_24 : decode cX7_leastWith 24 = .ok (.getfield 16, 3) := by decide +kernel
theorem dX7_leastWith_27 : decode cX7_leastWith 27 = .ok (.invokevirtual 200, 3) := by decide +kernel
theorem dX7_leastWith_30 : decode cX7_leastWith 30 = .ok (.ireturn, 1) := by decide +kernel
theorem dX7_isLeastTold_0 : decode cX7_isLeastTold 0 = .ok (.aload_n 0, 1) := by decide +kernel
theorem dX7_isLeastTold_1 : decode cX7_isLeastTold 1 = .ok (.aload_n 0, 1) := by decide +kernel
theorem dX7_isLeastTold_2 : decode cX7_isLeastTold 2 = .ok (.getfield 12, 3) := by decide +kernel
theorem dX7_isLeastTold_5 : decode cX7_isLeastTold 5 = .ok (.invokevirtual 200, 3) := by decide +kernel
theorem dX7_isLeastTold_8 : decode cX7_isLeastTold 8 = .ok (.istore_n 1, 1) := by decide +kernel
theorem dX7_isLeastTold_9 : decode cX7_isLeastTold 9 = .ok (.aload_n 0, 1) := by decide +kernel
theorem dX7_isLeastTold_10 : decode cX7_isLeastTold 10 = .ok (.getfield 39, 3) := by decide +kernel
theorem dX7_isLeastTold_13 : decode cX7_isLeastTold 13 = .ok (.aload_n 0, 1) := by decide +kernel
theorem dX7_isLeastTold_14 : decode cX7_isLeastTold 14 = .ok (.getfield 12, 3) := by decide +kernel
theorem dX7_isLeastTold_17 : decode cX7_isLeastTold 17 = .ok (.invokevirtual 204, 3) := by decide +kernel
theorem dX7_isLeastTold_20 : decode cX7_isLeastTold 20 = .ok (.iload_n 1, 1) := by decide +kernel
theorem dX7_isLeastTold_21 : decode cX7_isLeastTold 21 = .ok (.aload_n 0, 1) := by decide +kernel
theorem dX7_isLeastTold_22 : decode cX7_isLeastTold 22 = .ok (.getfield 39, 3) := by decide +kernel
theorem dX7_isLeastTold_25 : decode cX7_isLeastTold 25 = .ok (.invokevirtual 205, 3) := by decide +kernel
theorem dX7_isLeastTold_28 : decode cX7_isLeastTold 28 = .ok (.if_icmp .eq 5, 3) := by decide +kernel
theorem dX7_isLeastTold_31 : decode cX7_isLeastTold 31 = .ok (.iconst 0, 1) := by decide +kernel
theorem dX7_isLeastTold_32 : decode cX7_isLeastTold 32 = .ok (.ireturn, 1) := by decide +kernel
theorem dX7_isLeastTold_33 : decode cX7_isLeastTold 33 = .ok (.iconst 0, 1) := by decide +kernel
theorem dX7_isLeastTold_34 : decode cX7_isLeastTold 34 = .ok (.istore_n 2, 1) := by decide +kernel
theorem dX7_isLeastTold_35 : decode cX7_isLeastTold 35 = .ok (.iload_n 2, 1) := by decide +kernel
theorem dX7_isLeastTold_36 : decode cX7_isLeastTold 36 = .ok (.aload_n 0, 1) := by decide +kernel
theorem dX7_isLeastTold_37 : decode cX7_isLeastTold 37 = .ok (.getfield 12, 3) := by decide +kernel
theorem dX7_isLeastTold_40 : decode cX7_isLeastTold 40 = .ok (.getfield 223, 3) := by decide +kernel
theorem dX7_isLeastTold_43 : decode cX7_isLeastTold 43 = .ok (.if_icmp .ge 67, 3) := by decide +kernel
theorem dX7_isLeastTold_46 : decode cX7_isLeastTold 46 = .ok (.iload_n 2, 1) := by decide +kernel
theorem dX7_isLeastTold_47 : decode cX7_isLeastTold 47 = .ok (.iconst 1, 1) := by decide +kernel
theorem dX7_isLeastTold_48 : decode cX7_isLeastTold 48 = .ok (.iadd, 1) := by decide +kernel
theorem dX7_isLeastTold_49 : decode cX7_isLeastTold 49 = .ok (.istore_n 3, 1) := by decide +kernel
theorem dX7_isLeastTold_50 : decode cX7_isLeastTold 50 = .ok (.iload_n 3, 1) := by decide +kernel
theorem dX7_isLeastTold_51 : decode cX7_isLeastTold 51 = .ok (.aload_n 0, 1) := by decide +kernel
theorem dX7_isLeastTold_52 : decode cX7_isLeastTold 52 = .ok (.getfield 12, 3) := by decide +kernel
theorem dX7_isLeastTold_55 : decode cX7_isLeastTold 55 = .ok (.getfield 223, 3) := by decide +kernel
theorem dX7_isLeastTold_58 : decode cX7_isLeastTold 58 = .ok (.if_icmp .ge 46, 3) := by decide +kernel
theorem dX7_isLeastTold_61 : decode cX7_isLeastTold 61 = .ok (.aload_n 0, 1) := by decide +kernel
theorem dX7_isLeastTold_62 : decode cX7_isLeastTold 62 = .ok (.getfield 39, 3) := by decide +kernel
theorem dX7_isLeastTold_65 : decode cX7_isLeastTold 65 = .ok (.iload_n 2, 1) := by decide +kernel
theorem dX7_isLeastTold_66 : decode cX7_isLeastTold 66 = .ok (.iload_n 3, 1) := by decide +kernel
theorem dX7_isLeastTold_67 : decode cX7_isLeastTold 67 = .ok (.invokevirtual 216, 3) := by decide +kernel
theorem dX7_isLeastTold_70 : decode cX7_isLeastTold 70 = .ok (.istore 4, 2) := by decide +kernel
theorem dX7_isLeastTold_72 : decode cX7_isLeastTold 72 = .ok (.iload 4, 2) := by decide +kernel
theorem dX7_isLeastTold_74 : decode cX7_isLeastTold 74 = .ok (.aload_n 0, 1) := by decide +kernel
theorem dX7_isLeastTold_75 : decode cX7_isLeastTold 75 = .ok (.getfield 46, 3) := by decide +kernel
theorem dX7_isLeastTold_78 : decode cX7_isLeastTold 78 = .ok (.aload_n 0, 1) := by decide +kernel
theorem dX7_isLeastTold_79 : decode cX7_isLeastTold 79 = .ok (.getfield 12, 3) := by decide +kernel
theorem dX7_isLeastTold_82 : decode cX7_isLeastTold 82 = .ok (.iload_n 2, 1) := by decide +kernel
theorem dX7_isLeastTold_83 : decode cX7_isLeastTold 83 = .ok (.iload_n 3, 1) := by decide +kernel
theorem dX7_isLeastTold_84 : decode cX7_isLeastTold 84 = .ok (.invokevirtual 219, 3) := by decide +kernel
theorem dX7_isLeastTold_87 : decode cX7_isLeastTold 87 = .ok (.if_icmp .ne 9, 3) := by decide +kernel
theorem dX7_isLeastTold_90 : decode cX7_isLeastTold 90 = .ok (.iload_n 1, 1) := by decide +kernel
theorem dX7_isLeastTold_91 : decode cX7_isLeastTold 91 = .ok (.iload 4, 2) := by decide +kernel
theorem dX7_isLeastTold_93 : decode cX7_isLeastTold 93 = .ok (.if_icmp .le 5, 3) := by decide +kernel
theorem dX7_isLeastTold_96 : decode cX7_isLeastTold 96 = .ok (.iconst 0, 1) := by decide +kernel
theorem dX7_isLeastTold_97 : decode cX7_isLeastTold 97 = .ok (.ireturn, 1) := by decide +kernel
theorem dX7_isLeastTold_98 : decode cX7_isLeastTold 98 = .ok (.iinc 3 1, 3) := by decide +kernel
theorem dX7_isLeastTold_101 : decode cX7_isLeastTold 101 = .ok (.goto (-51), 3) := by decide +kernel
theorem dX7_isLeastTold_104 : decode cX7_isLeastTold 104 = .ok (.iinc 2 1, 3) := by decide +kernel
theorem dX7_isLeastTold_107 : decode cX7_isLeastTold 107 = .ok (.goto (-72), 3) := by decide +kernel
theorem dX7_isLeastTold_110 : decode cX7_isLeastTold 110 = .ok (.iconst 1, 1) := by decide +kernel
theorem dX7_isLeastTold_111 : decode cX7_isLeastTold 111 = .ok (.ireturn, 1) := by decide +kernel
theorem dX7_fillKeys_0 : decode cX7_fillKeys 0 = .ok (.iload_n 1, 1) := by decide +kernel
theorem dX7_fillKeys_1 : decode cX7_fillKeys 1 = .ok (.iconst 3, 1) := by decide +kernel
theorem dX7_fillKeys_2 : decode cX7_fillKeys 2 = .ok (.if_icmp .ne 21, 3) := by decide +kernel
theorem dX7_fillKeys_5 : decode cX7_fillKeys 5 = .ok (.aload_n 0, 1) := by decide +kernel
theorem dX7_fillKeys_6 : decode cX7_fillKeys 6 = .ok (.invokevirtual 196, 3) := by decide +kernel
theorem dX7_fillKeys_9 : decode cX7_fillKeys 9 = .ok (.ifCond .ne 14, 3) := by decide +kernel
theorem dX7_fillKeys_12 : decode cX7_fillKeys 12 = .ok (.aload_n 0, 1) := by decide +kernel
theorem dX7_fillKeys_13 : decode cX7_fillKeys 13 = .ok (.getfield 39, 3) := by decide +kernel
theorem dX7_fillKeys_16 : decode cX7_fillKeys 16 = .ok (.aload_n 0, 1) := by decide +kernel
theorem dX7_fillKeys_17 : decode cX7_fillKeys 17 = .ok (.getfield 12, 3) := by decide +kernel
theorem dX7_fillKeys_20 : decode cX7_fillKeys 20 = .ok (.invokevirtual 204, 3) := by decide +kernel
theorem dX7_fillKeys_23 : decode cX7_fillKeys 23 = .ok (.iconst 0, 1) := by decide +kernel
theorem dX7_fillKeys_24 : decode cX7_fillKeys 24 = .ok (.istore_n 2, 1) := by decide +kernel
theorem dX7_fillKeys_25 : decode cX7_fillKeys 25 = .ok (.iload_n 2, 1) := by decide +kernel
theorem dX7_fillKeys_26 : decode cX7_fillKeys 26 = .ok (.aload_n 0, 1) := by decide +kernel
theorem dX7_fillKeys_27 : decode cX7_fillKeys 27 = .ok (.getfield 12, 3) := by decide +kernel
theorem dX7_fillKeys_30 : decode cX7_fillKeys 30 = .ok (.getfield 223, 3) := by decide +kernel
theorem dX7_fillKeys_33 : decode cX7_fillKeys 33 = .ok (.if_icmp .ge 30, 3) := by decide +kernel
theorem dX7_fillKeys_36 : decode cX7_fillKeys 36 = .ok (.iload_n 2, 1) := by decide +kernel
theorem dX7_fillKeys_37 : decode cX7_fillKeys 37 = .ok (.aload_n 0, 1) := by decide +kernel
theorem dX7_fillKeys_38 : decode cX7_fillKeys 38 = .ok (.getfield 71, 3) := by decide +kernel
theorem dX7_fillKeys_41 : decode cX7_fillKeys 41 = .ok (.arraylength, 1) := by decide +kernel
theorem dX7_fillKeys_42 : decode cX7_fillKeys 42 = .ok (.if_icmp .ge 21, 3) := by decide +kernel
theorem dX7_fillKeys_45 : decode cX7_fillKeys 45 = .ok (.aload_n 0, 1) := by decide +kernel
theorem dX7_fillKeys_46 : decode cX7_fillKeys 46 = .ok (.getfield 71, 3) := by decide +kernel
theorem dX7_fillKeys_49 : decode cX7_fillKeys 49 = .ok (.iload_n 2, 1) := by decide +kernel
theorem dX7_fillKeys_50 : decode cX7_fillKeys 50 = .ok (.aload_n 0, 1) := by decide +kernel
theorem dX7_fillKeys_51 : decode cX7_fillKeys 51 = .ok (.iload_n 1, 1) := by decide +kernel
theorem dX7_fillKeys_52 : decode cX7_fillKeys 52 = .ok (.iload_n 2, 1) := by decide +kernel
theorem dX7_fillKeys_53 : decode cX7_fillKeys 53 = .ok (.invokevirtual 429, 3) := by decide +kernel
theorem dX7_fillKeys_56 : decode cX7_fillKeys 56 = .ok (.iastore, 1) := by decide +kernel
theorem dX7_fillKeys_57 : decode cX7_fillKeys 57 = .ok (.iinc 2 1, 3) := by decide +kernel
theorem dX7_fillKeys_60 : decode cX7_fillKeys 60 = .ok (.goto (-35), 3) := by decide +kernel
theorem dX7_fillKeys_63 : decode cX7_fillKeys 63 = .ok (.return_, 1) := by decide +kernel
theorem dX7_keyOf_0 : decode cX7_keyOf 0 = .ok (.iload_n 1, 1) := by decide +kernel
theorem dX7_keyOf_1 : decode cX7_keyOf 1 = .ok (.tableswitch 69 0 2 #[27, 43, 52], 27) := by decide +kernel
theorem dX7_keyOf_28 : decode cX7_keyOf 28 = .ok (.aload_n 0, 1) := by decide +kernel
theorem dX7_keyOf_29 : decode cX7_keyOf 29 = .ok (.getfield 12, 3) := by decide +kernel
theorem dX7_keyOf_32 : decode cX7_keyOf 32 = .ok (.iload_n 2, 1) := by decide +kernel
theorem dX7_keyOf_33 : decode cX7_keyOf 33 = .ok (.aload_n 0, 1) := by decide +kernel
theorem dX7_keyOf_34 : decode cX7_keyOf 34 = .ok (.getfield 12, 3) := by decide +kernel
theorem dX7_keyOf_37 : decode cX7_keyOf 37 = .ok (.invokevirtual 123, 3) := by decide +kernel
theorem dX7_keyOf_40 : decode cX7_keyOf 40 = .ok (.invokevirtual 127, 3) := by decide +kernel
theorem dX7_keyOf_43 : decode cX7_keyOf 43 = .ok (.ireturn, 1) := by decide +kernel
theorem dX7_keyOf_44 : decode cX7_keyOf 44 = .ok (.aload_n 0, 1) := by decide +kernel
theorem dX7_keyOf_45 : decode cX7_keyOf 45 = .ok (.getfield 12, 3) := by decide +kernel
theorem dX7_keyOf_48 : decode cX7_keyOf 48 = .ok (.iload_n 2, 1) := by decide +kernel
theorem dX7_keyOf_49 : decode cX7_keyOf 49 = .ok (.invokevirtual 120, 3) := by decide +kernel
theorem dX7_keyOf_52 : decode cX7_keyOf 52 = .ok (.ireturn, 1) := by decide +kernel
theorem dX7_keyOf_53 : decode cX7_keyOf 53 = .ok (.aload_n 0, 1) := by decide +kernel
theorem dX7_keyOf_54 : decode cX7_keyOf 54 = .ok (.getfield 12, 3) := by decide +kernel
theorem dX7_keyOf_57 : decode cX7_keyOf 57 = .ok (.iload_n 2, 1) := by decide +kernel
theorem dX7_keyOf_58 : decode cX7_keyOf 58 = .ok (.aload_n 0, 1) := by decide +kernel
theorem dX7_keyOf_59 : decode cX7_keyOf 59 = .ok (.getfield 12, 3) := by decide +kernel
theorem dX7_keyOf_62 : decode cX7_keyOf 62 = .ok (.iload_n 2, 1) := by decide +kernel
theorem dX7_keyOf_63 : decode cX7_keyOf 63 = .ok (.invokevirtual 133, 3) := by decide +kernel
theorem dX7_keyOf_66 : decode cX7_keyOf 66 = .ok (.invokevirtual 127, 3) := by decide +kernel
theorem dX7_keyOf_69 : decode cX7_keyOf 69 = .ok (.ireturn, 1) := by decide +kernel
theorem dX7_keyOf_70 : decode cX7_keyOf 70 = .ok (.iload_n 2, 1) := by decide +kernel
theorem dX7_keyOf_71 : decode cX7_keyOf 71 = .ok (.ifCond .ne 9, 3) := by decide +kernel
theorem dX7_keyOf_74 : decode cX7_keyOf 74 = .ok (.ldc_w 432, 3) := by decide +kernel
theorem dX7_keyOf_77 : decode cX7_keyOf 77 = .ok (.goto 13, 3) := by decide +kernel
theorem dX7_keyOf_80 : decode cX7_keyOf 80 = .ok (.aload_n 0, 1) := by decide +kernel
theorem dX7_keyOf_81 : decode cX7_keyOf 81 = .ok (.getfield 39, 3) := by decide +kernel
theorem dX7_keyOf_84 : decode cX7_keyOf 84 = .ok (.iconst 0, 1) := by decide +kernel
theorem dX7_keyOf_85 : decode cX7_keyOf 85 = .ok (.iload_n 2, 1) := by decide +kernel
theorem dX7_keyOf_86 : decode cX7_keyOf 86 = .ok (.invokevirtual 216, 3) := by decide +kernel
theorem dX7_keyOf_89 : decode cX7_keyOf 89 = .ok (.ineg, 1) := by decide +kernel
theorem dX7_keyOf_90 : decode cX7_keyOf 90 = .ok (.ireturn, 1) := by decide +kernel
theorem dX7_householdAtPlace_0 : decode cX7_householdAtPlace 0 = .ok (.iconst 0, 1) := by decide +kernel
theorem dX7_householdAtPlace_1 : decode cX7_householdAtPlace 1 = .ok (.istore_n 2, 1) := by decide +kernel
theorem dX7_householdAtPlace_2 : decode cX7_householdAtPlace 2 = .ok (.iload_n 2, 1) := by decide +kernel
theorem dX7_householdAtPlace_3 : decode cX7_householdAtPlace 3 = .ok (.aload_n 0, 1) := by decide +kernel
theorem dX7_householdAtPlace_4 : decode cX7_householdAtPlace 4 = .ok (.getfield 12, 3) := by decide +kernel
theorem dX7_householdAtPlace_7 : decode cX7_householdAtPlace 7 = .ok (.getfield 223, 3) := by decide +kernel
theorem dX7_householdAtPlace_10 : decode cX7_householdAtPlace 10 = .ok (.if_icmp .ge 20, 3) := by decide +kernel
theorem dX7_householdAtPlace_13 : decode cX7_householdAtPlace 13 = .ok (.aload_n 0, 1) := by decide +kernel
theorem dX7_householdAtPlace_14 : decode cX7_householdAtPlace 14 = .ok (.iload_n 2, 1) := by decide +kernel
theorem dX7_householdAtPlace_15 : decode cX7_householdAtPlace 15 = .ok (.invokevirtual 433, 3) := by decide +kernel
theorem dX7_householdAtPlace_18 : decode cX7_householdAtPlace 18 = .ok (.iload_n 1, 1) := by decide +kernel
theorem dX7_householdAtPlace_19 : decode cX7_householdAtPlace 19 = .ok (.if_icmp .ne 5, 3) := by decide +kernel
theorem dX7_householdAtPlace_22 : decode cX7_householdAtPlace 22 = .ok (.iload_n 2, 1) := by decide +kernel
theorem dX7_householdAtPlace_23 : decode cX7_householdAtPlace 23 = .ok (.ireturn, 1) := by decide +kernel
theorem dX7_householdAtPlace_24 : decode cX7_householdAtPlace 24 = .ok (.iinc 2 1, 3) := by decide +kernel
theorem dX7_householdAtPlace_27 : decode cX7_householdAtPlace 27 = .ok (.goto (-25), 3) := by decide +kernel
theorem dX7_householdAtPlace_30 : decode cX7_householdAtPlace 30 = .ok (.iconst (-1), 1) := by decide +kernel
theorem dX7_householdAtPlace_31 : decode cX7_householdAtPlace 31 = .ok (.ireturn, 1) := by decide +kernel
theorem dX7_placeOf_0 : decode cX7_placeOf 0 = .ok (.iconst 0, 1) := by decide +kernel
theorem dX7_placeOf_1 : decode cX7_placeOf 1 = .ok (.istore_n 2, 1) := by decide +kernel
theorem dX7_placeOf_2 : decode cX7_placeOf 2 = .ok (.iconst 0, 1) := by decide +kernel
theorem dX7_placeOf_3 : decode cX7_placeOf 3 = .ok (.istore_n 3, 1) := by decide +kernel
theorem dX7_placeOf_4 : decode cX7_placeOf 4 = .ok (.iload_n 3, 1) := by decide +kernel
theorem dX7_placeOf_5 : decode cX7_placeOf 5 = .ok (.aload_n 0, 1) := by decide +kernel
theorem dX7_placeOf_6 : decode cX7_placeOf 6 = .ok (.getfield 12, 3) := by decide +kernel
theorem dX7_placeOf_9 : decode cX7_placeOf 9 = .ok (.getfield 223, 3) := by decide +kernel
theorem dX7_placeOf_12 : decode cX7_placeOf 12 = .ok (.if_icmp .ge 68, 3) := by decide +kernel
theorem dX7_placeOf_15 : decode cX7_placeOf 15 = .ok (.iload_n 3, 1) := by decide +kernel
theorem dX7_placeOf_16 : decode cX7_placeOf 16 = .ok (.aload_n 0, 1) := by decide +kernel
theorem dX7_placeOf_17 : decode cX7_placeOf 17 = .ok (.getfield 71, 3) := by decide +kernel
theorem dX7_placeOf_20 : decode cX7_placeOf 20 = .ok (.arraylength, 1) := by decide +kernel
theorem dX7_placeOf_21 : decode cX7_placeOf 21 = .ok (.if_icmp .ge 59, 3) := by decide +kernel
theorem dX7_placeOf_24 : decode cX7_placeOf 24 = .ok (.aload_n 0, 1) := by decide +kernel
theorem dX7_placeOf_25 : decode cX7_placeOf 25 = .ok (.getfield 71, 3) := by decide +kernel
theorem dX7_placeOf_28 : decode cX7_placeOf 28 = .ok (.iload_n 3, 1) := by decide +kernel
theorem dX7_placeOf_29 : decode cX7_placeOf 29 = .ok (.iaload, 1) := by decide +kernel
theorem dX7_placeOf_30 : decode cX7_placeOf 30 = .ok (.aload_n 0, 1) := by decide +kernel
theorem dX7_placeOf_31 : decode cX7_placeOf 31 = .ok (.getfield 71, 3) := by decide +kernel
theorem dX7_placeOf_34 : decode cX7_placeOf 34 = .ok (.iload_n 1, 1) := by decide +kernel
theorem dX7_placeOf_35 : decode cX7_placeOf 35 = .ok (.iaload, 1) := by decide +kernel
theorem dX7_placeOf_36 : decode cX7_placeOf 36 = .ok (.if_icmp .gt 23, 3) := by decide +kernel
theorem dX7_placeOf_39 : decode cX7_placeOf 39 = .ok (.aload_n 0, 1) := by decide +kernel
theorem dX7_placeOf_40 : decode cX7_placeOf 40 = .ok (.getfield 71, 3) := by decide +kernel
theorem dX7_placeOf_43 : decode cX7_placeOf 43 = .ok (.iload_n 3, 1) := by decide +kernel
theorem dX7_placeOf_44 : decode cX7_placeOf 44 = .ok (.iaload, 1) := by decide +kernel
theorem dX7_placeOf_45 : decode cX7_placeOf 45 = .ok (.aload_n 0, 1) := by decide +kernel
theorem dX7_placeOf_46 : decode cX7_placeOf 46 = .ok (.getfield 71, 3) := by decide +kernel
theorem dX7_placeOf_49 : decode cX7_placeOf 49 = .ok (.iload_n 1, 1) := by decide +kernel
theorem dX7_placeOf_50 : decode cX7_placeOf 50 = .ok (.iaload, 1) := by decide +kernel
theorem dX7_placeOf_51 : decode cX7_placeOf 51 = .ok (.if_icmp .ne 12, 3) := by decide +kernel
theorem dX7_placeOf_54 : decode cX7_placeOf 54 = .ok (.iload_n 3, 1) := by decide +kernel
theorem dX7_placeOf_55 : decode cX7_placeOf 55 = .ok (.iload_n 1, 1) := by decide +kernel
theorem dX7_placeOf_56 : decode cX7_placeOf 56 = .ok (.if_icmp .ge 7, 3) := by decide +kernel
theorem dX7_placeOf_59 : decode cX7_placeOf 59 = .ok (.iconst 1, 1) := by decide +kernel
theorem dX7_placeOf_60 : decode cX7_placeOf 60 = .ok (.goto 4, 3) := by decide +kernel
theorem dX7_placeOf_63 : decode cX7_placeOf 63 = .ok (.iconst 0, 1) := by decide +kernel
theorem dX7_placeOf_64 : decode cX7_placeOf 64 = .ok (.istore 4, 2) := by decide +kernel
theorem dX7_placeOf_66 : decode cX7_placeOf 66 = .ok (.iload 4, 2) := by decide +kernel
theorem dX7_placeOf_68 : decode cX7_placeOf 68 = .ok (.ifCond .eq 6, 3) := by decide +kernel
theorem dX7_placeOf_71 : decode cX7_placeOf 71 = .ok (.iinc 2 1, 3) := by decide +kernel
theorem dX7_placeOf_74 : decode cX7_placeOf 74 = .ok (.iinc 3 1, 3) := by decide +kernel
theorem dX7_placeOf_77 : decode cX7_placeOf 77 = .ok (.goto (-73), 3) := by decide +kernel
theorem dX7_placeOf_80 : decode cX7_placeOf 80 = .ok (.iload_n 2, 1) := by decide +kernel
theorem dX7_placeOf_81 : decode cX7_placeOf 81 = .ok (.ireturn, 1) := by decide +kernel
theorem dX7_writeBond_0 : decode cX7_writeBond 0 = .ok (.aload_n 0, 1) := by decide +kernel
theorem dX7_writeBond_1 : decode cX7_writeBond 1 = .ok (.getfield 67, 3) := by decide +kernel
theorem dX7_writeBond_4 : decode cX7_writeBond 4 = .ok (.invokevirtual 316, 3) := by decide +kernel
theorem dX7_writeBond_7 : decode cX7_writeBond 7 = .ok (.ifCond .le 13, 3) := by decide +kernel
theorem dX7_writeBond_10 : decode cX7_writeBond 10 = .ok (.aload_n 0, 1) := by decide +kernel
theorem dX7_writeBond_11 : decode cX7_writeBond 11 = .ok (.getfield 67, 3) := by decide +kernel
theorem dX7_writeBond_14 : decode cX7_writeBond 14 = .ok (.bipush 32, 2) := by decide +kernel
theorem dX7_writeBond_16 : decode cX7_writeBond 16 = .ok (.invokevirtual 317, 3) := by decide +kernel
theorem dX7_writeBond_19 : decode cX7_writeBond 19 = .ok (.pop, 1) := by decide +kernel
theorem dX7_writeBond_20 : decode cX7_writeBond 20 = .ok (.aload_n 0, 1) := by decide +kernel
theorem dX7_writeBond_21 : decode cX7_writeBond 21 = .ok (.getfield 67, 3) := by decide +kernel
theorem dX7_writeBond_24 : decode cX7_writeBond 24 = .ok (.iload_n 1, 1) := by decide +kernel
theorem dX7_writeBond_25 : decode cX7_writeBond 25 = .ok (.invokevirtual 324, 3) := by decide +kernel
theorem dX7_writeBond_28 : decode cX7_writeBond 28 = .ok (.pop, 1) := by decide +kernel
theorem dX7_writeBond_29 : decode cX7_writeBond 29 = .ok (.aload_n 0, 1) := by decide +kernel
theorem dX7_writeBond_30 : decode cX7_writeBond 30 = .ok (.getfield 67, 3) := by decide +kernel
theorem dX7_writeBond_33 : decode cX7_writeBond 33 = .ok (.iload_n 2, 1) := by decide +kernel
theorem dX7_writeBond_34 : decode cX7_writeBond 34 = .ok (.invokevirtual 324, 3) := by decide +kernel
theorem dX7_writeBond_37 : decode cX7_writeBond 37 = .ok (.pop, 1) := by decide +kernel
theorem dX7_writeBond_38 : decode cX7_writeBond 38 = .ok (.aload_n 0, 1) := by decide +kernel
theorem dX7_writeBond_39 : decode cX7_writeBond 39 = .ok (.getfield 67, 3) := by decide +kernel
theorem dX7_writeBond_42 : decode cX7_writeBond 42 = .ok (.bipush 61, 2) := by decide +kernel
theorem dX7_writeBond_44 : decode cX7_writeBond 44 = .ok (.invokevirtual 317, 3) := by decide +kernel
theorem dX7_writeBond_47 : decode cX7_writeBond 47 = .ok (.pop, 1) := by decide +kernel
theorem dX7_writeBond_48 : decode cX7_writeBond 48 = .ok (.aload_n 0, 1) := by decide +kernel
theorem dX7_writeBond_49 : decode cX7_writeBond 49 = .ok (.getfield 67, 3) := by decide +kernel
theorem dX7_writeBond_52 : decode cX7_writeBond 52 = .ok (.aload_n 0, 1) := by decide +kernel
theorem dX7_writeBond_53 : decode cX7_writeBond 53 = .ok (.getfield 12, 3) := by decide +kernel
theorem dX7_writeBond_56 : decode cX7_writeBond 56 = .ok (.iload_n 1, 1) := by decide +kernel
theorem dX7_writeBond_57 : decode cX7_writeBond 57 = .ok (.iload_n 2, 1) := by decide +kernel
theorem dX7_writeBond_58 : decode cX7_writeBond 58 = .ok (.invokevirtual 112, 3) := by decide +kernel
theorem dX7_writeBond_61 : decode cX7_writeBond 61 = .ok (.invokevirtual 324, 3) := by decide +kernel
theorem dX7_writeBond_64 : decode cX7_writeBond 64 = .ok (.pop, 1) := by decide +kernel
theorem dX7_writeBond_65 : decode cX7_writeBond 65 = .ok (.return_, 1) := by decide +kernel
theorem dX7_writeSet_0 : decode cX7_writeSet 0 = .ok (.iconst 0, 1) := by decide +kernel
theorem dX7_writeSet_1 : decode cX7_writeSet 1 = .ok (.istore_n 2, 1) := by decide +kernel
theorem dX7_writeSet_2 : decode cX7_writeSet 2 = .ok (.iload_n 2, 1) := by decide +kernel
theorem dX7_writeSet_3 : decode cX7_writeSet 3 = .ok (.bipush 9, 2) := by decide +kernel
theorem dX7_writeSet_5 : decode cX7_writeSet 5 = .ok (.if_icmp .ge 26, 3) := by decide +kernel
theorem dX7_writeSet_8 : decode cX7_writeSet 8 = .ok (.iload_n 1, 1) := by decide +kernel
theorem dX7_writeSet_9 : decode cX7_writeSet 9 = .ok (.iload_n 2, 1) := by decide +kernel
theorem dX7_writeSet_10 : decode cX7_writeSet 10 = .ok (.invokestatic 436, 3) := by decide +kernel
theorem dX7_writeSet_13 : decode cX7_writeSet 13 = .ok (.ifCond .eq 12, 3) := by decide +kernel
theorem dX7_writeSet_16 : decode cX7_writeSet 16 = .ok (.aload_n 0, 1) := by decide +kernel
theorem dX7_writeSet_17 : decode cX7_writeSet 17 = .ok (.getfield 67, 3) := by decide +kernel
theorem dX7_writeSet_20 : decode cX7_writeSet 20 = .ok (.iload_n 2, 1) := by decide +kernel
theorem dX7_writeSet_21 : decode cX7_writeSet 21 = .ok (.invokevirtual 324, 3) := by decide +kernel
theorem dX7_writeSet_24 : decode cX7_writeSet 24 = .ok (.pop, 1) := by decide +kernel
theorem dX7_writeSet_25 : decode cX7_writeSet 25 = .ok (.iinc 2 1, 3) := by decide +kernel
theorem dX7_writeSet_28 : decode cX7_writeSet 28 = .ok (.goto (-26), 3) := by decide +kernel
theorem dX7_writeSet_31 : decode cX7_writeSet 31 = .ok (.return_, 1) := by decide +kernel
theorem dX7_isIn_0 : decode cX7_isIn 0 = .ok (.iload_n 0, 1) := by decide +kernel
theorem dX7_isIn_1 : decode cX7_isIn 1 = .ok (.iload_n 1, 1) := by decide +kernel
theorem dX7_isIn_2 : decode cX7_isIn 2 = .ok (.ishr, 1) := by decide +kernel
theorem dX7_isIn_3 : decode cX7_isIn 3 = .ok (.iconst 1, 1) := by decide +kernel
theorem dX7_isIn_4 : decode cX7_isIn 4 = .ok (.iand, 1) := by decide +kernel
theorem dX7_isIn_5 : decode cX7_isIn 5 = .ok (.iconst 1, 1) := by decide +kernel
theorem dX7_isIn_6 : decode cX7_isIn 6 = .ok (.if_icmp .ne 7, 3) := by decide +kernel
theorem dX7_isIn_9 : decode cX7_isIn 9 = .ok (.iconst 1, 1) := by decide +kernel
theorem dX7_isIn_10 : decode cX7_isIn 10 = .ok (.goto 4, 3) := by decide +kernel
theorem dX7_isIn_13 : decode cX7_isIn 13 = .ok (.iconst 0, 1) := by decide +kernel
theorem dX7_isIn_14 : decode cX7_isIn 14 = .ok (.ireturn, 1) := by decide +kernel
theorem dX7_lowestOf_0 : decode cX7_lowestOf 0 = .ok (.iconst 0, 1) := by decide +kernel
theorem dX7_lowestOf_1 : decode cX7_lowestOf 1 = .ok (.istore_n 1, 1) := by decide +kernel
theorem dX7_lowestOf_2 : decode cX7_lowestOf 2 = .ok (.iload_n 1, 1) := by decide +kernel
theorem dX7_lowestOf_3 : decode cX7_lowestOf 3 = .ok (.bipush 9, 2) := by decide +kernel
theorem dX7_lowestOf_5 : decode cX7_lowestOf 5 = .ok (.if_icmp .ge 19, 3) := by decide +kernel
theorem dX7_lowestOf_8 : decode cX7_lowestOf 8 = .ok (.iload_n 0, 1) := by decide +kernel
theorem dX7_lowestOf_9 : decode cX7_lowestOf 9 = .ok (.iload_n 1, 1) := by decide +kernel
theorem dX7_lowestOf_10 : decode cX7_lowestOf 10 = .ok (.invokestatic 436, 3) := by decide +kernel
theorem dX7_lowestOf_13 : decode cX7_lowestOf 13 = .ok (.ifCond .eq 5, 3) := by decide +kernel
theorem dX7_lowestOf_16 : decode cX7_lowestOf 16 = .ok (.iload_n 1, 1) := by decide +kernel
theorem dX7_lowestOf_17 : decode cX7_lowestOf 17 = .ok (.ireturn, 1) := by decide +kernel
theorem dX7_lowestOf_18 : decode cX7_lowestOf 18 = .ok (.iinc 1 1, 3) := by decide +kernel
theorem dX7_lowestOf_21 : decode cX7_lowestOf 21 = .ok (.goto (-19), 3) := by decide +kernel
theorem dX7_lowestOf_24 : decode cX7_lowestOf 24 = .ok (.iconst (-1), 1) := by decide +kernel
theorem dX7_lowestOf_25 : decode cX7_lowestOf 25 = .ok (.ireturn, 1) := by decide +kernel
theorem dX8_init_0 : decode cX8_init 0 = .ok (.aload_n 0, 1) := by decide +kernel
theorem dX8_init_1 : decode cX8_init 1 = .ok (.invokespecial 1, 3) := by decide +kernel
theorem dX8_init_4 : decode cX8_init 4 = .ok (.aload_n 0, 1) := by decide +kernel
theorem dX8_init_5 : decode cX8_init 5 = .ok (.sipush 1128, 3) := by decide +kernel
theorem dX8_init_8 : decode cX8_init 8 = .ok (.newarray .int, 2) := by decide +kernel
theorem dX8_init_10 : decode cX8_init 10 = .ok (.putfield 9, 3) := by decide +kernel
theorem dX8_init_13 : decode cX8_init 13 = .ok (.aload_n 0, 1) := by decide +kernel
theorem dX8_init_14 : decode cX8_init 14 = .ok (.bipush 81, 2) := by decide +kernel
theorem dX8_init_16 : decode cX8_init 16 = .ok (.newarray .int, 2) := by decide +kernel
theorem dX8_init_18 : decode cX8_init 18 = .ok (.putfield 13, 3) := by decide +kernel
theorem dX8_init_21 : decode cX8_init 21 = .ok (.aload_n 0, 1) := by decide +kernel
theorem dX8_init_22 : decode cX8_init 22 = .ok (.bipush 81, 2) := by decide +kernel
theorem dX8_init_24 : decode cX8_init 24 = .ok (.newarray .int, 2) := by decide +kernel
theorem dX8_init_26 : decode cX8_init 26 = .ok (.putfield 16, 3) := by decide +kernel
theorem dX8_init_29 : decode cX8_init 29 = .ok (.aload_n 0, 1) := by decide +kernel
theorem dX8_init_30 : decode cX8_init 30 = .ok (.bipush 9, 2) := by decide +kernel
theorem dX8_init_32 : decode cX8_init 32 = .ok (.newarray .int, 2) := by decide +kernel
theorem dX8_init_34 : decode cX8_init 34 = .ok (.putfield 19, 3) := by decide +kernel
theorem dX8_init_37 : decode cX8_init 37 = .ok (.aload_n 0, 1) := by decide +kernel
theorem dX8_init_38 : decode cX8_init 38 = .ok (.bipush 9, 2) := by decide +kernel
theorem dX8_init_40 : decode cX8_init 40 = .ok (.newarray .int, 2) := by decide +kernel
theorem dX8_init_42 : decode cX8_init 42 = .ok (.putfield 22, 3) := by decide +kernel
theorem dX8_init_45 : decode cX8_init 45 = .ok (.aload_n 0, 1) := by decide +kernel
theorem dX8_init_46 : decode cX8_init 46 = .ok (.bipush 9, 2) := by decide +kernel
theorem dX8_init_48 : decode cX8_init 48 = .ok (.newarray .int, 2) := by decide +kernel
theorem dX8_init_50 : decode cX8_init 50 = .ok (.putfield 25, 3) := by decide +kernel
theorem dX8_init_53 : decode cX8_init 53 = .ok (.aload_n 0, 1) := by decide +kernel
theorem dX8_init_54 : decode cX8_init 54 = .ok (.bipush 60, 2) := by decide +kernel
theorem dX8_init_56 : decode cX8_init 56 = .ok (.newarray .char, 2) := by decide +kernel
theorem dX8_init_58 : decode cX8_init 58 = .ok (.putfield 28, 3) := by decide +kernel
theorem dX8_init_61 : decode cX8_init 61 = .ok (.aload_n 0, 1) := by decide +kernel
theorem dX8_init_62 : decode cX8_init 62 = .ok (.iconst (-1), 1) := by decide +kernel
theorem dX8_init_63 : decode cX8_init 63 = .ok (.putfield 32, 3) := by decide +kernel
theorem dX8_init_66 : decode cX8_init 66 = .ok (.aload_n 0, 1) := by decide +kernel
theorem dX8_init_67 : decode cX8_init 67 = .ok (.sipush 244, 3) := by decide +kernel
theorem dX8_init_70 : decode cX8_init 70 = .ok (.newarray .int, 2) := by decide +kernel
theorem dX8_init_72 : decode cX8_init 72 = .ok (.putfield 36, 3) := by decide +kernel
theorem dX8_init_75 : decode cX8_init 75 = .ok (.aload_n 0, 1) := by decide +kernel
theorem dX8_init_76 : decode cX8_init 76 = .ok (.sipush 500, 3) := by decide +kernel
theorem dX8_init_79 : decode cX8_init 79 = .ok (.newarray .char, 2) := by decide +kernel
theorem dX8_init_81 : decode cX8_init 81 = .ok (.putfield 39, 3) := by decide +kernel
theorem dX8_init_84 : decode cX8_init 84 = .ok (.return_, 1) := by decide +kernel
theorem dX8_thrown_0 : decode cX8_thrown 0 = .ok (.aload_n 0, 1) := by decide +kernel
theorem dX8_thrown_1 : decode cX8_thrown 1 = .ok (.getfield 42, 3) := by decide +kernel
theorem dX8_thrown_4 : decode cX8_thrown 4 = .ok (.ireturn, 1) := by decide +kernel
theorem dX8_in_0 : decode cX8_in 0 = .ok (.iload_n 0, 1) := by decide +kernel
theorem dX8_in_1 : decode cX8_in 1 = .ok (.iload_n 1, 1) := by decide +kernel
theorem dX8_in_2 : decode cX8_in 2 = .ok (.if_icmp .lt 12, 3) := by decide +kernel
theorem dX8_in_5 : decode cX8_in 5 = .ok (.iload_n 0, 1) := by decide +kernel
theorem dX8_in_6 : decode cX8_in 6 = .ok (.iload_n 2, 1) := by decide +kernel
theorem dX8_in_7 : decode cX8_in 7 = .ok (.if_icmp .gt 7, 3) := by decide +kernel
theorem dX8_in_10 : decode cX8_in 10 = .ok (.iconst 1, 1) := by decide +kernel
theorem dX8_in_11 : decode cX8_in 11 = .ok (.goto 4, 3) := by decide +kernel
theorem dX8_in_14 : decode cX8_in 14 = .ok (.iconst 0, 1) := by decide +kernel
theorem dX8_in_15 : decode cX8_in 15 = .ok (.ireturn, 1) := by decide +kernel
theorem dX8_copies_0 : decode cX8_copies 0 = .ok (.iconst 0, 1) := by decide +kernel
theorem dX8_copies_1 : decode cX8_copies 1 = .ok (.istore_n 3, 1) := by decide +kernel
theorem dX8_copies_2 : decode cX8_copies 2 = .ok (.iload_n 3, 1) := by decide +kernel
theorem dX8_copies_3 : decode cX8_copies 3 = .ok (.bipush 94, 2) := by decide +kernel
theorem dX8_copies_5 : decode cX8_copies 5 = .ok (.if_icmp .ge 31, 3) := by decide +kernel
theorem dX8_copies_8 : decode cX8_copies 8 = .ok (.aload_n 0, 1) := by decide +kernel
theorem dX8_copies_9 : decode cX8_copies 9 = .ok (.getfield 9, 3) := by decide +kernel
theorem dX8_copies_12 : decode cX8_copies 12 = .ok (.bipush 94, 2) := by decide +kernel
theorem dX8_copies_14 : decode cX8_copies 14 = .ok (.iload_n 2, 1) := by decide +kernel
theorem dX8_copies_15 : decode cX8_copies 15 = .ok (.imul, 1) := by decide +kernel
theorem dX8_copies_16 : decode cX8_copies 16 = .ok (.iload_n 3, 1) := by decide +kernel
theorem dX8_copies_17 : decode cX8_copies 17 = .ok (.iadd, 1) := by decide +kernel
theorem dX8_copies_18 : decode cX8_copies 18 = .ok (.aload_n 0, 1) := by decide +kernel
theorem dX8_copies_19 : decode cX8_copies 19 = .ok (.getfield 9, 3) := by decide +kernel
theorem dX8_copies_22 : decode cX8_copies 22 = .ok (.bipush 94, 2) := by decide +kernel
theorem dX8_copies_24 : decode cX8_copies 24 = .ok (.iload_n 1, 1) := by decide +kernel
theorem dX8_copies_25 : decode cX8_copies 25 = .ok (.imul, 1) := by decide +kernel
theorem dX8_copies_26 : decode cX8_copies 26 = .ok (.iload_n 3, 1) := by decide +kernel
theorem dX8_copies_27 : decode cX8_copies 27 = .ok (.iadd, 1) := by decide +kernel
theorem dX8_copies_28 : decode cX8_copies 28 = .ok (.iaload, 1) := by decide +kernel
theorem dX8_copies_29 : decode cX8_copies 29 = .ok (.iastore, 1) := by decide +kernel
theorem dX8_copies_30 : decode cX8_copies 30 = .ok (.iinc 3 1, 3) := by decide +kernel
theorem dX8_copies_33 : decode cX8_copies 33 = .ok (.goto (-31), 3) := by decide +kernel
theorem dX8_copies_36 : decode cX8_copies 36 = .ok (.return_, 1) := by decide +kernel
theorem dX8_begins_0 : decode cX8_begins 0 = .ok (.aload_n 0, 1) := by decide +kernel
theorem dX8_begins_1 : decode cX8_begins 1 = .ok (.iconst 0, 1) := by decide +kernel
theorem dX8_begins_2 : decode cX8_begins 2 = .ok (.bipush 10, 2) := by decide +kernel
theorem dX8_begins_4 : decode cX8_begins 4 = .ok (.invokevirtual 45, 3) := by decide +kernel
theorem dX8_begins_7 : decode cX8_begins 7 = .ok (.return_, 1) := by decide +kernel
theorem dX8_ends_0 : decode cX8_ends 0 = .ok (.aload_n 0, 1) := by decide +kernel
theorem dX8_ends_1 : decode cX8_ends 1 = .ok (.iload_n 1, 1) := by decide +kernel
theorem dX8_ends_2 : decode cX8_ends 2 = .ok (.ifCond .eq 7, 3) := by decide +kernel
theorem dX8_ends_5 : decode cX8_ends 5 = .ok (.iconst 0, 1) := by decide +kernel
theorem dX8_ends_6 : decode cX8_ends 6 = .ok (.goto 4, 3) := by decide +kernel
theorem dX8_ends_9 : decode cX8_ends 9 = .ok (.iload_n 2, 1) := by decide +kernel
theorem dX8_ends_10 : decode cX8_ends 10 = .ok (.putfield 42, 3) := by decide +kernel
theorem dX8_ends_13 : decode cX8_ends 13 = .ok (.iload_n 1, 1) := by decide +kernel
theorem dX8_ends_14 : decode cX8_ends 14 = .ok (.ifCond .ne 12, 3) := by decide +kernel
theorem dX8_ends_17 : decode cX8_ends 17 = .ok (.aload_n 0, 1) := by decide +kernel
theorem dX8_ends_18 : decode cX8_ends 18 = .ok (.bipush 10, 2) := by decide +kernel
theorem dX8_ends_20 : decode cX8_ends 20 = .ok (.iconst 0, 1) := by decide +kernel
theorem dX8_ends_21 : decode cX8_ends 21 = .ok (.invokevirtual 45, 3) := by decide +kernel
theorem dX8_ends_24 : decode cX8_ends 24 = .ok (.iconst 0, 1) := by decide +kernel
theorem dX8_ends_25 : decode cX8_ends 25 = .ok (.ireturn, 1) := by decide +kernel
theorem dX8_ends_26 : decode cX8_ends 26 = .ok (.aload_n 0, 1) := by decide +kernel
theorem dX8_ends_27 : decode cX8_ends 27 = .ok (.getfield 49, 3) := by decide +kernel
theorem dX8_ends_30 : decode cX8_ends 30 = .ok (.bipush 8, 2) := by decide +kernel
theorem dX8_ends_32 : decode cX8_ends 32 = .ok (.if_icmp .ne 35, 3) := by decide +kernel
theorem dX8_ends_35 : decode cX8_ends 35 = .ok (.iconst 1, 1) := by decide +kernel
theorem dX8_ends_36 : decode cX8_ends 36 = .ok (.istore_n 3, 1) := by decide +kernel
theorem dX8_ends_37 : decode cX8_ends 37 = .ok (.iload_n 3, 1) := by decide +kernel
theorem dX8_ends_38 : decode cX8_ends 38 = .ok (.bipush 8, 2) := by decide +kernel
theorem dX8_ends_40 : decode cX8_ends 40 = .ok (.if_icmp .ge 17, 3) := by decide +kernel
theorem dX8_ends_43 : decode cX8_ends 43 = .ok (.aload_n 0, 1) := by decide +kernel
theorem dX8_ends_44 : decode cX8_ends 44 = .ok (.iload_n 3, 1) := by decide +kernel
theorem dX8_ends_45 : decode cX8_ends 45 = .ok (.iconst 1, 1) := by decide +kernel
theorem dX8_ends_46 : decode cX8_ends 46 = .ok (.iadd, 1) := by decide +kernel
theorem dX8_ends_47 : decode cX8_ends 47 = .ok (.iload_n 3, 1) := by decide +kernel
theorem dX8_ends_48 : decode cX8_ends 48 = .ok (.invokevirtual 45, 3) := by decide +kernel
theorem dX8_ends_51 : decode cX8_ends 51 = .ok (.iinc 3 1, 3) := by decide +kernel
theorem dX8_ends_54 : decode cX8_ends 54 = .ok (.goto (-17), 3) := by decide +kernel
theorem dX8_ends_57 : decode cX8_ends 57 = .ok (.aload_n 0, 1) := by decide +kernel
theorem dX8_ends_58 : decode cX8_ends 58 = .ok (.dup, 1) := by decide +kernel
theorem dX8_ends_59 : decode cX8_ends 59 = .ok (.getfield 49, 3) := by decide +kernel
theorem dX8_ends_62 : decode cX8_ends 62 = .ok (.iconst 1, 1) := by decide +kernel
theorem dX8_ends_63 : decode cX8_ends 63 = .ok (.isub, 1) := by decide +kernel
theorem dX8_ends_64 : decode cX8_ends 64 = .ok (.putfield 49, 3) := by decide +kernel
theorem dX8_ends_67 : decode cX8_ends 67 = .ok (.aload_n 0, 1) := by decide +kernel
theorem dX8_ends_68 : decode cX8_ends 68 = .ok (.dup, 1) := by decide +kernel
theorem dX8_ends_69 : decode cX8_ends 69 = .ok (.getfield 49, 3) := by decide +kernel
theorem dX8_ends_72 : decode cX8_ends 72 = .ok (.iconst 1, 1) := by decide +kernel
theorem dX8_ends_73 : decode cX8_ends 73 = .ok (.iadd, 1) := by decide +kernel
theorem dX8_ends_74 : decode cX8_ends 74 = .ok (.putfield 49, 3) := by decide +kernel
theorem dX8_ends_77 : decode cX8_ends 77 = .ok (.aload_n 0, 1) := by decide +kernel
theorem dX8_ends_78 : decode cX8_ends 78 = .ok (.bipush 10, 2) := by decide +kernel
theorem dX8_ends_80 : decode cX8_ends 80 = .ok (.aload_n 0, 1) := by decide +kernel
theorem dX8_ends_81 : decode cX8_ends 81 = .ok (.getfield 49, 3) := by decide +kernel
theorem dX8_ends_84 : decode cX8_ends 84 = .ok (.invokevirtual 45, 3) := by decide +kernel
theorem dX8_ends_87 : decode cX8_ends 87 = .ok (.aload_n 0, 1) := by decide +kernel
theorem dX8_ends_88 : decode cX8_ends 88 = .ok (.getfield 52, 3) := by decide +kernel
theorem dX8_ends_91 : decode cX8_ends 91 = .ok (.ireturn, 1) := by decide +kernel
theorem dX8_refuses_0 : decode cX8_refuses 0 = .ok (.iload_n 1, 1) := by decide +kernel
theorem dX8_refuses_1 : decode cX8_refuses 1 = .ok (.ifCond .eq 18, 3) := by decide +kernel
theorem dX8_refuses_4 : decode cX8_refuses 4 = .ok (.aload_n 0, 1) := by decide +kernel
theorem dX8_refuses_5 : decode cX8_refuses 5 = .ok (.iload_n 2, 1) := by decide +kernel
theorem dX8_refuses_6 : decode cX8_refuses 6 = .ok (.putfield 55, 3) := by decide +kernel
theorem dX8_refuses_9 : decode cX8_refuses 9 = .ok (.aload_n 0, 1) := by decide +kernel
theorem dX8_refuses_10 : decode cX8_refuses 10 = .ok (.iload_n 3, 1) := by decide +kernel
theorem dX8_refuses_11 : decode cX8_refuses 11 = .ok (.putfield 58, 3) := by decide +kernel
theorem dX8_refuses_14 : decode cX8_refuses 14 = .ok (.aload_n 0, 1) := by decide +kernel
theorem dX8_refuses_15 : decode cX8_refuses 15 = .ok (.iconst 0, 1) := by decide +kernel
theorem dX8_refuses_16 : decode cX8_refuses 16 = .ok (.putfield 61, 3) := by decide +kernel
theorem dX8_refuses_19 : decode cX8_refuses 19 = .ok (.iload_n 1, 1) := by decide +kernel
theorem dX8_refuses_20 : decode cX8_refuses 20 = .ok (.ireturn, 1) := by decide +kernel
theorem dX8_isThere_0 : decode cX8_isThere 0 = .ok (.aload_n 0, 1) := by decide +kernel
theorem dX8_isThere_1 : decode cX8_isThere 1 = .ok (.iload_n 1, 1) := by decide +kernel
theorem dX8_isThere_2 : decode cX8_isThere 2 = .ok (.ifCond .eq 7, 3) := by decide +kernel
theorem dX8_isThere_5 : decode cX8_isThere 5 = .ok (.iconst 0, 1) := by decide +kernel
theorem dX8_isThere_6 : decode cX8_isThere 6 = .ok (.goto 4, 3) := by decide +kernel
theorem dX8_isThere_9 : decode cX8_isThere 9 = .ok (.iconst 1, 1) := by decide +kernel
theorem dX8_isThere_10 : decode cX8_isThere 10 = .ok (.putfield 42, 3) := by decide +kernel
theorem dX8_isThere_13 : decode cX8_isThere 13 = .ok (.iload_n 1, 1) := by decide +kernel
theorem dX8_isThere_14 : decode cX8_isThere 14 = .ok (.ireturn, 1) := by decide +kernel
theorem dX8_reason_0 : decode cX8_reason 0 = .ok (.aload_n 0, 1) := by decide +kernel
theorem dX8_reason_1 : decode cX8_reason 1 = .ok (.iload_n 1, 1) := by decide +kernel
theorem dX8_reason_2 : decode cX8_reason 2 = .ok (.iconst 0, 1) := by decide +kernel
theorem dX8_reason_3 : decode cX8_reason 3 = .ok (.iconst 1, 1) := by decide +kernel
theorem dX8_reason_4 : decode cX8_reason 4 = .ok (.invokestatic 64, 3) := by decide +kernel
theorem dX8_reason_7 : decode cX8_reason 7 = .ok (.ifCond .ne 7, 3) := by decide +kernel
theorem dX8_reason_10 : decode cX8_reason 10 = .ok (.iconst 1, 1) := by decide +kernel
theorem dX8_reason_11 : decode cX8_reason 11 = .ok (.goto 26, 3) := by decide +kernel
theorem dX8_reason_14 : decode cX8_reason 14 = .ok (.iload_n 1, 1) := by decide +kernel
theorem dX8_reason_15 : decode cX8_reason 15 = .ok (.ifCond .ne 10, 3) := by decide +kernel
theorem dX8_reason_18 : decode cX8_reason 18 = .ok (.aload_n 0, 1) := by decide +kernel
theorem dX8_reason_19 : decode cX8_reason 19 = .ok (.getfield 55, 3) := by decide +kernel
theorem dX8_reason_22 : decode cX8_reason 22 = .ok (.goto 7, 3) := by decide +kernel
theorem dX8_reason_25 : decode cX8_reason 25 = .ok (.aload_n 0, 1) := by decide +kernel
theorem dX8_reason_26 : decode cX8_reason 26 = .ok (.getfield 61, 3) := by decide +kernel
theorem dX8_reason_29 : decode cX8_reason 29 = .ok (.ifCond .ne 7, 3) := by decide +kernel
theorem dX8_reason_32 : decode cX8_reason 32 = .ok (.iconst 2, 1) := by decide +kernel
theorem dX8_reason_33 : decode cX8_reason 33 = .ok (.goto 4, 3) := by decide +kernel
theorem dX8_reason_36 : decode cX8_reason 36 = .ok (.iconst 0, 1) := by decide +kernel
theorem dX8_reason_37 : decode cX8_reason 37 = .ok (.putfield 42, 3) := by decide +kernel
theorem dX8_reason_40 : decode cX8_reason 40 = .ok (.aload_n 0, 1) := by decide +kernel
theorem dX8_reason_41 : decode cX8_reason 41 = .ok (.getfield 42, 3) := by decide +kernel
theorem dX8_reason_44 : decode cX8_reason 44 = .ok (.ifCond .eq 5, 3) := by decide +kernel
theorem dX8_reason_47 : decode cX8_reason 47 = .ok (.iconst 0, 1) := by decide +kernel
theorem dX8_reason_48 : decode cX8_reason 48 = .ok (.ireturn, 1) := by decide +kernel
theorem dX8_reason_49 : decode cX8_reason 49 = .ok (.iload_n 1, 1) := by decide +kernel
theorem dX8_reason_50 : decode cX8_reason 50 = .ok (.ifCond .ne 21, 3) := by decide +kernel
theorem dX8_reason_53 : decode cX8_reason 53 = .ok (.iload_n 2, 1) := by decide +kernel
theorem dX8_reason_54 : decode cX8_reason 54 = .ok (.ifCond .eq 10, 3) := by decide +kernel
theorem dX8_reason_57 : decode cX8_reason 57 = .ok (.aload_n 0, 1) := by decide +kernel
theorem dX8_reason_58 : decode cX8_reason 58 = .ok (.getfield 58, 3) := by decide +kernel
theorem dX8_reason_61 : decode cX8_reason 61 = .ok (.goto 25, 3) := by decide +kernel
theorem dX8_reason_64 : decode cX8_reason 64 = .ok (.aload_n 0, 1) := by decide +kernel
theorem dX8_reason_65 : decode cX8_reason 65 = .ok (.getfield 55, 3) := by decide +kernel
theorem dX8_reason_68 : decode cX8_reason 68 = .ok (.goto 18, 3) := by decide +kernel
theorem dX8_reason_71 : decode cX8_reason 71 = .ok (.iload_n 2, 1) := by decide +kernel
theorem dX8_reason_72 : decode cX8_reason 72 = .ok (.ifCond .eq 10, 3) := by decide +kernel
theorem dX8_reason_75 : decode cX8_reason 75 = .ok (.aload_n 0, 1) := by decide +kernel
theorem dX8_reason_76 : decode cX8_reason 76 = .ok (.getfield 68, 3) := by decide +kernel
theorem dX8_reason_79 : decode cX8_reason 79 = .ok (.goto 7, 3) := by decide +kernel
theorem dX8_reason_82 : decode cX8_reason 82 = .ok (.aload_n 0, 1) := by decide +kernel
theorem dX8_reason_83 : decode cX8_reason 83 = .ok (.getfield 61, 3) := by decide +kernel
theorem dX8_reason_86 : decode cX8_reason 86 = .ok (.ireturn, 1) := by decide +kernel
theorem dX8_w_0 : decode cX8_w 0 = .ok (.aload_n 0, 1) := by decide +kernel
theorem dX8_w_1 : decode cX8_w 1 = .ok (.getfield 9, 3) := by decide +kernel
theorem dX8_w_4 : decode cX8_w 4 = .ok (.bipush 13, 2) := by decide +kernel
theorem dX8_w_6 : decode cX8_w 6 = .ok (.bipush 9, 2) := by decide +kernel
theorem dX8_w_8 : decode cX8_w 8 = .ok (.iload_n 1, 1) := by decide +kernel
theorem dX8_w_9 : decode cX8_w 9 = .ok (.imul, 1) := by decide +kernel
theorem dX8_w_10 : decode cX8_w 10 = .ok (.iadd, 1) := by decide +kernel
theorem dX8_w_11 : decode cX8_w 11 = .ok (.iload_n 2, 1) := by decide +kernel
theorem dX8_w_12 : decode cX8_w 12 = .ok (.iadd, 1) := by decide +kernel
theorem dX8_w_13 : decode cX8_w 13 = .ok (.iaload, 1) := by decide +kernel
theorem dX8_w_14 : decode cX8_w 14 = .ok (.ireturn, 1) := by decide +kernel
theorem dX8_setBond_0 : decode cX8_setBond 0 = .ok (.aload_n 0, 1) := by decide +kernel
theorem dX8_setBond_1 : decode cX8_setBond 1 = .ok (.getfield 9, 3) := by decide +kernel
theorem dX8_setBond_4 : decode cX8_setBond 4 = .ok (.bipush 13, 2) := by decide +kernel
theorem dX8_setBond_6 : decode cX8_setBond 6 = .ok (.bipush 9, 2) := by decide +kernel
theorem dX8_setBond_8 : decode cX8_setBond 8 = .ok (.iload_n 1, 1) := by decide +kernel
theorem dX8_setBond_9 : decode cX8_setBond 9 = .ok (.imul, 1) := by decide +kernel
theorem dX8_setBond_10 : decode cX8_setBond 10 = .ok (.iadd, 1) := by decide +kernel
theorem dX8_setBond_11 : decode cX8_setBond 11 = .ok (.iload_n 2, 1) := by decide +kernel
theorem dX8_setBond_12 : decode cX8_setBond 12 = .ok (.iadd, 1) := by decide +kernel
theorem dX8_setBond_13 : decode cX8_setBond 13 = .ok (.iload_n 3, 1) := by decide +kernel
theorem dX8_setBond_14 : decode cX8_setBond 14 = .ok (.iastore, 1) := by decide +kernel
theorem dX8_setBond_15 : decode cX8_setBond 15 = .ok (.aload_n 0, 1) := by decide +kernel
theorem dX8_setBond_16 : decode cX8_setBond 16 = .ok (.getfield 9, 3) := by decide +kernel
theorem dX8_setBond_19 : decode cX8_setBond 19 = .ok (.bipush 13, 2) := by decide +kernel
theorem dX8_setBond_21 : decode cX8_setBond 21 = .ok (.bipush 9, 2) := by decide +kernel
theorem dX8_setBond_23 : decode cX8_setBond 23 = .ok (.iload_n 2, 1) := by decide +kernel
theorem dX8_setBond_24 : decode cX8_setBond 24 = .ok (.imul, 1) := by decide +kernel
theorem dX8_setBond_25 : decode cX8_setBond 25 = .ok (.iadd, 1) := by decide +kernel
theorem dX8_setBond_26 : decode cX8_setBond 26 = .ok (.iload_n 1, 1) := by decide +kernel
theorem dX8_setBond_27 : decode cX8_setBond 27 = .ok (.iadd, 1) := by decide +kernel
theorem dX8_setBond_28 : decode cX8_setBond 28 = .ok (.iload_n 3, 1) := by decide +kernel
theorem dX8_setBond_29 : decode cX8_setBond 29 = .ok (.iastore, 1) := by decide +kernel
theorem dX8_setBond_30 : decode cX8_setBond 30 = .ok (.return_, 1) := by decide +kernel
theorem dX8_isHouse_0 : decode cX8_isHouse 0 = .ok (.iload_n 1, 1) := by decide +kernel
theorem dX8_isHouse_1 : decode cX8_isHouse 1 = .ok (.iconst 0, 1) := by decide +kernel
theorem dX8_isHouse_2 : decode cX8_isHouse 2 = .ok (.aload_n 0, 1) := by decide +kernel
theorem dX8_isHouse_3 : decode cX8_isHouse 3 = .ok (.getfield 9, 3) := by decide +kernel
theorem dX8_isHouse_6 : decode cX8_isHouse 6 = .ok (.iconst 0, 1) := by decide +kernel
theorem dX8_isHouse_7 : decode cX8_isHouse 7 = .ok (.iaload, 1) := by decide +kernel
theorem dX8_isHouse_8 : decode cX8_isHouse 8 = .ok (.iconst 1, 1) := by decide +kernel
theorem dX8_isHouse_9 : decode cX8_isHouse 9 = .ok (.isub, 1) := by decide +kernel
theorem dX8_isHouse_10 : decode cX8_isHouse 10 = .ok (.invokestatic 64, 3) := by decide +kernel
theorem dX8_isHouse_13 : decode cX8_isHouse 13 = .ok (.ireturn, 1) := by decide +kernel
theorem dX8_isNone_0 : decode cX8_isNone 0 = .ok (.aload_n 0, 1) := by decide +kernel
theorem dX8_isNone_1 : decode cX8_isNone 1 = .ok (.aload_n 0, 1) := by decide +kernel
theorem dX8_isNone_2 : decode cX8_isNone 2 = .ok (.iload_n 1, 1) := by decide +kernel
theorem dX8_isNone_3 : decode cX8_isNone 3 = .ok (.invokevirtual 71, 3) := by decide +kernel
theorem dX8_isNone_6 : decode cX8_isNone 6 = .ok (.ifCond .ne 7, 3) := by decide +kernel
theorem dX8_isNone_9 : decode cX8_isNone 9 = .ok (.iconst 1, 1) := by decide +kernel
theorem dX8_isNone_10 : decode cX8_isNone 10 = .ok (.goto 4, 3) := by decide +kernel
theorem dX8_isNone_13 : decode cX8_isNone 13 = .ok (.iconst 0, 1) := by decide +kernel
theorem dX8_isNone_14 : decode cX8_isNone 14 = .ok (.iconst 2, 1) := by decide +kernel
theorem dX8_isNone_15 : decode cX8_isNone 15 = .ok (.iload_n 1, 1) := by decide +kernel
theorem dX8_isNone_16 : decode cX8_isNone 16 = .ok (.invokevirtual 75, 3) := by decide +kernel
theorem dX8_isNone_19 : decode cX8_isNone 19 = .ok (.ireturn, 1) := by decide +kernel
theorem dX8_areNone_0 : decode cX8_areNone 0 = .ok (.aload_n 0, 1) := by decide +kernel
theorem dX8_areNone_1 : decode cX8_areNone 1 = .ok (.iload_n 1, 1) := by decide +kernel
theorem dX8_areNone_2 : decode cX8_areNone 2 = .ok (.invokevirtual 79, 3) := by decide +kernel
theorem dX8_areNone_5 : decode cX8_areNone 5 = .ok (.ifCond .ne 30, 3) := by decide +kernel
theorem dX8_areNone_8 : decode cX8_areNone 8 = .ok (.aload_n 0, 1) := by decide +kernel
theorem dX8_areNone_9 : decode cX8_areNone 9 = .ok (.iload_n 2, 1) := by decide +kernel
theorem dX8_areNone_10 : decode cX8_areNone 10 = .ok (.invokevirtual 79, 3) := by decide +kernel
theorem dX8_areNone_13 : decode cX8_areNone 13 = .ok (.ifCond .ne 22, 3) := by decide +kernel
theorem dX8_areNone_16 : decode cX8_areNone 16 = .ok (.aload_n 0, 1) := by decide +kernel
theorem dX8_areNone_17 : decode cX8_areNone 17 = .ok (.iload_n 1, 1) := by decide +kernel
theorem dX8_areNone_18 : decode cX8_areNone 18 = .ok (.iload_n 2, 1) := by decide +kernel
theorem dX8_areNone_19 : decode cX8_areNone 19 = .ok (.if_icmp .ne 7, 3) := by decide +kernel
theorem dX8_areNone_22 : decode cX8_areNone 22 = .ok (.iconst 1, 1) := by decide +kernel
theorem dX8_areNone_23 : decode cX8_areNone 23 = .ok (.goto 4, 3) := by decide +kernel
theorem dX8_areNone_26 : decode cX8_areNone 26 = .ok (.iconst 0, 1) := by decide +kernel
theorem dX8_areNone_27 : decode cX8_areNone 27 = .ok (.iconst 3, 1) := by decide +kernel
theorem dX8_areNone_28 : decode cX8_areNone 28 = .ok (.iload_n 1, 1) := by decide +kernel
theorem dX8_areNone_29 : decode cX8_areNone 29 = .ok (.invokevirtual 75, 3) := by decide +kernel
theorem dX8_areNone_32 : decode cX8_areNone 32 = .ok (.ifCond .eq 7, 3) := by decide +kernel
theorem dX8_areNone_35 : decode cX8_areNone 35 = .ok (.iconst 1, 1) := by decide +kernel
theorem dX8_areNone_36 : decode cX8_areNone 36 = .ok (.goto 4, 3) := by decide +kernel
theorem dX8_areNone_39 : decode cX8_areNone 39 = .ok (.iconst 0, 1) := by decide +kernel
theorem dX8_areNone_40 : decode cX8_areNone 40 = .ok (.ireturn, 1) := by decide +kernel
theorem dX8_holds_0 : decode cX8_holds 0 = .ok (.iload_n 0, 1) := by decide +kernel
theorem dX8_holds_1 : decode cX8_holds 1 = .ok (.iload_n 1, 1) := by decide +kernel
theorem dX8_holds_2 : decode cX8_holds 2 = .ok (.ishr, 1) := by decide +kernel
theorem dX8_holds_3 : decode cX8_holds 3 = .ok (.iconst 1, 1) := by decide +kernel
theorem dX8_holds_4 : decode cX8_holds 4 = .ok (.iand, 1) := by decide +kernel
theorem dX8_holds_5 : decode cX8_holds 5 = .ok (.iconst 1, 1) := by decide +kernel
theorem dX8_holds_6 : decode cX8_holds 6 = .ok (.if_icmp .ne 7, 3) := by decide +kernel
theorem dX8_holds_9 : decode cX8_holds 9 = .ok (.iconst 1, 1) := by decide +kernel
theorem dX8_holds_10 : decode cX8_holds 10 = .ok (.goto 4, 3) := by decide +kernel
theorem dX8_holds_13 : decode cX8_holds 13 = .ok (.iconst 0, 1) := by decide +kernel
theorem dX8_holds_14 : decode cX8_holds 14 = .ok (.ireturn, 1) := by decide +kernel
theorem dX8_everyone_0 : decode cX8_everyone 0 = .ok (.iconst 1, 1) := by decide +kernel
theorem dX8_everyone_1 : decode cX8_everyone 1 = .ok (.aload_n 0, 1) := by decide +kernel
theorem dX8_everyone_2 : decode cX8_everyone 2 = .ok (.getfield 9, 3) := by decide +kernel
theorem dX8_everyone_5 : decode cX8_everyone 5 = .ok (.iconst 0, 1) := by decide +kernel
theorem dX8_everyone_6 : decode cX8_everyone 6 = .ok (.iaload, 1) := by decide +kernel
theorem dX8_everyone_7 : decode cX8_everyone 7 = .ok (.ishl, 1) := by decide +kernel
theorem dX8_everyone_8 : decode cX8_everyone 8 = .ok (.iconst 1, 1) := by decide +kernel
theorem dX8_everyone_9 : decode cX8_everyone 9 = .ok (.isub, 1) := by decide +kernel
theorem dX8_everyone_10 : decode cX8_everyone 10 = .ok (.ireturn, 1) := by decide +kernel
theorem dX8_tie_0 : decode cX8_tie 0 = .ok (.iconst 0, 1) := by decide +kernel
theorem dX8_tie_1 : decode cX8_tie 1 = .ok (.istore_n 3, 1) := by decide +kernel
theorem dX8_tie_2 : decode cX8_tie 2 = .ok (.iconst 0, 1) := by decide +kernel
theorem dX8_tie_3 : decode cX8_tie 3 = .ok (.istore 4, 2) := by decide +kernel
theorem dX8_tie_5 : decode cX8_tie 5 = .ok (.iload 4, 2) := by decide +kernel
theorem dX8_tie_7 : decode cX8_tie 7 = .ok (.aload_n 0, 1) := by decide +kernel
theorem dX8_tie_8 : decode cX8_tie 8 = .ok (.getfield 9, 3) := by decide +kernel
theorem dX8_tie_11 : decode cX8_tie 11 = .ok (.iconst 0, 1) := by decide +kernel
theorem dX8_tie_12 : decode cX8_tie 12 = .ok (.iaload, 1) := by decide +kernel
theorem dX8_tie_13 : decode cX8_tie 13 = .ok (.if_icmp .ge 62, 3) := by decide +kernel
theorem dX8_tie_16 : decode cX8_tie 16 = .ok (.iconst 0, 1) := by decide +kernel
theorem dX8_tie_17 : decode cX8_tie 17 = .ok (.istore 5, 2) := by decide +kernel
theorem dX8_tie_19 : decode cX8_tie 19 = .ok (.iload 5, 2) := by decide +kernel
theorem dX8_tie_21 : decode cX8_tie 21 = .ok (.aload_n 0, 1) := by decide +kernel
theorem dX8_tie_22 : decode cX8_tie 22 = .ok (.getfield 9, 3) := by decide +kernel
theorem dX8_tie_25 : decode cX8_tie 25 = .ok (.iconst 0, 1) := by decide +kernel
theorem dX8_tie_26 : decode cX8_tie 26 = .ok (.iaload, 1) := by decide +kernel
theorem dX8_tie_27 : decode cX8_tie 27 = .ok (.if_icmp .ge 42, 3) := by decide +kernel
theorem dX8_tie_30 : decode cX8_tie 30 = .ok (.iload_n 3, 1) := by decide +kernel
theorem dX8_tie_31 : decode cX8_tie 31 = .ok (.iload_n 1, 1) := by decide +kernel
theorem dX8_tie_32 : decode cX8_tie 32 = .ok (.iload 4, 2) := by decide +kernel
theorem dX8_tie_34 : decode cX8_tie 34 = .ok (.invokestatic 82, 3) := by decide +kernel
theorem dX8_tie_37 : decode cX8_tie 37 = .ok (.ifCond .eq 23, 3) := by decide +kernel
theorem dX8_tie_40 : decode cX8_tie 40 = .ok (.iload_n 2, 1) := by decide +kernel
theorem dX8_tie_41 : decode cX8_tie 41 = .ok (.iload 5, 2) := by decide +kernel
theorem dX8_tie_43 : decode cX8_tie 43 = .ok (.invokestatic 82, 3) := by decide +kernel
theorem dX8_tie_46 : decode cX8_tie 46 = .ok (.ifCond .eq 14, 3) := by decide +kernel
theorem dX8_tie_49 : decode cX8_tie 49 = .ok (.aload_n 0, 1) := by decide +kernel
theorem dX8_tie_50 : decode cX8_tie 50 = .ok (.iload 4, 2) := by decide +kernel
theorem dX8_tie_52 : decode cX8_tie 52 = .ok (.iload 5, 2) := by decide +kernel
theorem dX8_tie_54 : decode cX8_tie 54 = .ok (.invokevirtual 86, 3) := by decide +kernel
theorem dX8_tie_57 : decode cX8_tie 57 = .ok (.goto 4, 3) := by decide +kernel
theorem dX8_tie_60 : decode cX8_tie 60 = .ok (.iconst 0, 1) := by decide +kernel
theorem dX8_tie_61 : decode cX8_tie 61 = .ok (.iadd, 1) := by decide +kernel
theorem dX8_tie_62 : decode cX8_tie 62 = .ok (.istore_n 3, 1) := by decide +kernel
theorem dX8_tie_63 : decode cX8_tie 63 = .ok (.iinc 5 1, 3) := by decide +kernel
theorem dX8_tie_66 : decode cX8_tie 66 = .ok (.goto (-47), 3) := by decide +kernel
theorem dX8_tie_69 : decode cX8_tie 69 = .ok (.iinc 4 1, 3) := by decide +kernel
theorem dX8_tie_72 : decode cX8_tie 72 = .ok (.goto (-67), 3) := by decide +kernel
theorem dX8_tie_75 : decode cX8_tie 75 = .ok (.iload_n 3, 1) := by decide +kernel
theorem dX8_tie_76 : decode cX8_tie 76 = .ok (.ireturn, 1) := by decide +kernel
theorem dX8_sideSet_0 : decode cX8_sideSet 0 = .ok (.iconst 0, 1) := by decide +kernel
theorem dX8_sideSet_1 : decode cX8_sideSet 1 = .ok (.istore_n 1, 1) := by decide +kernel
theorem dX8_sideSet_2 : decode cX8_sideSet 2 = .ok (.iconst 0, 1) := by decide +kernel
theorem dX8_sideSet_3 : decode cX8_sideSet 3 = .ok (.istore_n 2, 1) := by decide +kernel
theorem dX8_sideSet_4 : decode cX8_sideSet 4 = .ok (.iload_n 2, 1) := by decide +kernel
theorem dX8_sideSet_5 : decode cX8_sideSet 5 = .ok (.aload_n 0, 1) := by decide +kernel
theorem dX8_sideSet_6 : decode cX8_sideSet 6 = .ok (.getfield 9, 3) := by decide +kernel
theorem dX8_sideSet_9 : decode cX8_sideSet 9 = .ok (.iconst 0, 1) := by decide +kernel
theorem dX8_sideSet_10 : decode cX8_sideSet 10 = .ok (.iaload, 1) := by decide +kernel
theorem dX8_sideSet_11 : decode cX8_sideSet 11 = .ok (.if_icmp .ge 22, 3) := by decide +kernel
theorem dX8_sideSet_14 : decode cX8_sideSet 14 = .ok (.iload_n 1, 1) := by decide +kernel
theorem dX8_sideSet_15 : decode cX8_sideSet 15 = .ok (.aload_n 0, 1) := by decide +kernel
theorem dX8_sideSet_16 : decode cX8_sideSet 16 = .ok (.getfield 9, 3) := by decide +kernel
theorem dX8_sideSet_19 : decode cX8_sideSet 19 = .ok (.iconst 4, 1) := by decide +kernel
theorem dX8_sideSet_20 : decode cX8_sideSet 20 = .ok (.iload_n 2, 1) := by decide +kernel
theorem dX8_sideSet_21 : decode cX8_sideSet 21 = .ok (.iadd, 1) := by decide +kernel
theorem dX8_sideSet_22 : decode cX8_sideSet 22 = .ok (.iaload, 1) := by decide +kernel
theorem dX8_sideSet_23 : decode cX8_sideSet 23 = .ok (.iload_n 2, 1) := by decide +kernel
theorem dX8_sideSet_24 : decode cX8_sideSet 24 = .ok (.ishl, 1) := by decide +kernel
theorem dX8_sideSet_25 : decode cX8_sideSet 25 = .ok (.ior, 1) := by decide +kernel
theorem dX8_sideSet_26 : decode cX8_sideSet 26 = .ok (.istore_n 1, 1) := by decide +kernel
theorem dX8_sideSet_27 : decode cX8_sideSet 27 = .ok (.iinc 2 1, 3) := by decide +kernel
theorem dX8_sideSet_30 : decode cX8_sideSet 30 = .ok (.goto (-26), 3) := by decide +kernel
theorem dX8_sideSet_33 : decode cX8_sideSet 33 = .ok (.iload_n 1, 1) := by decide +kernel
theorem dX8_sideSet_34 : decode cX8_sideSet 34 = .ok (.ireturn, 1) := by decide +kernel
theorem dX8_feudOf_0 : decode cX8_feudOf 0 = .ok (.aload_n 0, 1) := by decide +kernel
theorem dX8_feudOf_1 : decode cX8_feudOf 1 = .ok (.iload_n 1, 1) := by decide +kernel
theorem dX8_feudOf_2 : decode cX8_feudOf 2 = .ok (.aload_n 0, 1) := by decide +kernel
theorem dX8_feudOf_3 : decode cX8_feudOf 3 = .ok (.invokevirtual 90, 3) := by decide +kernel
theorem dX8_feudOf_6 : decode cX8_feudOf 6 = .ok (.iload_n 1, 1) := by decide +kernel
theorem dX8_feudOf_7 : decode cX8_feudOf 7 = .ok (.iconst (-1), 1) := by decide +kernel
theorem dX8_feudOf_8 : decode cX8_feudOf 8 = .ok (.ixor, 1) := by decide +kernel
theorem dX8_feudOf_9 : decode cX8_feudOf 9 = .ok (.iand, 1) := by decide +kernel
theorem dX8_feudOf_10 : decode cX8_feudOf 10 = .ok (.invokevirtual 94, 3) := by decide +kernel
theorem dX8_feudOf_13 : decode cX8_feudOf 13 = .ok (.ireturn, 1) := by decide +kernel
theorem dX8_bondsOf_0 : decode cX8_bondsOf 0 = .ok (.iconst 0, 1) := by decide +kernel
theorem dX8_bondsOf_1 : decode cX8_bondsOf 1 = .ok (.istore_n 2, 1) := by decide +kernel
theorem dX8_bondsOf_2 : decode cX8_bondsOf 2 = .ok (.iconst 0, 1) := by decide +kernel
theorem dX8_bondsOf_3 : decode cX8_bondsOf 3 = .ok (.istore_n 3, 1) := by decide +kernel
theorem dX8_bondsOf_4 : decode cX8_bondsOf 4 = .ok (.iload_n 3, 1) := by decide +kernel
theorem dX8_bondsOf_5 : decode cX8_bondsOf 5 = .ok (.aload_n 0, 1) := by decide +kernel
theorem dX8_bondsOf_6 : decode cX8_bondsOf 6 = .ok (.getfield 9, 3) := by decide +kernel
theorem dX8_bondsOf_9 : decode cX8_bondsOf 9 = .ok (.iconst 0, 1) := by decide +kernel
theorem dX8_bondsOf_10 : decode cX8_bondsOf 10 = .ok (.iaload, 1) := by decide +kernel
theorem dX8_bondsOf_11 : decode cX8_bondsOf 11 = .ok (.if_icmp .ge 26, 3) := by decide +kernel
theorem dX8_bondsOf_14 : decode cX8_bondsOf 14 = .ok (.iload_n 2, 1) := by decide +kernel
theorem dX8_bondsOf_15 : decode cX8_bondsOf 15 = .ok (.aload_n 0, 1) := by decide +kernel
theorem dX8_bondsOf_16 : decode cX8_bondsOf 16 = .ok (.iload_n 1, 1) := by decide +kernel
theorem dX8_bondsOf_17 : decode cX8_bondsOf 17 = .ok (.iload_n 3, 1) := by decide +kernel
theorem dX8_bondsOf_18 : decode cX8_bondsOf 18 = .ok (.invokevirtual 86, 3) := by decide +kernel
theorem dX8_bondsOf_21 : decode cX8_bondsOf 21 = .ok (.ifCond .le 7, 3) := by decide +kernel
theorem dX8_bondsOf_24 : decode cX8_bondsOf 24 = .ok (.iconst 1, 1) := by decide +kernel
theorem dX8_bondsOf_25 : decode cX8_bondsOf 25 = .ok (.goto 4, 3) := by decide +kernel
theorem dX8_bondsOf_28 : decode cX8_bondsOf 28 = .ok (.iconst 0, 1) := by decide +kernel
theorem dX8_bondsOf_29 : decode cX8_bondsOf 29 = .ok (.iadd, 1) := by decide +kernel
theorem dX8_bondsOf_30 : decode cX8_bondsOf 30 = .ok (.istore_n 2, 1) := by decide +kernel
theorem dX8_bondsOf_31 : decode cX8_bondsOf 31 = .ok (.iinc 3 1, 3) := by decide +kernel
theorem dX8_bondsOf_34 : decode cX8_bondsOf 34 = .ok (.goto (-30), 3) := by decide +kernel
theorem dX8_bondsOf_37 : decode cX8_bondsOf 37 = .ok (.iload_n 2, 1) := by decide +kernel
theorem dX8_bondsOf_38 : decode cX8_bondsOf 38 = .ok (.ireturn, 1) := by decide +kernel
theorem dX8_bondMany_0 : decode cX8_bondMany 0 = .ok (.iconst 0, 1) := by decide +kernel
theorem dX8_bondMany_1 : decode cX8_bondMany 1 = .ok (.istore_n 1, 1) := by decide +kernel
theorem dX8_bondMany_2 : decode cX8_bondMany 2 = .ok (.iconst 0, 1) := by decide +kernel
theorem dX8_bondMany_3 : decode cX8_bondMany 3 = .ok (.istore_n 2, 1) := by decide +kernel
theorem dX8_bondMany_4 : decode cX8_bondMany 4 = .ok (.iload_n 2, 1) := by decide +kernel
theorem dX8_bondMany_5 : decode cX8_bondMany 5 = .ok (.aload_n 0, 1) := by decide +kernel
theorem dX8_bondMany_6 : decode cX8_bondMany 6 = .ok (.getfield 9, 3) := by decide +kernel
theorem dX8_bondMany_9 : decode cX8_bondMany 9 = .ok (.iconst 0, 1) := by decide +kernel
theorem dX8_bondMany_10 : decode cX8_bondMany 10 = .ok (.iaload, 1) := by decide +kernel
theorem dX8_bondMany_11 : decode cX8_bondMany 11 = .ok (.if_icmp .ge 17, 3) := by decide +kernel
theorem dX8_bondMany_14 : decode cX8_bondMany 14 = .ok (.iload_n 1, 1) := by decide +kernel
theorem dX8_bondMany_15 : decode cX8_bondMany 15 = .ok (.aload_n 0, 1) := by decide +kernel
theorem dX8_bondMany_16 : decode cX8_bondMany 16 = .ok (.iload_n 2, 1) := by decide +kernel
theorem dX8_bondMany_17 : decode cX8_bondMany 17 = .ok (.invokevirtual 97, 3) := by decide +kernel
theorem dX8_bondMany_20 : decode cX8_bondMany 20 = .ok (.iadd, 1) := by decide +kernel
theorem dX8_bondMany_21 : decode cX8_bondMany 21 = .ok (.istore_n 1, 1) := by decide +kernel
theorem dX8_bondMany_22 : decode cX8_bondMany 22 = .ok (.iinc 2 1, 3) := by decide +kernel
theorem dX8_bondMany_25 : decode cX8_bondMany 25 = .ok (.goto (-21), 3) := by decide +kernel
theorem dX8_bondMany_28 : decode cX8_bondMany 28 = .ok (.iload_n 1, 1) := by decide +kernel
theorem dX8_bondMany_29 : decode cX8_bondMany 29 = .ok (.iconst 2, 1) := by decide +kernel
theorem dX8_bondMany_30 : decode cX8_bondMany 30 = .ok (.idiv, 1) := by decide +kernel
theorem dX8_bondMany_31 : decode cX8_bondMany 31 = .ok (.ireturn, 1) := by decide +kernel
theorem dX8_comes_0 : decode cX8_comes 0 = .ok (.aload_n 0, 1) := by decide +kernel
theorem dX8_comes_1 : decode cX8_comes 1 = .ok (.getfield 9, 3) := by decide +kernel
theorem dX8_comes_4 : decode cX8_comes 4 = .ok (.iconst 0, 1) := by decide +kernel
theorem dX8_comes_5 : decode cX8_comes 5 = .ok (.iaload, 1) := by decide +kernel
theorem dX8_comes_6 : decode cX8_comes 6 = .ok (.istore_n 1, 1) := by decide +kernel
theorem dX8_comes_7 : decode cX8_comes 7 = .ok (.aload_n 0, 1) := by decide +kernel
theorem dX8_comes_8 : decode cX8_comes 8 = .ok (.iload_n 1, 1) := by decide +kernel
theorem dX8_comes_9 : decode cX8_comes 9 = .ok (.bipush 9, 2) := by decide +kernel
theorem dX8_comes_11 : decode cX8_comes 11 = .ok (.if_icmp .ne 7, 3) := by decide +kernel
theorem dX8_comes_14 : decode cX8_comes 14 = .ok (.iconst 1, 1) := by decide +kernel
theorem dX8_comes_15 : decode cX8_comes 15 = .ok (.goto 4, 3) := by decide +kernel
theorem dX8_comes_18 : decode cX8_comes 18 = .ok (.iconst 0, 1) := by decide +kernel
theorem dX8_comes_19 : decode cX8_comes 19 = .ok (.iconst 1, 1) := by decide +kernel
theorem dX8_comes_20 : decode cX8_comes 20 = .ok (.bipush 9, 2) := by decide +kernel
theorem dX8_comes_22 : decode cX8_comes 22 = .ok (.invokevirtual 75, 3) := by decide +kernel
theorem dX8_comes_25 : decode cX8_comes 25 = .ok (.ifCond .eq 5, 3) := by decide +kernel
theorem dX8_comes_28 : decode cX8_comes 28 = .ok (.iconst 0, 1) := by decide +kernel
theorem dX8_comes_29 : decode cX8_comes 29 = .ok (.ireturn, 1) := by decide +kernel
theorem dX8_comes_30 : decode cX8_comes 30 = .ok (.aload_n 0, 1) := by decide +kernel
theorem dX8_comes_31 : decode cX8_comes 31 = .ok (.getfield 9, 3) := by decide +kernel
theorem dX8_comes_34 : decode cX8_comes 34 = .ok (.iconst 0, 1) := by decide +kernel
theorem dX8_comes_35 : decode cX8_comes 35 = .ok (.dup2, 1) := by decide +kernel
theorem dX8_comes_36 : decode cX8_comes 36 = .ok (.iaload, 1) := by decide +kernel
theorem dX8_comes_37 : decode cX8_comes 37 = .ok (.iconst 1, 1) := by decide +kernel
theorem dX8_comes_38 : decode cX8_comes 38 = .ok (.iadd, 1) := by decide +kernel
theorem dX8_comes_39 : decode cX8_comes 39 = .ok (.iastore, 1) := by decide +kernel
theorem dX8_comes_40 : decode cX8_comes 40 = .ok (.aload_n 0, 1) := by decide +kernel
theorem dX8_comes_41 : decode cX8_comes 41 = .ok (.getfield 9, 3) := by decide +kernel
theorem dX8_comes_44 : decode cX8_comes 44 = .ok (.iconst 1, 1) := by decide +kernel
theorem dX8_comes_45 : decode cX8_comes 45 = .ok (.dup2, 1) := by decide +kernel
theorem dX8_comes_46 : decode cX8_comes 46 = .ok (.iaload, 1) := by decide +kernel
theorem dX8_comes_47 : decode cX8_comes 47 = .ok (.iconst 1, 1) := by decide +kernel
theorem dX8_comes_48 : decode cX8_comes 48 = .ok (.iadd, 1) := by decide +kernel
theorem dX8_comes_49 : decode cX8_comes 49 = .ok (.iastore, 1) := by decide +kernel
theorem dX8_comes_50 : decode cX8_comes 50 = .ok (.aload_n 0, 1) := by decide +kernel
theorem dX8_comes_51 : decode cX8_comes 51 = .ok (.getfield 9, 3) := by decide +kernel
theorem dX8_comes_54 : decode cX8_comes 54 = .ok (.iconst 4, 1) := by decide +kernel
theorem dX8_comes_55 : decode cX8_comes 55 = .ok (.iload_n 1, 1) := by decide +kernel
theorem dX8_comes_56 : decode cX8_comes 56 = .ok (.iadd, 1) := by decide +kernel
theorem dX8_comes_57 : decode cX8_comes 57 = .ok (.iconst 0, 1) := by decide +kernel
theorem dX8_comes_58 : decode cX8_comes 58 = .ok (.iastore, 1) := by decide +kernel
theorem dX8_comes_59 : decode cX8_comes 59 = .ok (.iconst 0, 1) := by decide +kernel
theorem dX8_comes_60 : decode cX8_comes 60 = .ok (.istore_n 2, 1) := by decide +kernel
theorem dX8_comes_61 : decode cX8_comes 61 = .ok (.iload_n 2, 1) := by decide +kernel
theorem dX8_comes_62 : decode cX8_comes 62 = .ok (.bipush 9, 2) := by decide +kernel
theorem dX8_comes_64 : decode cX8_comes 64 = .ok (.if_icmp .ge 16, 3) := by decide +kernel
theorem dX8_comes_67 : decode cX8_comes 67 = .ok (.aload_n 0, 1) := by decide +kernel
theorem dX8_comes_68 : decode cX8_comes 68 = .ok (.iload_n 1, 1) := by decide +kernel
theorem dX8_comes_69 : decode cX8_comes 69 = .ok (.iload_n 2, 1) := by decide +kernel
theorem dX8_comes_70 : decode cX8_comes 70 = .ok (.iconst 0, 1) := by decide +kernel
theorem dX8_comes_71 : decode cX8_comes 71 = .ok (.invokevirtual 101, 3) := by decide +kernel
theorem dX8_comes_74 : decode cX8_comes 74 = .ok (.iinc 2 1, 3) := by decide +kernel
theorem dX8_comes_77 : decode cX8_comes 77 = .ok (.goto (-16), 3) := by decide +kernel
theorem dX8_comes_80 : decode cX8_comes 80 = .ok (.aload_n 0, 1) := by decide +kernel
theorem dX8_comes_81 : decode cX8_comes 81 = .ok (.iload_n 1, 1) := by decide +kernel
theorem dX8_comes_82 : decode cX8_comes 82 = .ok (.putfield 52, 3) := by decide +kernel
theorem dX8_comes_85 : decode cX8_comes 85 = .ok (.iconst 1, 1) := by decide +kernel
theorem dX8_comes_86 : decode cX8_comes 86 = .ok (.ireturn, 1) := by decide +kernel
theorem dX8_household_0 : decode cX8_household 0 = .ok (.aload_n 0, 1) := by decide +kernel
theorem dX8_household_1 : decode cX8_household 1 = .ok (.invokevirtual 105, 3) := by decide +kernel
theorem dX8_household_4 : decode cX8_household 4 = .ok (.aload_n 0, 1) := by decide +kernel
theorem dX8_household_5 : decode cX8_household 5 = .ok (.aload_n 0, 1) := by decide +kernel
theorem dX8_household_6 : decode cX8_household 6 = .ok (.invokevirtual 108, 3) := by decide +kernel
theorem dX8_household_9 : decode cX8_household 9 = .ok (.iconst 1, 1) := by decide +kernel
theorem dX8_household_10 : decode cX8_household 10 = .ok (.invokevirtual 112, 3) := by decide +kernel
theorem dX8_household_13 : decode cX8_household 13 = .ok (.ireturn, 1) := by decide +kernel
theorem dX8_goes_0 : decode cX8_goes 0 = .ok (.aload_n 0, 1) := by decide +kernel
theorem dX8_goes_1 : decode cX8_goes 1 = .ok (.getfield 9, 3) := by decide +kernel
theorem dX8_goes_4 : decode cX8_goes 4 = .ok (.iconst 0, 1) := by decide +kernel
theorem dX8_goes_5 : decode cX8_goes 5 = .ok (.iaload, 1) := by decide +kernel
theorem dX8_goes_6 : decode cX8_goes 6 = .ok (.iconst 1, 1) := by decide +kernel
theorem dX8_goes_7 : decode cX8_goes 7 = .ok (.isub, 1) := by decide +kernel
theorem dX8_goes_8 : decode cX8_goes 8 = .ok (.istore_n 2, 1) := by decide +kernel
theorem dX8_goes_9 : decode cX8_goes 9 = .ok (.iload_n 1, 1) := by decide +kernel
theorem dX8_goes_10 : decode cX8_goes 10 = .ok (.istore_n 3, 1) := by decide +kernel
theorem dX8_goes_11 : decode cX8_goes 11 = .ok (.iload_n 3, 1) := by decide +kernel
theorem dX8_goes_12 : decode cX8_goes 12 = .ok (.iload_n 2, 1) := by decide +kernel
theorem dX8_goes_13 : decode cX8_goes 13 = .ok (.if_icmp .ge 67, 3) := by decide +kernel
theorem dX8_goes_16 : decode cX8_goes 16 = .ok (.aload_n 0, 1) := by decide +kernel
theorem dX8_goes_17 : decode cX8_goes 17 = .ok (.getfield 9, 3) := by decide +kernel
theorem dX8_goes_20 : decode cX8_goes 20 = .ok (.iconst 4, 1) := by decide +kernel
theorem dX8_goes_21 : decode cX8_goes 21 = .ok (.iload_n 3, 1) := by decide +kernel
theorem dX8_goes_22 : decode cX8_goes 22 = .ok (.iadd, 1) := by decide +kernel
theorem dX8_goes_23 : decode cX8_goes 23 = .ok (.aload_n 0, 1) := by decide +kernel
theorem dX8_goes_24 : decode cX8_goes 24 = .ok (.getfield 9, 3) := by decide +kernel
theorem dX8_goes_27 : decode cX8_goes 27 = .ok (.iconst 4, 1) := by decide +kernel
theorem dX8_goes_28 : decode cX8_goes 28 = .ok (.iload_n 3, 1) := by decide +kernel
theorem dX8_goes_29 : decode cX8_goes 29 = .ok (.iadd, 1) := by decide +kernel
theorem dX8_goes_30 : decode cX8_goes 30 = .ok (.iconst 1, 1) := by decide +kernel
theorem dX8_goes_31 : decode cX8_goes 31 = .ok (.iadd, 1) := by decide +kernel
theorem dX8_goes_32 : decode cX8_goes 32 = .ok (.iaload, 1) := by decide +kernel
theorem dX8_goes_33 : decode cX8_goes 33 = .ok (.iastore, 1) := by decide +kernel
theorem dX8_goes_34 : decode cX8_goes 34 = .ok (.iconst 0, 1) := by decide +kernel
theorem dX8_goes_35 : decode cX8_goes 35 = .ok (.istore 4, 2) := by decide +kernel
theorem dX8_goes_37 : decode cX8_goes 37 = .ok (.iload 4, 2) := by decide +kernel
theorem dX8_goes_39 : decode cX8_goes 39 = .ok (.bipush 9, 2) := by decide +kernel
theorem dX8_goes_41 : decode cX8_goes 41 = .ok (.if_icmp .ge 33, 3) := by decide +kernel
theorem dX8_goes_44 : decode cX8_goes 44 = .ok (.aload_n 0, 1) := by decide +kernel
theorem dX8_goes_45 : decode cX8_goes 45 = .ok (.getfield 9, 3) := by decide +kernel
theorem dX8_goes_48 : decode cX8_goes 48 = .ok (.bipush 13, 2) := by decide +kernel
theorem dX8_goes_50 : decode cX8_goes 50 = .ok (.bipush 9, 2) := by decide +kernel
theorem dX8_goes_52 : decode cX8_goes 52 = .ok (.iload_n 3, 1) := by decide +kernel
theorem dX8_goes_53 : decode cX8_goes 53 = .ok (.imul, 1) := by decide +kernel
theorem dX8_goes_54 : decode cX8_goes 54 = .ok (.iadd, 1) := by decide +kernel
theorem dX8_goes_55 : decode cX8_goes 55 = .ok (.iload 4, 2) := by decide +kernel
theorem dX8_goes_57 : decode cX8_goes 57 = .ok (.iadd, 1) := by decide +kernel
theorem dX8_goes_58 : decode cX8_goes 58 = .ok (.aload_n 0, 1) := by decide +kernel
theorem dX8_goes_59 : decode cX8_goes 59 = .ok (.iload_n 3, 1) := by decide +kernel
theorem dX8_goes_60 : decode cX8_goes 60 = .ok (.iconst 1, 1) := by decide +kernel
theorem dX8_goes_61 : decode cX8_goes 61 = .ok (.iadd, 1) := by decide +kernel
theorem dX8_goes_62 : decode cX8_goes 62 = .ok (.iload 4, 2) := by decide +kernel
theorem dX8_goes_64 : decode cX8_goes 64 = .ok (.invokevirtual 86, 3) := by decide +kernel
theorem dX8_goes_67 : decode cX8_goes 67 = .ok (.iastore, 1) := by decide +kernel
theorem dX8_goes_68 : decode cX8_goes 68 = .ok (.iinc 4 1, 3) := by decide +kernel
theorem dX8_goes_71 : decode cX8_goes 71 = .ok (.goto (-34), 3) := by decide +kernel
theorem dX8_goes_74 : decode cX8_goes 74 = .ok (.iinc 3 1, 3) := by decide +kernel
theorem dX8_goes_77 : decode cX8_goes 77 = .ok (.goto (-66), 3) := by decide +kernel
theorem dX8_goes_80 : decode cX8_goes 80 = .ok (.iconst 0, 1) := by decide +kernel
theorem dX8_goes_81 : decode cX8_goes 81 = .ok (.istore_n 3, 1) := by decide +kernel
theorem dX8_goes_82 : decode cX8_goes 82 = .ok (.iload_n 3, 1) := by decide +kernel
theorem dX8_goes_83 : decode cX8_goes 83 = .ok (.bipush 9, 2) := by decide +kernel
theorem dX8_goes_85 : decode cX8_goes 85 = .ok (.if_icmp .ge 24, 3) := by decide +kernel
theorem dX8_goes_88 : decode cX8_goes 88 = .ok (.aload_n 0, 1) := by decide +kernel
theorem dX8_goes_89 : decode cX8_goes 89 = .ok (.getfield 9, 3) := by decide +kernel
theorem dX8_goes_92 : decode cX8_goes 92 = .ok (.bipush 13, 2) := by decide +kernel
theorem dX8_goes_94 : decode cX8_goes 94 = .ok (.bipush 9, 2) := by decide +kernel
theorem dX8_goes_96 : decode cX8_goes 96 = .ok (.iload_n 2, 1) := by decide +kernel
theorem dX8_goes_97 : decode cX8_goes 97 = .ok (.imul, 1) := by decide +kernel
theorem dX8_goes_98 : decode cX8_goes 98 = .ok (.iadd, 1) := by decide +kernel
theorem dX8_goes_99 : decode cX8_goes 99 = .ok (.iload_n 3, 1) := by decide +kernel
theorem dX8_goes_100 : decode cX8_goes 100 = .ok (.iadd, 1) := by decide +kernel
theorem dX8_goes_101 : decode cX8_goes 101 = .ok (.iconst 0, 1) := by decide +kernel
theorem dX8_goes_102 : decode cX8_goes 102 = .ok (.iastore, 1) := by decide +kernel
theorem dX8_goes_103 : decode cX8_goes 103 = .ok (.iinc 3 1, 3) := by decide +kernel
theorem dX8_goes_106 : decode cX8_goes 106 = .ok (.goto (-24), 3) := by decide +kernel
theorem dX8_goes_109 : decode cX8_goes 109 = .ok (.iconst 0, 1) := by decide +kernel
theorem dX8_goes_110 : decode cX8_goes 110 = .ok (.istore_n 3, 1) := by decide +kernel
theorem dX8_goes_111 : decode cX8_goes 111 = .ok (.iload_n 3, 1) := by decide +kernel
theorem dX8_goes_112 : decode cX8_goes 112 = .ok (.bipush 9, 2) := by decide +kernel
theorem dX8_goes_114 : decode cX8_goes 114 = .ok (.if_icmp .ge 63, 3) := by decide +kernel
theorem dX8_goes_117 : decode cX8_goes 117 = .ok (.iload_n 1, 1) := by decide +kernel
theorem dX8_goes_118 : decode cX8_goes 118 = .ok (.istore 4, 2) := by decide +kernel
theorem dX8_goes_120 : decode cX8_goes 120 = .ok (.iload 4, 2) := by decide +kernel
theorem dX8_goes_122 : decode cX8_goes 122 = .ok (.iload_n 2, 1) := by decide +kernel
theorem dX8_goes_123 : decode cX8_goes 123 = .ok (.if_icmp .ge 33, 3) := by decide +kernel
theorem dX8_goes_126 : decode cX8_goes 126 = .ok (.aload_n 0, 1) := by decide +kernel
theorem dX8_goes_127 : decode cX8_goes 127 = .ok (.getfield 9, 3) := by decide +kernel
theorem dX8_goes_130 : decode cX8_goes 130 = .ok (.bipush 13, 2) := by decide +kernel
theorem dX8_goes_132 : decode cX8_goes 132 = .ok (.bipush 9, 2) := by decide +kernel
theorem dX8_goes_134 : decode cX8_goes 134 = .ok (.iload_n 3, 1) := by decide +kernel
theorem dX8_goes_135 : decode cX8_goes 135 = .ok (.imul, 1) := by decide +kernel
theorem dX8_goes_136 : decode cX8_goes 136 = .ok (.iadd, 1) := by decide +kernel
theorem dX8_goes_137 : decode cX8_goes 137 = .ok (.iload 4, 2) := by decide +kernel
theorem dX8_goes_139 : decode cX8_goes 139 = .ok (.iadd, 1) := by decide +kernel
theorem dX8_goes_140 : decode cX8_goes 140 = .ok (.aload_n 0, 1) := by decide +kernel
theorem dX8_goes_141 : decode cX8_goes 141 = .ok (.iload_n 3, 1) := by decide +kernel
theorem dX8_goes_142 : decode cX8_goes 142 = .ok (.iload 4, 2) := by decide +kernel
theorem dX8_goes_144 : decode cX8_goes 144 = .ok (.iconst 1, 1) := by decide +kernel
theorem dX8_goes_145 : decode cX8_goes 145 = .ok (.iadd, 1) := by decide +kernel
theorem dX8_goes_146 : decode cX8_goes 146 = .ok (.invokevirtual 86, 3) := by decide +kernel
theorem dX8_goes_149 : decode cX8_goes 149 = .ok (.iastore, 1) := by decide +kernel
theorem dX8_goes_150 : decode cX8_goes 150 = .ok (.iinc 4 1, 3) := by decide +kernel
theorem dX8_goes_153 : decode cX8_goes 153 = .ok (.goto (-33), 3) := by decide +kernel
theorem dX8_goes_156 : decode cX8_goes 156 = .ok (.aload_n 0, 1) := by decide +kernel
theorem dX8_goes_157 : decode cX8_goes 157 = .ok (.getfield 9, 3) := by decide +kernel
theorem dX8_goes_160 : decode cX8_goes 160 = .ok (.bipush 13, 2) := by decide +kernel
theorem dX8_goes_162 : decode cX8_goes 162 = .ok (.bipush 9, 2) := by decide +kernel
theorem dX8_goes_164 : decode cX8_goes 164 = .ok (.iload_n 3, 1) := by decide +kernel
theorem dX8_goes_165 : decode cX8_goes 165 = .ok (.imul, 1) := by decide +kernel
theorem dX8_goes_166 : decode cX8_goes 166 = .ok (.iadd, 1) := by decide +kernel
theorem dX8_goes_167 : decode cX8_goes 167 = .ok (.iload_n 2, 1) := by decide +kernel
theorem dX8_goes_168 : decode cX8_goes 168 = .ok (.iadd, 1) := by decide +kernel
theorem dX8_goes_169 : decode cX8_goes 169 = .ok (.iconst 0, 1) := by decide +kernel
theorem dX8_goes_170 : decode cX8_goes 170 = .ok (.iastore, 1) := by decide +kernel
theorem dX8_goes_171 : decode cX8_goes 171 = .ok (.iinc 3 1, 3) := by decide +kernel
theorem dX8_goes_174 : decode cX8_goes 174 = .ok (.goto (-63), 3) := by decide +kernel
theorem dX8_goes_177 : decode cX8_goes 177 = .ok (.aload_n 0, 1) := by decide +kernel
theorem dX8_goes_178 : decode cX8_goes 178 = .ok (.getfield 9, 3) := by decide +kernel
theorem dX8_goes_181 : decode cX8_goes 181 = .ok (.iconst 4, 1) := by decide +kernel
theorem dX8_goes_182 : decode cX8_goes 182 = .ok (.iload_n 2, 1) := by decide +kernel
theorem dX8_goes_183 : decode cX8_goes 183 = .ok (.iadd, 1) := by decide +kernel
theorem dX8_goes_184 : decode cX8_goes 184 = .ok (.iconst 0, 1) := by decide +kernel
theorem dX8_goes_185 : decode cX8_goes 185 = .ok (.iastore, 1) := by decide +kernel
theorem dX8_goes_186 : decode cX8_goes 186 = .ok (.aload_n 0, 1) := by decide +kernel
theorem dX8_goes_187 : decode cX8_goes 187 = .ok (.getfield 9, 3) := by decide +kernel
theorem dX8_goes_190 : decode cX8_goes 190 = .ok (.iconst 0, 1) := by decide +kernel
theorem dX8_goes_191 : decode cX8_goes 191 = .ok (.dup2, 1) := by decide +kernel
theorem dX8_goes_192 : decode cX8_goes 192 = .ok (.iaload, 1) := by decide +kernel
theorem dX8_goes_193 : decode cX8_goes 193 = .ok (.iconst 1, 1) := by decide +kernel
theorem dX8_goes_194 : decode cX8_goes 194 = .ok (.isub, 1) := by decide +kernel
theorem dX8_goes_195 : decode cX8_goes 195 = .ok (.iastore, 1) := by decide +kernel
theorem dX8_goes_196 : decode cX8_goes 196 = .ok (.aload_n 0, 1) := by decide +kernel
theorem dX8_goes_197 : decode cX8_goes 197 = .ok (.getfield 9, 3) := by decide +kernel
theorem dX8_goes_200 : decode cX8_goes 200 = .ok (.iconst 2, 1) := by decide +kernel
theorem dX8_goes_201 : decode cX8_goes 201 = .ok (.dup2, 1) := by decide +kernel
theorem dX8_goes_202 : decode cX8_goes 202 = .ok (.iaload, 1) := by decide +kernel
theorem dX8_goes_203 : decode cX8_goes 203 = .ok (.iconst 1, 1) := by decide +kernel
theorem dX8_goes_204 : decode cX8_goes 204 = .ok (.iadd, 1) := by decide +kernel
theorem dX8_goes_205 : decode cX8_goes 205 = .ok (.iastore, 1) := by decide +kernel
theorem dX8_goes_206 : decode cX8_goes 206 = .ok (.return_, 1) := by decide +kernel
theorem dX8_leaves_0 : decode cX8_leaves 0 = .ok (.aload_n 0, 1) := by decide +kernel
theorem dX8_leaves_1 : decode cX8_leaves 1 = .ok (.iload_n 1, 1) := by decide +kernel
theorem dX8_leaves_2 : decode cX8_leaves 2 = .ok (.invokevirtual 79, 3) := by decide +kernel
theorem dX8_leaves_5 : decode cX8_leaves 5 = .ok (.ifCond .eq 5, 3) := by decide +kernel
theorem dX8_leaves_8 : decode cX8_leaves 8 = .ok (.iconst 0, 1) := by decide +kernel
theorem dX8_leaves_9 : decode cX8_leaves 9 = .ok (.ireturn, 1) := by decide +kernel
theorem dX8_leaves_10 : decode cX8_leaves 10 = .ok (.aload_n 0, 1) := by decide +kernel
theorem dX8_leaves_11 : decode cX8_leaves 11 = .ok (.iload_n 1, 1) := by decide +kernel
theorem dX8_leaves_12 : decode cX8_leaves 12 = .ok (.invokevirtual 116, 3) := by decide +kernel
theorem dX8_leaves_15 : decode cX8_leaves 15 = .ok (.aload_n 0, 1) := by decide +kernel
theorem dX8_leaves_16 : decode cX8_leaves 16 = .ok (.aload_n 0, 1) := by decide +kernel
theorem dX8_leaves_17 : decode cX8_leaves 17 = .ok (.getfield 9, 3) := by decide +kernel
theorem dX8_leaves_20 : decode cX8_leaves 20 = .ok (.iconst 0, 1) := by decide +kernel
theorem dX8_leaves_21 : decode cX8_leaves 21 = .ok (.iaload, 1) := by decide +kernel
theorem dX8_leaves_22 : decode cX8_leaves 22 = .ok (.putfield 52, 3) := by decide +kernel
theorem dX8_leaves_25 : decode cX8_leaves 25 = .ok (.iconst 1, 1) := by decide +kernel
theorem dX8_leaves_26 : decode cX8_leaves 26 = .ok (.ireturn, 1) := by decide +kernel
theorem dX8_leave_0 : decode cX8_leave 0 = .ok (.aload_n 0, 1) := by decide +kernel
theorem dX8_leave_1 : decode cX8_leave 1 = .ok (.invokevirtual 105, 3) := by decide +kernel
theorem dX8_leave_4 : decode cX8_leave 4 = .ok (.aload_n 0, 1) := by decide +kernel
theorem dX8_leave_5 : decode cX8_leave 5 = .ok (.aload_n 0, 1) := by decide +kernel
theorem dX8_leave_6 : decode cX8_leave 6 = .ok (.iload_n 1, 1) := by decide +kernel
theorem dX8_leave_7 : decode cX8_leave 7 = .ok (.invokevirtual 120, 3) := by decide +kernel
theorem dX8_leave_10 : decode cX8_leave 10 = .ok (.iconst 1, 1) := by decide +kernel
theorem dX8_leave_11 : decode cX8_leave 11 = .ok (.invokevirtual 112, 3) := by decide +kernel
theorem dX8_leave_14 : decode cX8_leave 14 = .ok (.ireturn, 1) := by decide +kernel
theorem dX8_bonds_0 : decode cX8_bonds 0 = .ok (.aload_n 0, 1) := by decide +kernel
theorem dX8_bonds_1 : decode cX8_bonds 1 = .ok (.iload_n 1, 1) := by decide +kernel
theorem dX8_bonds_2 : decode cX8_bonds 2 = .ok (.iload_n 2, 1) := by decide +kernel
theorem dX8_bonds_3 : decode cX8_bonds 3 = .ok (.invokevirtual 123, 3) := by decide +kernel
theorem dX8_bonds_6 : decode cX8_bonds 6 = .ok (.ifCond .ne 51, 3) := by decide +kernel
theorem dX8_bonds_9 : decode cX8_bonds 9 = .ok (.aload_n 0, 1) := by decide +kernel
theorem dX8_bonds_10 : decode cX8_bonds 10 = .ok (.iload_n 3, 1) := by decide +kernel
theorem dX8_bonds_11 : decode cX8_bonds 11 = .ok (.iconst 1, 1) := by decide +kernel
theorem dX8_bonds_12 : decode cX8_bonds 12 = .ok (.bipush 99, 2) := by decide +kernel
theorem dX8_bonds_14 : decode cX8_bonds 14 = .ok (.invokestatic 64, 3) := by decide +kernel
theorem dX8_bonds_17 : decode cX8_bonds 17 = .ok (.ifCond .ne 7, 3) := by decide +kernel
theorem dX8_bonds_20 : decode cX8_bonds 20 = .ok (.iconst 1, 1) := by decide +kernel
theorem dX8_bonds_21 : decode cX8_bonds 21 = .ok (.goto 4, 3) := by decide +kernel
theorem dX8_bonds_24 : decode cX8_bonds 24 = .ok (.iconst 0, 1) := by decide +kernel
theorem dX8_bonds_25 : decode cX8_bonds 25 = .ok (.iconst 4, 1) := by decide +kernel
theorem dX8_bonds_26 : decode cX8_bonds 26 = .ok (.iload_n 3, 1) := by decide +kernel
theorem dX8_bonds_27 : decode cX8_bonds 27 = .ok (.invokevirtual 75, 3) := by decide +kernel
theorem dX8_bonds_30 : decode cX8_bonds 30 = .ok (.ifCond .ne 27, 3) := by decide +kernel
theorem dX8_bonds_33 : decode cX8_bonds 33 = .ok (.aload_n 0, 1) := by decide +kernel
theorem dX8_bonds_34 : decode cX8_bonds 34 = .ok (.aload_n 0, 1) := by decide +kernel
theorem dX8_bonds_35 : decode cX8_bonds 35 = .ok (.iload_n 1, 1) := by decide +kernel
theorem dX8_bonds_36 : decode cX8_bonds 36 = .ok (.iload_n 2, 1) := by decide +kernel
theorem dX8_bonds_37 : decode cX8_bonds 37 = .ok (.invokevirtual 86, 3) := by decide +kernel
theorem dX8_bonds_40 : decode cX8_bonds 40 = .ok (.iload_n 3, 1) := by decide +kernel
theorem dX8_bonds_41 : decode cX8_bonds 41 = .ok (.if_icmp .ne 7, 3) := by decide +kernel
theorem dX8_bonds_44 : decode cX8_bonds 44 = .ok (.iconst 1, 1) := by decide +kernel
theorem dX8_bonds_45 : decode cX8_bonds 45 = .ok (.goto 4, 3) := by decide +kernel
theorem dX8_bonds_48 : decode cX8_bonds 48 = .ok (.iconst 0, 1) := by decide +kernel
theorem dX8_bonds_49 : decode cX8_bonds 49 = .ok (.iconst 5, 1) := by decide +kernel
theorem dX8_bonds_50 : decode cX8_bonds 50 = .ok (.iload_n 3, 1) := by decide +kernel
theorem dX8_bonds_51 : decode cX8_bonds 51 = .ok (.invokevirtual 75, 3) := by decide +kernel
theorem dX8_bonds_54 : decode cX8_bonds 54 = .ok (.ifCond .eq 5, 3) := by decide +kernel
theorem dX8_bonds_57 : decode cX8_bonds 57 = .ok (.iconst 0, 1) := by decide +kernel
theorem dX8_bonds_58 : decode cX8_bonds 58 = .ok (.ireturn, 1) := by decide +kernel
theorem dX8_bonds_59 : decode cX8_bonds 59 = .ok (.aload_n 0, 1) := by decide +kernel
theorem dX8_bonds_60 : decode cX8_bonds 60 = .ok (.aload_n 0, 1) := by decide +kernel
theorem dX8_bonds_61 : decode cX8_bonds 61 = .ok (.iload_n 1, 1) := by decide +kernel
theorem dX8_bonds_62 : decode cX8_bonds 62 = .ok (.iload_n 2, 1) := by decide +kernel
theorem dX8_bonds_63 : decode cX8_bonds 63 = .ok (.invokevirtual 86, 3) := by decide +kernel
theorem dX8_bonds_66 : decode cX8_bonds 66 = .ok (.putfield 52, 3) := by decide +kernel
theorem dX8_bonds_69 : decode cX8_bonds 69 = .ok (.aload_n 0, 1) := by decide +kernel
theorem dX8_bonds_70 : decode cX8_bonds 70 = .ok (.iload_n 1, 1) := by decide +kernel
theorem dX8_bonds_71 : decode cX8_bonds 71 = .ok (.iload_n 2, 1) := by decide +kernel
theorem dX8_bonds_72 : decode cX8_bonds 72 = .ok (.iload_n 3, 1) := by decide +kernel
theorem dX8_bonds_73 : decode cX8_bonds 73 = .ok (.invokevirtual 101, 3) := by decide +kernel
theorem dX8_bonds_76 : decode cX8_bonds 76 = .ok (.iconst 1, 1) := by decide +kernel
theorem dX8_bonds_77 : decode cX8_bonds 77 = .ok (.ireturn, 1) := by decide +kernel
theorem dX8_bond_0 : decode cX8_bond 0 = .ok (.aload_n 0, 1) := by decide +kernel
theorem dX8_bond_1 : decode cX8_bond 1 = .ok (.invokevirtual 105, 3) := by decide +kernel
theorem dX8_bond_4 : decode cX8_bond 4 = .ok (.aload_n 0, 1) := by decide +kernel
theorem dX8_bond_5 : decode cX8_bond 5 = .ok (.aload_n 0, 1) := by decide +kernel
theorem dX8_bond_6 : decode cX8_bond 6 = .ok (.iload_n 1, 1) := by decide +kernel
theorem dX8_bond_7 : decode cX8_bond 7 = .ok (.iload_n 2, 1) := by decide +kernel
theorem dX8_bond_8 : decode cX8_bond 8 = .ok (.iload_n 3, 1) := by decide +kernel
theorem dX8_bond_9 : decode cX8_bond 9 = .ok (.invokevirtual 126, 3) := by decide +kernel
theorem dX8_bond_12 : decode cX8_bond 12 = .ok (.iconst 1, 1) := by decide +kernel
theorem dX8_bond_13 : decode cX8_bond 13 = .ok (.invokevirtual 112, 3) := by decide +kernel
theorem dX8_bond_16 : decode cX8_bond 16 = .ok (.ireturn, 1) := by decide +kernel
theorem dX8_loosens_0 : decode cX8_loosens 0 = .ok (.aload_n 0, 1) := by decide +kernel
theorem dX8_loosens_1 : decode cX8_loosens 1 = .ok (.iload_n 1, 1) := by decide +kernel
theorem dX8_loosens_2 : decode cX8_loosens 2 = .ok (.iload_n 2, 1) := by decide +kernel
theorem dX8_loosens_3 : decode cX8_loosens 3 = .ok (.invokevirtual 123, 3) := by decide +kernel
theorem dX8_loosens_6 : decode cX8_loosens 6 = .ok (.ifCond .ne 30, 3) := by decide +kernel
theorem dX8_loosens_9 : decode cX8_loosens 9 = .ok (.aload_n 0, 1) := by decide +kernel
theorem dX8_loosens_10 : decode cX8_loosens 10 = .ok (.aload_n 0, 1) := by decide +kernel
theorem dX8_loosens_11 : decode cX8_loosens 11 = .ok (.iload_n 1, 1) := by decide +kernel
theorem dX8_loosens_12 : decode cX8_loosens 12 = .ok (.iload_n 2, 1) := by decide +kernel
theorem dX8_loosens_13 : decode cX8_loosens 13 = .ok (.invokevirtual 86, 3) := by decide +kernel
theorem dX8_loosens_16 : decode cX8_loosens 16 = .ok (.ifCond .ne 7, 3) := by decide +kernel
theorem dX8_loosens_19 : decode cX8_loosens 19 = .ok (.iconst 1, 1) := by decide +kernel
theorem dX8_loosens_20 : decode cX8_loosens 20 = .ok (.goto 4, 3) := by decide +kernel
theorem dX8_loosens_23 : decode cX8_loosens 23 = .ok (.iconst 0, 1) := by decide +kernel
theorem dX8_loosens_24 : decode cX8_loosens 24 = .ok (.bipush 6, 2) := by decide +kernel
theorem dX8_loosens_26 : decode cX8_loosens 26 = .ok (.aload_n 0, 1) := by decide +kernel
theorem dX8_loosens_27 : decode cX8_loosens 27 = .ok (.invokevirtual 129, 3) := by decide +kernel
theorem dX8_loosens_30 : decode cX8_loosens 30 = .ok (.invokevirtual 75, 3) := by decide +kernel
theorem dX8_loosens_33 : decode cX8_loosens 33 = .ok (.ifCond .eq 5, 3) := by decide +kernel
theorem dX8_loosens_36 : decode cX8_loosens 36 = .ok (.iconst 0, 1) := by decide +kernel
theorem dX8_loosens_37 : decode cX8_loosens 37 = .ok (.ireturn, 1) := by decide +kernel
theorem dX8_loosens_38 : decode cX8_loosens 38 = .ok (.aload_n 0, 1) := by decide +kernel
theorem dX8_loosens_39 : decode cX8_loosens 39 = .ok (.aload_n 0, 1) := by decide +kernel
theorem dX8_loosens_40 : decode cX8_loosens 40 = .ok (.iload_n 1, 1) := by decide +kernel
theorem dX8_loosens_41 : decode cX8_loosens 41 = .ok (.iload_n 2, 1) := by decide +kernel
theorem dX8_loosens_42 : decode cX8_loosens 42 = .ok (.invokevirtual 86, 3) := by decide +kernel
theorem dX8_loosens_45 : decode cX8_loosens 45 = .ok (.putfield 52, 3) := by decide +kernel
theorem dX8_loosens_48 : decode cX8_loosens 48 = .ok (.aload_n 0, 1) := by decide +kernel
theorem dX8_loosens_49 : decode cX8_loosens 49 = .ok (.iload_n 1, 1) := by decide +kernel
theorem dX8_loosens_50 : decode cX8_loosens 50 = .ok (.iload_n 2, 1) := by decide +kernel
theorem dX8_loosens_51 : decode cX8_loosens 51 = .ok (.iconst 0, 1) := by decide +kernel
theorem dX8_loosens_52 : decode cX8_loosens 52 = .ok (.invokevirtual 101, 3) := by decide +kernel
theorem dX8_loosens_55 : decode cX8_loosens 55 = .ok (.iconst 1, 1) := by decide +kernel
theorem dX8_loosens_56 : decode cX8_loosens 56 = .ok (.ireturn, 1) := by decide +kernel
theorem dX8_loosen_0 : decode cX8_loosen 0 = .ok (.aload_n 0, 1) := by decide +kernel
theorem dX8_loosen_1 : decode cX8_loosen 1 = .ok (.invokevirtual 105, 3) := by decide +kernel
theorem dX8_loosen_4 : decode cX8_loosen 4 = .ok (.aload_n 0, 1) := by decide +kernel
theorem dX8_loosen_5 : decode cX8_loosen 5 = .ok (.aload_n 0, 1) := by decide +kernel
theorem dX8_loosen_6 : decode cX8_loosen 6 = .ok (.iload_n 1, 1) := by decide +kernel
theorem dX8_loosen_7 : decode cX8_loosen 7 = .ok (.iload_n 2, 1) := by decide +kernel
theorem dX8_loosen_8 : decode cX8_loosen 8 = .ok (.invokevirtual 132, 3) := by decide +kernel
theorem dX8_loosen_11 : decode cX8_loosen 11 = .ok (.iconst 1, 1) := by decide +kernel
theorem dX8_loosen_12 : decode cX8_loosen 12 = .ok (.invokevirtual 112, 3) := by decide +kernel
theorem dX8_loosen_15 : decode cX8_loosen 15 = .ok (.ireturn, 1) := by decide +kernel
theorem dX8_marries_0 : decode cX8_marries 0 = .ok (.aload_n 0, 1) := by decide +kernel
theorem dX8_marries_1 : decode cX8_marries 1 = .ok (.iload_n 1, 1) := by decide +kernel
theorem dX8_marries_2 : decode cX8_marries 2 = .ok (.iload_n 2, 1) := by decide +kernel
theorem dX8_marries_3 : decode cX8_marries 3 = .ok (.invokevirtual 123, 3) := by decide +kernel
theorem dX8_marries_6 : decode cX8_marries 6 = .ok (.ifCond .eq 5, 3) := by decide +kernel
theorem dX8_marries_9 : decode cX8_marries 9 = .ok (.iconst 0, 1) := by decide +kernel
theorem dX8_marries_10 : decode cX8_marries 10 = .ok (.ireturn, 1) := by decide +kernel
theorem dX8_marries_11 : decode cX8_marries 11 = .ok (.iconst 0, 1) := by decide +kernel
theorem dX8_marries_12 : decode cX8_marries 12 = .ok (.istore_n 3, 1) := by decide +kernel
theorem dX8_marries_13 : decode cX8_marries 13 = .ok (.iload_n 3, 1) := by decide +kernel
theorem dX8_marries_14 : decode cX8_marries 14 = .ok (.aload_n 0, 1) := by decide +kernel
theorem dX8_marries_15 : decode cX8_marries 15 = .ok (.getfield 9, 3) := by decide +kernel
theorem dX8_marries_18 : decode cX8_marries 18 = .ok (.iconst 0, 1) := by decide +kernel
theorem dX8_marries_19 : decode cX8_marries 19 = .ok (.iaload, 1) := by decide +kernel
theorem dX8_marries_20 : decode cX8_marries 20 = .ok (.if_icmp .ge 38, 3) := by decide +kernel
theorem dX8_marries_23 : decode cX8_marries 23 = .ok (.iload_n 3, 1) := by decide +kernel
theorem dX8_marries_24 : decode cX8_marries 24 = .ok (.iload_n 1, 1) := by decide +kernel
theorem dX8_marries_25 : decode cX8_marries 25 = .ok (.if_icmp .eq 27, 3) := by decide +kernel
theorem dX8_marries_28 : decode cX8_marries 28 = .ok (.iload_n 3, 1) := by decide +kernel
theorem dX8_marries_29 : decode cX8_marries 29 = .ok (.iload_n 2, 1) := by decide +kernel
theorem dX8_marries_30 : decode cX8_marries 30 = .ok (.if_icmp .eq 22, 3) := by decide +kernel
theorem dX8_marries_33 : decode cX8_marries 33 = .ok (.aload_n 0, 1) := by decide +kernel
theorem dX8_marries_34 : decode cX8_marries 34 = .ok (.iload_n 1, 1) := by decide +kernel
theorem dX8_marries_35 : decode cX8_marries 35 = .ok (.iload_n 3, 1) := by decide +kernel
theorem dX8_marries_36 : decode cX8_marries 36 = .ok (.aload_n 0, 1) := by decide +kernel
theorem dX8_marries_37 : decode cX8_marries 37 = .ok (.iload_n 1, 1) := by decide +kernel
theorem dX8_marries_38 : decode cX8_marries 38 = .ok (.iload_n 3, 1) := by decide +kernel
theorem dX8_marries_39 : decode cX8_marries 39 = .ok (.invokevirtual 86, 3) := by decide +kernel
theorem dX8_marries_42 : decode cX8_marries 42 = .ok (.aload_n 0, 1) := by decide +kernel
theorem dX8_marries_43 : decode cX8_marries 43 = .ok (.iload_n 2, 1) := by decide +kernel
theorem dX8_marries_44 : decode cX8_marries 44 = .ok (.iload_n 3, 1) := by decide +kernel
theorem dX8_marries_45 : decode cX8_marries 45 = .ok (.invokevirtual 86, 3) := by decide +kernel
theorem dX8_marries_48 : decode cX8_marries 48 = .ok (.iadd, 1) := by decide +kernel
theorem dX8_marries_49 : decode cX8_marries 49 = .ok (.invokevirtual 101, 3) := by decide +kernel
theorem dX8_marries_52 : decode cX8_marries 52 = .ok (.iinc 3 1, 3) := by decide +kernel
theorem dX8_marries_55 : decode cX8_marries 55 = .ok (.goto (-42), 3) := by decide +kernel
theorem dX8_marries_58 : decode cX8_marries 58 = .ok (.aload_n 0, 1) := by decide +kernel
theorem dX8_marries_59 : decode cX8_marries 59 = .ok (.iload_n 2, 1) := by decide +kernel
theorem dX8_marries_60 : decode cX8_marries 60 = .ok (.invokevirtual 116, 3) := by decide +kernel
theorem dX8_marries_63 : decode cX8_marries 63 = .ok (.aload_n 0, 1) := by decide +kernel
theorem dX8_marries_64 : decode cX8_marries 64 = .ok (.getfield 9, 3) := by decide +kernel
theorem dX8_marries_67 : decode cX8_marries 67 = .ok (.iconst 3, 1) := by decide +kernel
theorem dX8_marries_68 : decode cX8_marries 68 = .ok (.dup2, 1) := by decide +kernel
theorem dX8_marries_69 : decode cX8_marries 69 = .ok (.iaload, 1) := by decide +kernel
theorem dX8_marries_70 : decode cX8_marries 70 = .ok (.iconst 1, 1) := by decide +kernel
theorem dX8_marries_71 : decode cX8_marries 71 = .ok (.iadd, 1) := by decide +kernel
theorem dX8_marries_72 : decode cX8_marries 72 = .ok (.iastore, 1) := by decide +kernel
theorem dX8_marries_73 : decode cX8_marries 73 = .ok (.aload_n 0, 1) := by decide +kernel
theorem dX8_marries_74 : decode cX8_marries 74 = .ok (.iload_n 2, 1) := by decide +kernel
theorem dX8_marries_75 : decode cX8_marries 75 = .ok (.iload_n 1, 1) := by decide +kernel
theorem dX8_marries_76 : decode cX8_marries 76 = .ok (.if_icmp .ge 9, 3) := by decide +kernel
theorem dX8_marries_79 : decode cX8_marries 79 = .ok (.iload_n 1, 1) := by decide +kernel
theorem dX8_marries_80 : decode cX8_marries 80 = .ok (.iconst 1, 1) := by decide +kernel
theorem dX8_marries_81 : decode cX8_marries 81 = .ok (.isub, 1) := by decide +kernel
theorem dX8_marries_82 : decode cX8_marries 82 = .ok (.goto 4, 3) := by decide +kernel
theorem dX8_marries_85 : decode cX8_marries 85 = .ok (.iload_n 1, 1) := by decide +kernel
theorem dX8_marries_86 : decode cX8_marries 86 = .ok (.putfield 52, 3) := by decide +kernel
theorem dX8_marries_89 : decode cX8_marries 89 = .ok (.iconst 1, 1) := by decide +kernel
theorem dX8_marries_90 : decode cX8_marries 90 = .ok (.ireturn, 1) := by decide +kernel
theorem dX8_marry_0 : decode cX8_marry 0 = .ok (.aload_n 0, 1) := by decide +kernel
theorem dX8_marry_1 : decode cX8_marry 1 = .ok (.invokevirtual 105, 3) := by decide +kernel
theorem dX8_marry_4 : decode cX8_marry 4 = .ok (.aload_n 0, 1) := by decide +kernel
theorem dX8_marry_5 : decode cX8_marry 5 = .ok (.aload_n 0, 1) := by decide +kernel
theorem dX8_marry_6 : decode cX8_marry 6 = .ok (.iload_n 1, 1) := by decide +kernel
theorem dX8_marry_7 : decode cX8_marry 7 = .ok (.iload_n 2, 1) := by decide +kernel
theorem dX8_marry_8 : decode cX8_marry 8 = .ok (.invokevirtual 135, 3) := by decide +kernel
theorem dX8_marry_11 : decode cX8_marry 11 = .ok (.iconst 1, 1) := by decide +kernel
theorem dX8_marry_12 : decode cX8_marry 12 = .ok (.invokevirtual 112, 3) := by decide +kernel
theorem dX8_marry_15 : decode cX8_marry 15 = .ok (.ireturn, 1) := by decide +kernel
theorem dX8_stands_0 : decode cX8_stands 0 = .ok (.aload_n 0, 1) := by decide +kernel
theorem dX8_stands_1 : decode cX8_stands 1 = .ok (.iload_n 1, 1) := by decide +kernel
theorem dX8_stands_2 : decode cX8_stands 2 = .ok (.invokevirtual 79, 3) := by decide +kernel
theorem dX8_stands_5 : decode cX8_stands 5 = .ok (.ifCond .ne 52, 3) := by decide +kernel
theorem dX8_stands_8 : decode cX8_stands 8 = .ok (.aload_n 0, 1) := by decide +kernel
theorem dX8_stands_9 : decode cX8_stands 9 = .ok (.iload_n 2, 1) := by decide +kernel
theorem dX8_stands_10 : decode cX8_stands 10 = .ok (.iconst 0, 1) := by decide +kernel
theorem dX8_stands_11 : decode cX8_stands 11 = .ok (.iconst 1, 1) := by decide +kernel
theorem dX8_stands_12 : decode cX8_stands 12 = .ok (.invokestatic 64, 3) := by decide +kernel
theorem dX8_stands_15 : decode cX8_stands 15 = .ok (.ifCond .ne 7, 3) := by decide +kernel
theorem dX8_stands_18 : decode cX8_stands 18 = .ok (.iconst 1, 1) := by decide +kernel
theorem dX8_stands_19 : decode cX8_stands 19 = .ok (.goto 4, 3) := by decide +kernel
theorem dX8_stands_22 : decode cX8_stands 22 = .ok (.iconst 0, 1) := by decide +kernel
theorem dX8_stands_23 : decode cX8_stands 23 = .ok (.iconst 4, 1) := by decide +kernel
theorem dX8_stands_24 : decode cX8_stands 24 = .ok (.iload_n 2, 1) := by decide +kernel
theorem dX8_stands_25 : decode cX8_stands 25 = .ok (.invokevirtual 75, 3) := by decide +kernel
theorem dX8_stands_28 : decode cX8_stands 28 = .ok (.ifCond .ne 29, 3) := by decide +kernel
theorem dX8_stands_31 : decode cX8_stands 31 = .ok (.aload_n 0, 1) := by decide +kernel
theorem dX8_stands_32 : decode cX8_stands 32 = .ok (.aload_n 0, 1) := by decide +kernel
theorem dX8_stands_33 : decode cX8_stands 33 = .ok (.getfield 9, 3) := by decide +kernel
theorem dX8_stands_36 : decode cX8_stands 36 = .ok (.iconst 4, 1) := by decide +kernel
theorem dX8_stands_37 : decode cX8_stands 37 = .ok (.iload_n 1, 1) := by decide +kernel
theorem dX8_stands_38 : decode cX8_stands 38 = .ok (.iadd, 1) := by decide +kernel
theorem dX8_stands_39 : decode cX8_stands 39 = .ok (.iaload, 1) := by decide +kernel
theorem dX8_stands_40 : decode cX8_stands 40 = .ok (.iload_n 2, 1) := by decide +kernel
theorem dX8_stands_41 : decode cX8_stands 41 = .ok (.if_icmp .ne 7, 3) := by decide +kernel
theorem dX8_stands_44 : decode cX8_stands 44 = .ok (.iconst 1, 1) := by decide +kernel
theorem dX8_stands_45 : decode cX8_stands 45 = .ok (.goto 4, 3) := by decide +kernel
theorem dX8_stands_48 : decode cX8_stands 48 = .ok (.iconst 0, 1) := by decide +kernel
theorem dX8_stands_49 : decode cX8_stands 49 = .ok (.iconst 5, 1) := by decide +kernel
theorem dX8_stands_50 : decode cX8_stands 50 = .ok (.iload_n 2, 1) := by decide +kernel
theorem dX8_stands_51 : decode cX8_stands 51 = .ok (.invokevirtual 75, 3) := by decide +kernel
theorem dX8_stands_54 : decode cX8_stands 54 = .ok (.ifCond .eq 5, 3) := by decide +kernel
theorem dX8_stands_57 : decode cX8_stands 57 = .ok (.iconst 0, 1) := by decide +kernel
theorem dX8_stands_58 : decode cX8_stands 58 = .ok (.ireturn, 1) := by decide +kernel
theorem dX8_stands_59 : decode cX8_stands 59 = .ok (.aload_n 0, 1) := by decide +kernel
theorem dX8_stands_60 : decode cX8_stands 60 = .ok (.getfield 9, 3) := by decide +kernel
theorem dX8_stands_63 : decode cX8_stands 63 = .ok (.iconst 4, 1) := by decide +kernel
theorem dX8_stands_64 : decode cX8_stands 64 = .ok (.iload_n 1, 1) := by decide +kernel
theorem dX8_stands_65 : decode cX8_stands 65 = .ok (.iadd, 1) := by decide +kernel
theorem dX8_stands_66 : decode cX8_stands 66 = .ok (.iload_n 2, 1) := by decide +kernel
theorem dX8_stands_67 : decode cX8_stands 67 = .ok (.iastore, 1) := by decide +kernel
theorem dX8_stands_68 : decode cX8_stands 68 = .ok (.aload_n 0, 1) := by decide +kernel
theorem dX8_stands_69 : decode cX8_stands 69 = .ok (.aload_n 0, 1) := by decide +kernel
theorem dX8_stands_70 : decode cX8_stands 70 = .ok (.aload_n 0, 1) := by decide +kernel
theorem dX8_stands_71 : decode cX8_stands 71 = .ok (.invokevirtual 138, 3) := by decide +kernel
theorem dX8_stands_74 : decode cX8_stands 74 = .ok (.invokevirtual 141, 3) := by decide +kernel
theorem dX8_stands_77 : decode cX8_stands 77 = .ok (.putfield 52, 3) := by decide +kernel
theorem dX8_stands_80 : decode cX8_stands 80 = .ok (.iconst 1, 1) := by decide +kernel
theorem dX8_stands_81 : decode cX8_stands 81 = .ok (.ireturn, 1) := by decide +kernel
theorem dX8_stand_0 : decode cX8_stand 0 = .ok (.aload_n 0, 1) := by decide +kernel
theorem dX8_stand_1 : decode cX8_stand 1 = .ok (.invokevirtual 105, 3) := by decide +kernel
theorem dX8_stand_4 : decode cX8_stand 4 = .ok (.aload_n 0, 1) := by decide +kernel
theorem dX8_stand_5 : decode cX8_stand 5 = .ok (.aload_n 0, 1) := by decide +kernel
theorem dX8_stand_6 : decode cX8_stand 6 = .ok (.iload_n 1, 1) := by decide +kernel
theorem dX8_stand_7 : decode cX8_stand 7 = .ok (.iload_n 2, 1) := by decide +kernel
theorem dX8_stand_8 : decode cX8_stand 8 = .ok (.invokevirtual 144, 3) := by decide +kernel
theorem dX8_stand_11 : decode cX8_stand 11 = .ok (.iconst 1, 1) := by decide +kernel
theorem dX8_stand_12 : decode cX8_stand 12 = .ok (.invokevirtual 112, 3) := by decide +kernel
theorem dX8_stand_15 : decode cX8_stand 15 = .ok (.ireturn, 1) := by decide +kernel
theorem dX8_partsNow_0 : decode cX8_partsNow 0 = .ok (.aload_n 0, 1) := by decide +kernel
theorem dX8_partsNow_1 : decode cX8_partsNow 1 = .ok (.getfield 9, 3) := by decide +kernel
theorem dX8_partsNow_4 : decode cX8_partsNow 4 = .ok (.iconst 0, 1) := by decide +kernel
theorem dX8_partsNow_5 : decode cX8_partsNow 5 = .ok (.iaload, 1) := by decide +kernel
theorem dX8_partsNow_6 : decode cX8_partsNow 6 = .ok (.istore_n 1, 1) := by decide +kernel
theorem dX8_partsNow_7 : decode cX8_partsNow 7 = .ok (.aload_n 0, 1) := by decide +kernel
theorem dX8_partsNow_8 : decode cX8_partsNow 8 = .ok (.iload_n 1, 1) := by decide +kernel
theorem dX8_partsNow_9 : decode cX8_partsNow 9 = .ok (.iconst 2, 1) := by decide +kernel
theorem dX8_partsNow_10 : decode cX8_partsNow 10 = .ok (.if_icmp .ge 7, 3) := by decide +kernel
theorem dX8_partsNow_13 : decode cX8_partsNow 13 = .ok (.iconst 1, 1) := by decide +kernel
theorem dX8_partsNow_14 : decode cX8_partsNow 14 = .ok (.goto 4, 3) := by decide +kernel
theorem dX8_partsNow_17 : decode cX8_partsNow 17 = .ok (.iconst 0, 1) := by decide +kernel
theorem dX8_partsNow_18 : decode cX8_partsNow 18 = .ok (.bipush 7, 2) := by decide +kernel
theorem dX8_partsNow_20 : decode cX8_partsNow 20 = .ok (.iload_n 1, 1) := by decide +kernel
theorem dX8_partsNow_21 : decode cX8_partsNow 21 = .ok (.invokevirtual 75, 3) := by decide +kernel
theorem dX8_partsNow_24 : decode cX8_partsNow 24 = .ok (.ifCond .eq 5, 3) := by decide +kernel
theorem dX8_partsNow_27 : decode cX8_partsNow 27 = .ok (.iconst 0, 1) := by decide +kernel
theorem dX8_partsNow_28 : decode cX8_partsNow 28 = .ok (.ireturn, 1) := by decide +kernel
theorem dX8_partsNow_29 : decode cX8_partsNow 29 = .ok (.aload_n 0, 1) := by decide +kernel
theorem dX8_partsNow_30 : decode cX8_partsNow 30 = .ok (.invokevirtual 147, 3) := by decide +kernel
theorem dX8_partsNow_33 : decode cX8_partsNow 33 = .ok (.aload_n 0, 1) := by decide +kernel
theorem dX8_partsNow_34 : decode cX8_partsNow 34 = .ok (.getfield 13, 3) := by decide +kernel
theorem dX8_partsNow_37 : decode cX8_partsNow 37 = .ok (.bipush 9, 2) := by decide +kernel
theorem dX8_partsNow_39 : decode cX8_partsNow 39 = .ok (.aload_n 0, 1) := by decide +kernel
theorem dX8_partsNow_40 : decode cX8_partsNow 40 = .ok (.getfield 150, 3) := by decide +kernel
theorem dX8_partsNow_43 : decode cX8_partsNow 43 = .ok (.imul, 1) := by decide +kernel
theorem dX8_partsNow_44 : decode cX8_partsNow 44 = .ok (.iload_n 1, 1) := by decide +kernel
theorem dX8_partsNow_45 : decode cX8_partsNow 45 = .ok (.iadd, 1) := by decide +kernel
theorem dX8_partsNow_46 : decode cX8_partsNow 46 = .ok (.aload_n 0, 1) := by decide +kernel
theorem dX8_partsNow_47 : decode cX8_partsNow 47 = .ok (.getfield 150, 3) := by decide +kernel
theorem dX8_partsNow_50 : decode cX8_partsNow 50 = .ok (.isub, 1) := by decide +kernel
theorem dX8_partsNow_51 : decode cX8_partsNow 51 = .ok (.iconst 1, 1) := by decide +kernel
theorem dX8_partsNow_52 : decode cX8_partsNow 52 = .ok (.isub, 1) := by decide +kernel
theorem dX8_partsNow_53 : decode cX8_partsNow 53 = .ok (.iaload, 1) := by decide +kernel
theorem dX8_partsNow_54 : decode cX8_partsNow 54 = .ok (.istore_n 2, 1) := by decide +kernel
theorem dX8_partsNow_55 : decode cX8_partsNow 55 = .ok (.iconst 0, 1) := by decide +kernel
theorem dX8_partsNow_56 : decode cX8_partsNow 56 = .ok (.istore_n 3, 1) := by decide +kernel
theorem dX8_partsNow_57 : decode cX8_partsNow 57 = .ok (.iload_n 3, 1) := by decide +kernel
theorem dX8_partsNow_58 : decode cX8_partsNow 58 = .ok (.iload_n 1, 1) := by decide +kernel
theorem dX8_partsNow_59 : decode cX8_partsNow 59 = .ok (.if_icmp .ge 30, 3) := by decide +kernel
theorem dX8_partsNow_62 : decode cX8_partsNow 62 = .ok (.aload_n 0, 1) := by decide +kernel
theorem dX8_partsNow_63 : decode cX8_partsNow 63 = .ok (.getfield 9, 3) := by decide +kernel
theorem dX8_partsNow_66 : decode cX8_partsNow 66 = .ok (.iconst 4, 1) := by decide +kernel
theorem dX8_partsNow_67 : decode cX8_partsNow 67 = .ok (.iload_n 3, 1) := by decide +kernel
theorem dX8_partsNow_68 : decode cX8_partsNow 68 = .ok (.iadd, 1) := by decide +kernel
theorem dX8_partsNow_69 : decode cX8_partsNow 69 = .ok (.iload_n 2, 1) := by decide +kernel
theorem dX8_partsNow_70 : decode cX8_partsNow 70 = .ok (.iload_n 3, 1) := by decide +kernel
theorem dX8_partsNow_71 : decode cX8_partsNow 71 = .ok (.invokestatic 82, 3) := by decide +kernel
theorem dX8_partsNow_74 : decode cX8_partsNow 74 = .ok (.ifCond .eq 7, 3) := by decide +kernel
theorem dX8_partsNow_77 : decode cX8_partsNow 77 = .ok (.iconst 1, 1) := by decide +kernel
theorem dX8_partsNow_78 : decode cX8_partsNow 78 = .ok (.goto 4, 3) := by decide +kernel
theorem dX8_partsNow_81 : decode cX8_partsNow 81 = .ok (.iconst 0, 1) := by decide +kernel
theorem dX8_partsNow_82 : decode cX8_partsNow 82 = .ok (.iastore, 1) := by decide +kernel
theorem dX8_partsNow_83 : decode cX8_partsNow 83 = .ok (.iinc 3 1, 3) := by decide +kernel
theorem dX8_partsNow_86 : decode cX8_partsNow 86 = .ok (.goto (-29), 3) := by decide +kernel
theorem dX8_partsNow_89 : decode cX8_partsNow 89 = .ok (.aload_n 0, 1) := by decide +kernel
theorem dX8_partsNow_90 : decode cX8_partsNow 90 = .ok (.aload_n 0, 1) := by decide +kernel
theorem dX8_partsNow_91 : decode cX8_partsNow 91 = .ok (.iload_n 2, 1) := by decide +kernel
theorem dX8_partsNow_92 : decode cX8_partsNow 92 = .ok (.invokevirtual 141, 3) := by decide +kernel
theorem dX8_partsNow_95 : decode cX8_partsNow 95 = .ok (.putfield 52, 3) := by decide +kernel
theorem dX8_partsNow_98 : decode cX8_partsNow 98 = .ok (.iconst 1, 1) := by decide +kernel
theorem dX8_partsNow_99 : decode cX8_partsNow 99 = .ok (.ireturn, 1) := by decide +kernel
theorem dX8_part_0 : decode cX8_part 0 = .ok (.aload_n 0, 1) := by decide +kernel
theorem dX8_part_1 : decode cX8_part 1 = .ok (.invokevirtual 105, 3) := by decide +kernel
theorem dX8_part_4 : decode cX8_part 4 = .ok (.aload_n 0, 1) := by decide +kernel
theorem dX8_part_5 : decode cX8_part 5 = .ok (.aload_n 0, 1) := by decide +kernel
theorem dX8_part_6 : decode cX8_part 6 = .ok (.invokevirtual 153, 3) := by decide +kernel
theorem dX8_part_9 : decode cX8_part 9 = .ok (.iconst 1, 1) := by decide +kernel
theorem dX8_part_10 : decode cX8_part 10 = .ok (.invokevirtual 112, 3) := by decide +kernel
theorem dX8_part_13 : decode cX8_part 13 = .ok (.ireturn, 1) := by decide +kernel
theorem dX8_lowest_0 : decode cX8_lowest 0 = .ok (.iconst 0, 1) := by decide +kernel
theorem dX8_lowest_1 : decode cX8_lowest 1 = .ok (.istore_n 1, 1) := by decide +kernel
theorem dX8_lowest_2 : decode cX8_lowest 2 = .ok (.iload_n 0, 1) := by decide +kernel
theorem dX8_lowest_3 : decode cX8_lowest 3 = .ok (.iload_n 1, 1) := by decide +kernel
theorem dX8_lowest_4 : decode cX8_lowest 4 = .ok (.invokestatic 82, 3) := by decide +kernel
theorem dX8_lowest_7 : decode cX8_lowest 7 = .ok (.ifCond .ne 9, 3) := by decide +kernel
theorem dX8_lowest_10 : decode cX8_lowest 10 = .ok (.iinc 1 1, 3) := by decide +kernel
theorem dX8_lowest_13 : decode cX8_lowest 13 = .ok (.goto (-11), 3) := by decide +kernel
theorem dX8_lowest_16 : decode cX8_lowest 16 = .ok (.iload_n 1, 1) := by decide +kernel
theorem dX8_lowest_17 : decode cX8_lowest 17 = .ok (.ireturn, 1) := by decide +kernel
theorem dX8_joins_0 : decode cX8_joins 0 = .ok (.iconst 0, 1) := by decide +kernel
theorem dX8_joins_1 : decode cX8_joins 1 = .ok (.istore_n 3, 1) := by decide +kernel
theorem dX8_joins_2 : decode cX8_joins 2 = .ok (.iconst 0, 1) := by decide +kernel
theorem dX8_joins_3 : decode cX8_joins 3 = .ok (.istore 4, 2) := by decide +kernel
theorem dX8_joins_5 : decode cX8_joins 5 = .ok (.iload 4, 2) := by decide +kernel
theorem dX8_joins_7 : decode cX8_joins 7 = .ok (.iload_n 2, 1) := by decide +kernel
theorem dX8_joins_8 : decode cX8_joins 8 = .ok (.if_icmp .ge 123, 3) := by decide +kernel
theorem dX8_joins_11 : decode cX8_joins 11 = .ok (.iconst (-1), 1) := by decide +kernel
theorem dX8_joins_12 : decode cX8_joins 12 = .ok (.istore 5, 2) := by decide +kernel
theorem dX8_joins_14 : decode cX8_joins 14 = .ok (.iconst (-1), 1) := by decide +kernel
theorem dX8_joins_15 : decode cX8_joins 15 = .ok (.istore 6, 2) := by decide +kernel
theorem dX8_joins_17 : decode cX8_joins 17 = .ok (.iconst 0, 1) := by decide +kernel
theorem dX8_joins_18 : decode cX8_joins 18 = .ok (.istore 7, 2) := by decide +kernel
theorem dX8_joins_20 : decode cX8_joins 20 = .ok (.iload 7, 2) := by decide +kernel
theorem dX8_joins_22 : decode cX8_joins 22 = .ok (.iload_n 2, 1) := by decide +kernel
theorem dX8_joins_23 : decode cX8_joins 23 = .ok (.if_icmp .ge 59, 3) := by decide +kernel
theorem dX8_joins_26 : decode cX8_joins 26 = .ok (.aload_n 0, 1) := by decide +kernel
theorem dX8_joins_27 : decode cX8_joins 27 = .ok (.getfield 22, 3) := by decide +kernel
theorem dX8_joins_30 : decode cX8_joins 30 = .ok (.iload 7, 2) := by decide +kernel
theorem dX8_joins_32 : decode cX8_joins 32 = .ok (.iaload, 1) := by decide +kernel
theorem dX8_joins_33 : decode cX8_joins 33 = .ok (.iload_n 3, 1) := by decide +kernel
theorem dX8_joins_34 : decode cX8_joins 34 = .ok (.iand, 1) := by decide +kernel
theorem dX8_joins_35 : decode cX8_joins 35 = .ok (.ifCond .eq 6, 3) := by decide +kernel
theorem dX8_joins_38 : decode cX8_joins 38 = .ok (.goto 38, 3) := by decide +kernel
theorem dX8_joins_41 : decode cX8_joins 41 = .ok (.aload_n 0, 1) := by decide +kernel
theorem dX8_joins_42 : decode cX8_joins 42 = .ok (.aload_n 0, 1) := by decide +kernel
theorem dX8_joins_43 : decode cX8_joins 43 = .ok (.getfield 22, 3) := by decide +kernel
theorem dX8_joins_46 : decode cX8_joins 46 = .ok (.iload 7, 2) := by decide +kernel
theorem dX8_joins_48 : decode cX8_joins 48 = .ok (.iaload, 1) := by decide +kernel
theorem dX8_joins_49 : decode cX8_joins 49 = .ok (.iload_n 3, 1) := by decide +kernel
theorem dX8_joins_50 : decode cX8_joins 50 = .ok (.invokevirtual 94, 3) := by decide +kernel
theorem dX8_joins_53 : decode cX8_joins 53 = .ok (.istore 8, 2) := by decide +kernel
theorem dX8_joins_55 : decode cX8_joins 55 = .ok (.iload 5, 2) := by decide +kernel
theorem dX8_joins_57 : decode cX8_joins 57 = .ok (.iconst (-1), 1) := by decide +kernel
theorem dX8_joins_58 : decode cX8_joins 58 = .ok (.if_icmp .eq 10, 3) := by decide +kernel
theorem dX8_joins_61 : decode cX8_joins 61 = .ok (.iload 8, 2) := by decide +kernel
theorem dX8_joins_63 : decode cX8_joins 63 = .ok (.iload 6, 2) := by decide +kernel
theorem dX8_joins_65 : decode cX8_joins 65 = .ok (.if_icmp .le 11, 3) := by decide +kernel
theorem dX8_joins_68 : decode cX8_joins 68 = .ok (.iload 7, 2) := by decide +kernel
theorem dX8_joins_70 : decode cX8_joins 70 = .ok (.istore 5, 2) := by decide +kernel
theorem dX8_joins_72 : decode cX8_joins 72 = .ok (.iload 8, 2) := by decide +kernel
theorem dX8_joins_74 : decode cX8_joins 74 = .ok (.istore 6, 2) := by decide +kernel
theorem dX8_joins_76 : decode cX8_joins 76 = .ok (.iinc 7 1, 3) := by decide +kernel
theorem dX8_joins_79 : decode cX8_joins 79 = .ok (.goto (-59), 3) := by decide +kernel
theorem dX8_joins_82 : decode cX8_joins 82 = .ok (.aload_n 0, 1) := by decide +kernel
theorem dX8_joins_83 : decode cX8_joins 83 = .ok (.getfield 13, 3) := by decide +kernel
theorem dX8_joins_86 : decode cX8_joins 86 = .ok (.bipush 9, 2) := by decide +kernel
theorem dX8_joins_88 : decode cX8_joins 88 = .ok (.iload_n 1, 1) := by decide +kernel
theorem dX8_joins_89 : decode cX8_joins 89 = .ok (.imul, 1) := by decide +kernel
theorem dX8_joins_90 : decode cX8_joins 90 = .ok (.iload 4, 2) := by decide +kernel
theorem dX8_joins_92 : decode cX8_joins 92 = .ok (.iadd, 1) := by decide +kernel
theorem dX8_joins_93 : decode cX8_joins 93 = .ok (.aload_n 0, 1) := by decide +kernel
theorem dX8_joins_94 : decode cX8_joins 94 = .ok (.getfield 22, 3) := by decide +kernel
theorem dX8_joins_97 : decode cX8_joins 97 = .ok (.iload 5, 2) := by decide +kernel
theorem dX8_joins_99 : decode cX8_joins 99 = .ok (.iaload, 1) := by decide +kernel
theorem dX8_joins_100 : decode cX8_joins 100 = .ok (.iastore, 1) := by decide +kernel
theorem dX8_joins_101 : decode cX8_joins 101 = .ok (.aload_n 0, 1) := by decide +kernel
theorem dX8_joins_102 : decode cX8_joins 102 = .ok (.getfield 16, 3) := by decide +kernel
theorem dX8_joins_105 : decode cX8_joins 105 = .ok (.bipush 9, 2) := by decide +kernel
theorem dX8_joins_107 : decode cX8_joins 107 = .ok (.iload_n 1, 1) := by decide +kernel
theorem dX8_joins_108 : decode cX8_joins 108 = .ok (.imul, 1) := by decide +kernel
theorem dX8_joins_109 : decode cX8_joins 109 = .ok (.iload 4, 2) := by decide +kernel
theorem dX8_joins_111 : decode cX8_joins 111 = .ok (.iadd, 1) := by decide +kernel
theorem dX8_joins_112 : decode cX8_joins 112 = .ok (.iload 6, 2) := by decide +kernel
theorem dX8_joins_114 : decode cX8_joins 114 = .ok (.iastore, 1) := by decide +kernel
theorem dX8_joins_115 : decode cX8_joins 115 = .ok (.iload_n 3, 1) := by decide +kernel
theorem dX8_joins_116 : decode cX8_joins 116 = .ok (.aload_n 0, 1) := by decide +kernel
theorem dX8_joins_117 : decode cX8_joins 117 = .ok (.getfield 22, 3) := by decide +kernel
theorem dX8_joins_120 : decode cX8_joins 120 = .ok (.iload 5, 2) := by decide +kernel
theorem dX8_joins_122 : decode cX8_joins 122 = .ok (.iaload, 1) := by decide +kernel
theorem dX8_joins_123 : decode cX8_joins 123 = .ok (.ior, 1) := by decide +kernel
theorem dX8_joins_124 : decode cX8_joins 124 = .ok (.istore_n 3, 1) := by decide +kernel
theorem dX8_joins_125 : decode cX8_joins 125 = .ok (.iinc 4 1, 3) := by decide +kernel
theorem dX8_joins_128 : decode cX8_joins 128 = .ok (.goto (-123), 3) := by decide +kernel
theorem dX8_joins_131 : decode cX8_joins 131 = .ok (.aload_n 0, 1) := by decide +kernel
theorem dX8_joins_132 : decode cX8_joins 132 = .ok (.getfield 19, 3) := by decide +kernel
theorem dX8_joins_135 : decode cX8_joins 135 = .ok (.iload_n 1, 1) := by decide +kernel
theorem dX8_joins_136 : decode cX8_joins 136 = .ok (.aload_n 0, 1) := by decide +kernel
theorem dX8_joins_137 : decode cX8_joins 137 = .ok (.getfield 16, 3) := by decide +kernel
theorem dX8_joins_140 : decode cX8_joins 140 = .ok (.bipush 9, 2) := by decide +kernel
theorem dX8_joins_142 : decode cX8_joins 142 = .ok (.iload_n 1, 1) := by decide +kernel
theorem dX8_joins_143 : decode cX8_joins 143 = .ok (.imul, 1) := by decide +kernel
theorem dX8_joins_144 : decode cX8_joins 144 = .ok (.iload_n 2, 1) := by decide +kernel
theorem dX8_joins_145 : decode cX8_joins 145 = .ok (.iadd, 1) := by decide +kernel
theorem dX8_joins_146 : decode cX8_joins 146 = .ok (.iconst 1, 1) := by decide +kernel
theorem dX8_joins_147 : decode cX8_joins 147 = .ok (.isub, 1) := by decide +kernel
theorem dX8_joins_148 : decode cX8_joins 148 = .ok (.iaload, 1) := by decide +kernel
theorem dX8_joins_149 : decode cX8_joins 149 = .ok (.iastore, 1) := by decide +kernel
theorem dX8_joins_150 : decode cX8_joins 150 = .ok (.return_, 1) := by decide +kernel
theorem dX8_merges_0 : decode cX8_merges 0 = .ok (.aload_n 0, 1) := by decide +kernel
theorem dX8_merges_1 : decode cX8_merges 1 = .ok (.getfield 13, 3) := by decide +kernel
theorem dX8_merges_4 : decode cX8_merges 4 = .ok (.bipush 9, 2) := by decide +kernel
theorem dX8_merges_6 : decode cX8_merges 6 = .ok (.iload_n 1, 1) := by decide +kernel
theorem dX8_merges_7 : decode cX8_merges 7 = .ok (.imul, 1) := by decide +kernel
theorem dX8_merges_8 : decode cX8_merges 8 = .ok (.iload_n 2, 1) := by decide +kernel
theorem dX8_merges_9 : decode cX8_merges 9 = .ok (.iadd, 1) := by decide +kernel
theorem dX8_merges_10 : decode cX8_merges 10 = .ok (.iconst 2, 1) := by decide +kernel
theorem dX8_merges_11 : decode cX8_merges 11 = .ok (.isub, 1) := by decide +kernel
theorem dX8_merges_12 : decode cX8_merges 12 = .ok (.iaload, 1) := by decide +kernel
theorem dX8_merges_13 : decode cX8_merges 13 = .ok (.istore_n 3, 1) := by decide +kernel
theorem dX8_merges_14 : decode cX8_merges 14 = .ok (.aload_n 0, 1) := by decide +kernel
theorem dX8_merges_15 : decode cX8_merges 15 = .ok (.getfield 13, 3) := by decide +kernel
theorem dX8_merges_18 : decode cX8_merges 18 = .ok (.bipush 9, 2) := by decide +kernel
theorem dX8_merges_20 : decode cX8_merges 20 = .ok (.iload_n 1, 1) := by decide +kernel
theorem dX8_merges_21 : decode cX8_merges 21 = .ok (.imul, 1) := by decide +kernel
theorem dX8_merges_22 : decode cX8_merges 22 = .ok (.iload_n 2, 1) := by decide +kernel
theorem dX8_merges_23 : decode cX8_merges 23 = .ok (.iadd, 1) := by decide +kernel
theorem dX8_merges_24 : decode cX8_merges 24 = .ok (.iconst 1, 1) := by decide +kernel
theorem dX8_merges_25 : decode cX8_merges 25 = .ok (.isub, 1) := by decide +kernel
theorem dX8_merges_26 : decode cX8_merges 26 = .ok (.iaload, 1) := by decide +kernel
theorem dX8_merges_27 : decode cX8_merges 27 = .ok (.istore 4, 2) := by decide +kernel
theorem dX8_merges_29 : decode cX8_merges 29 = .ok (.iload_n 3, 1) := by decide +kernel
theorem dX8_merges_30 : decode cX8_merges 30 = .ok (.invokestatic 156, 3) := by decide +kernel
theorem dX8_merges_33 : decode cX8_merges 33 = .ok (.iload 4, 2) := by decide +kernel
theorem dX8_merges_35 : decode cX8_merges 35 = .ok (.invokestatic 156, 3) := by decide +kernel
theorem dX8_merges_38 : decode cX8_merges 38 = .ok (.if_icmp .ge 7, 3) := by decide +kernel
theorem dX8_merges_41 : decode cX8_merges 41 = .ok (.iload_n 3, 1) := by decide +kernel
theorem dX8_merges_42 : decode cX8_merges 42 = .ok (.goto 5, 3) := by decide +kernel
theorem dX8_merges_45 : decode cX8_merges 45 = .ok (.iload 4, 2) := by decide +kernel
theorem dX8_merges_47 : decode cX8_merges 47 = .ok (.istore 5, 2) := by decide +kernel
theorem dX8_merges_49 : decode cX8_merges 49 = .ok (.iconst 0, 1) := by decide +kernel
theorem dX8_merges_50 : decode cX8_merges 50 = .ok (.istore 6, 2) := by decide +kernel
theorem dX8_merges_52 : decode cX8_merges 52 = .ok (.iconst 0, 1) := by decide +kernel
theorem dX8_merges_53 : decode cX8_merges 53 = .ok (.istore 7, 2) := by decide +kernel
theorem dX8_merges_55 : decode cX8_merges 55 = .ok (.iload 7, 2) := by decide +kernel
theorem dX8_merges_57 : decode cX8_merges 57 = .ok (.iload_n 2, 1) := by decide +kernel
theorem dX8_merges_58 : decode cX8_merges 58 = .ok (.if_icmp .ge 59, 3) := by decide +kernel
theorem dX8_merges_61 : decode cX8_merges 61 = .ok (.aload_n 0, 1) := by decide +kernel
theorem dX8_merges_62 : decode cX8_merges 62 = .ok (.getfield 22, 3) := by decide +kernel
theorem dX8_merges_65 : decode cX8_merges 65 = .ok (.iload 7, 2) := by decide +kernel
theorem dX8_merges_67 : decode cX8_merges 67 = .ok (.iaload, 1) := by decide +kernel
theorem dX8_merges_68 : decode cX8_merges 68 = .ok (.istore 8, 2) := by decide +kernel
theorem dX8_merges_70 : decode cX8_merges 70 = .ok (.iload 8, 2) := by decide +kernel
theorem dX8_merges_72 : decode cX8_merges 72 = .ok (.iload_n 3, 1) := by decide +kernel
theorem dX8_merges_73 : decode cX8_merges 73 = .ok (.iload 4, 2) := by decide +kernel
theorem dX8_merges_75 : decode cX8_merges 75 = .ok (.iadd, 1) := by decide +kernel
theorem dX8_merges_76 : decode cX8_merges 76 = .ok (.iload 5, 2) := by decide +kernel
theorem dX8_merges_78 : decode cX8_merges 78 = .ok (.isub, 1) := by decide +kernel
theorem dX8_merges_79 : decode cX8_merges 79 = .ok (.if_icmp .ne 6, 3) := by decide +kernel
theorem dX8_merges_82 : decode cX8_merges 82 = .ok (.goto 29, 3) := by decide +kernel
theorem dX8_merges_85 : decode cX8_merges 85 = .ok (.aload_n 0, 1) := by decide +kernel
theorem dX8_merges_86 : decode cX8_merges 86 = .ok (.getfield 22, 3) := by decide +kernel
theorem dX8_merges_89 : decode cX8_merges 89 = .ok (.iload 6, 2) := by decide +kernel
theorem dX8_merges_91 : decode cX8_merges 91 = .ok (.iload 8, 2) := by decide +kernel
theorem dX8_merges_93 : decode cX8_merges 93 = .ok (.iload 5, 2) := by decide +kernel
theorem dX8_merges_95 : decode cX8_merges 95 = .ok (.if_icmp .ne 10, 3) := by decide +kernel
theorem dX8_merges_98 : decode cX8_merges 98 = .ok (.iload_n 3, 1) := by decide +kernel
theorem dX8_merges_99 : decode cX8_merges 99 = .ok (.iload 4, 2) := by decide +kernel
theorem dX8_merges_101 : decode cX8_merges 101 = .ok (.ior, 1) := by decide +kernel
theorem dX8_merges_102 : decode cX8_merges 102 = .ok (.goto 5, 3) := by decide +kernel
theorem dX8_merges_105 : decode cX8_merges 105 = .ok (.iload 8, 2) := by decide +kernel
theorem dX8_merges_107 : decode cX8_merges 107 = .ok (.iastore, 1) := by decide +kernel
theorem dX8_merges_108 : decode cX8_merges 108 = .ok (.iinc 6 1, 3) := by decide +kernel
theorem dX8_merges_111 : decode cX8_merges 111 = .ok (.iinc 7 1, 3) := by decide +kernel
theorem dX8_merges_114 : decode cX8_merges 114 = .ok (.goto (-59), 3) := by decide +kernel
theorem dX8_merges_117 : decode cX8_merges 117 = .ok (.return_, 1) := by decide +kernel
theorem dX8_laysPhases_0 : decode cX8_laysPhases 0 = .ok (.aload_n 0, 1) := by decide +kernel
theorem dX8_laysPhases_1 : decode cX8_laysPhases 1 = .ok (.getfield 9, 3) := by decide +kernel
theorem dX8_laysPhases_4 : decode cX8_laysPhases 4 = .ok (.iconst 0, 1) := by decide +kernel
theorem dX8_laysPhases_5 : decode cX8_laysPhases 5 = .ok (.iaload, 1) := by decide +kernel
theorem dX8_laysPhases_6 : decode cX8_laysPhases 6 = .ok (.istore_n 1, 1) := by decide +kernel
theorem dX8_laysPhases_7 : decode cX8_laysPhases 7 = .ok (.iconst 0, 1) := by decide +kernel
theorem dX8_laysPhases_8 : decode cX8_laysPhases 8 = .ok (.istore_n 2, 1) := by decide +kernel
theorem dX8_laysPhases_9 : decode cX8_laysPhases 9 = .ok (.iload_n 2, 1) := by decide +kernel
theorem dX8_laysPhases_10 : decode cX8_laysPhases 10 = .ok (.iload_n 1, 1) := by decide +kernel
theorem dX8_laysPhases_11 : decode cX8_laysPhases 11 = .ok (.if_icmp .ge 18, 3) := by decide +kernel
theorem dX8_laysPhases_14 : decode cX8_laysPhases 14 = .ok (.aload_n 0, 1) := by decide +kernel
theorem dX8_laysPhases_15 : decode cX8_laysPhases 15 = .ok (.getfield 22, 3) := by decide +kernel
theorem dX8_laysPhases_18 : decode cX8_laysPhases 18 = .ok (.iload_n 2, 1) := by decide +kernel
theorem dX8_laysPhases_19 : decode cX8_laysPhases 19 = .ok (.iconst 1, 1) := by decide +kernel
theorem dX8_laysPhases_20 : decode cX8_laysPhases 20 = .ok (.iload_n 2, 1) := by decide +kernel
theorem dX8_laysPhases_21 : decode cX8_laysPhases 21 = .ok (.ishl, 1) := by decide +kernel
theorem dX8_laysPhases_22 : decode cX8_laysPhases 22 = .ok (.iastore, 1) := by decide +kernel
theorem dX8_laysPhases_23 : decode cX8_laysPhases 23 = .ok (.iinc 2 1, 3) := by decide +kernel
theorem dX8_laysPhases_26 : decode cX8_laysPhases 26 = .ok (.goto (-17), 3) := by decide +kernel
theorem dX8_laysPhases_29 : decode cX8_laysPhases 29 = .ok (.aload_n 0, 1) := by decide +kernel
theorem dX8_laysPhases_30 : decode cX8_laysPhases 30 = .ok (.iconst 0, 1) := by decide +kernel
theorem dX8_laysPhases_31 : decode cX8_laysPhases 31 = .ok (.putfield 150, 3) := by decide +kernel
theorem dX8_laysPhases_34 : decode cX8_laysPhases 34 = .ok (.aload_n 0, 1) := by decide +kernel
theorem dX8_laysPhases_35 : decode cX8_laysPhases 35 = .ok (.ldc 159, 2) := by decide +kernel
theorem dX8_laysPhases_37 : decode cX8_laysPhases 37 = .ok (.putfield 160, 3) := by decide +kernel
theorem dX8_laysPhases_40 : decode cX8_laysPhases 40 = .ok (.iconst 0, 1) := by decide +kernel
theorem dX8_laysPhases_41 : decode cX8_laysPhases 41 = .ok (.istore_n 2, 1) := by decide +kernel
theorem dX8_laysPhases_42 : decode cX8_laysPhases 42 = .ok (.iload_n 2, 1) := by decide +kernel
theorem dX8_laysPhases_43 : decode cX8_laysPhases 43 = .ok (.iload_n 1, 1) := by decide +kernel
theorem dX8_laysPhases_44 : decode cX8_laysPhases 44 = .ok (.iconst 1, 1) := by decide +kernel
theorem dX8_laysPhases_45 : decode cX8_laysPhases 45 = .ok (.isub, 1) := by decide +kernel
theorem dX8_laysPhases_46 : decode cX8_laysPhases 46 = .ok (.if_icmp .ge 53, 3) := by decide +kernel
theorem dX8_laysPhases_49 : decode cX8_laysPhases 49 = .ok (.aload_n 0, 1) := by decide +kernel
theorem dX8_laysPhases_50 : decode cX8_laysPhases 50 = .ok (.iload_n 2, 1) := by decide +kernel
theorem dX8_laysPhases_51 : decode cX8_laysPhases 51 = .ok (.iload_n 1, 1) := by decide +kernel
theorem dX8_laysPhases_52 : decode cX8_laysPhases 52 = .ok (.iload_n 2, 1) := by decide +kernel
theorem dX8_laysPhases_53 : decode cX8_laysPhases 53 = .ok (.isub, 1) := by decide +kernel
theorem dX8_laysPhases_54 : decode cX8_laysPhases 54 = .ok (.invokevirtual 163, 3) := by decide +kernel
theorem dX8_laysPhases_57 : decode cX8_laysPhases 57 = .ok (.aload_n 0, 1) := by decide +kernel
theorem dX8_laysPhases_58 : decode cX8_laysPhases 58 = .ok (.getfield 19, 3) := by decide +kernel
theorem dX8_laysPhases_61 : decode cX8_laysPhases 61 = .ok (.iload_n 2, 1) := by decide +kernel
theorem dX8_laysPhases_62 : decode cX8_laysPhases 62 = .ok (.iaload, 1) := by decide +kernel
theorem dX8_laysPhases_63 : decode cX8_laysPhases 63 = .ok (.aload_n 0, 1) := by decide +kernel
theorem dX8_laysPhases_64 : decode cX8_laysPhases 64 = .ok (.getfield 160, 3) := by decide +kernel
theorem dX8_laysPhases_67 : decode cX8_laysPhases 67 = .ok (.if_icmp .ge 18, 3) := by decide +kernel
theorem dX8_laysPhases_70 : decode cX8_laysPhases 70 = .ok (.aload_n 0, 1) := by decide +kernel
theorem dX8_laysPhases_71 : decode cX8_laysPhases 71 = .ok (.aload_n 0, 1) := by decide +kernel
theorem dX8_laysPhases_72 : decode cX8_laysPhases 72 = .ok (.getfield 19, 3) := by decide +kernel
theorem dX8_laysPhases_75 : decode cX8_laysPhases 75 = .ok (.iload_n 2, 1) := by decide +kernel
theorem dX8_laysPhases_76 : decode cX8_laysPhases 76 = .ok (.iaload, 1) := by decide +kernel
theorem dX8_laysPhases_77 : decode cX8_laysPhases 77 = .ok (.putfield 160, 3) := by decide +kernel
theorem dX8_laysPhases_80 : decode cX8_laysPhases 80 = .ok (.aload_n 0, 1) := by decide +kernel
theorem dX8_laysPhases_81 : decode cX8_laysPhases 81 = .ok (.iload_n 2, 1) := by decide +kernel
theorem dX8_laysPhases_82 : decode cX8_laysPhases 82 = .ok (.putfield 150, 3) := by decide +kernel
theorem dX8_laysPhases_85 : decode cX8_laysPhases 85 = .ok (.aload_n 0, 1) := by decide +kernel
theorem dX8_laysPhases_86 : decode cX8_laysPhases 86 = .ok (.iload_n 2, 1) := by decide +kernel
theorem dX8_laysPhases_87 : decode cX8_laysPhases 87 = .ok (.iload_n 1, 1) := by decide +kernel
theorem dX8_laysPhases_88 : decode cX8_laysPhases 88 = .ok (.iload_n 2, 1) := by decide +kernel
theorem dX8_laysPhases_89 : decode cX8_laysPhases 89 = .ok (.isub, 1) := by decide +kernel
theorem dX8_laysPhases_90 : decode cX8_laysPhases 90 = .ok (.invokevirtual 166, 3) := by decide +kernel
theorem dX8_laysPhases_93 : decode cX8_laysPhases 93 = .ok (.iinc 2 1, 3) := by decide +kernel
theorem dX8_laysPhases_96 : decode cX8_laysPhases 96 = .ok (.goto (-54), 3) := by decide +kernel
theorem dX8_laysPhases_99 : decode cX8_laysPhases 99 = .ok (.return_, 1) := by decide +kernel
theorem dX8_leastNow_0 : decode cX8_leastNow 0 = .ok (.aload_n 0, 1) := by decide +kernel
theorem dX8_leastNow_1 : decode cX8_leastNow 1 = .ok (.invokevirtual 147, 3) := by decide +kernel
theorem dX8_leastNow_4 : decode cX8_leastNow 4 = .ok (.aload_n 0, 1) := by decide +kernel
theorem dX8_leastNow_5 : decode cX8_leastNow 5 = .ok (.getfield 160, 3) := by decide +kernel
theorem dX8_leastNow_8 : decode cX8_leastNow 8 = .ok (.ireturn, 1) := by decide +kernel
theorem dX8_isPhase_0 : decode cX8_isPhase 0 = .ok (.iload_n 1, 1) := by decide +kernel
theorem dX8_isPhase_1 : decode cX8_isPhase 1 = .ok (.iconst 0, 1) := by decide +kernel
theorem dX8_isPhase_2 : decode cX8_isPhase 2 = .ok (.aload_n 0, 1) := by decide +kernel
theorem dX8_isPhase_3 : decode cX8_isPhase 3 = .ok (.getfield 9, 3) := by decide +kernel
theorem dX8_isPhase_6 : decode cX8_isPhase 6 = .ok (.iconst 0, 1) := by decide +kernel
theorem dX8_isPhase_7 : decode cX8_isPhase 7 = .ok (.iaload, 1) := by decide +kernel
theorem dX8_isPhase_8 : decode cX8_isPhase 8 = .ok (.iconst 2, 1) := by decide +kernel
theorem dX8_isPhase_9 : decode cX8_isPhase 9 = .ok (.isub, 1) := by decide +kernel
theorem dX8_isPhase_10 : decode cX8_isPhase 10 = .ok (.invokestatic 64, 3) := by decide +kernel
theorem dX8_isPhase_13 : decode cX8_isPhase 13 = .ok (.ireturn, 1) := by decide +kernel
theorem dX8_phases_0 : decode cX8_phases 0 = .ok (.aload_n 0, 1) := by decide +kernel
theorem dX8_phases_1 : decode cX8_phases 1 = .ok (.iconst 0, 1) := by decide +kernel
theorem dX8_phases_2 : decode cX8_phases 2 = .ok (.putfield 42, 3) := by decide +kernel
theorem dX8_phases_5 : decode cX8_phases 5 = .ok (.aload_n 0, 1) := by decide +kernel
theorem dX8_phases_6 : decode cX8_phases 6 = .ok (.getfield 9, 3) := by decide +kernel
theorem dX8_phases_9 : decode cX8_phases 9 = .ok (.iconst 0, 1) := by decide +kernel
theorem dX8_phases_10 : decode cX8_phases 10 = .ok (.iaload, 1) := by decide +kernel
theorem dX8_phases_11 : decode cX8_phases 11 = .ok (.iconst 1, 1) := by decide +kernel
theorem dX8_phases_12 : decode cX8_phases 12 = .ok (.if_icmp .le 14, 3) := by decide +kernel
theorem dX8_phases_15 : decode cX8_phases 15 = .ok (.aload_n 0, 1) := by decide +kernel
theorem dX8_phases_16 : decode cX8_phases 16 = .ok (.getfield 9, 3) := by decide +kernel
theorem dX8_phases_19 : decode cX8_phases 19 = .ok (.iconst 0, 1) := by decide +kernel
theorem dX8_phases_20 : decode cX8_phases 20 = .ok (.iaload, 1) := by decide +kernel
theorem dX8_phases_21 : decode cX8_phases 21 = .ok (.iconst 1, 1) := by decide +kernel
theorem dX8_phases_22 : decode cX8_phases 22 = .ok (.isub, 1) := by decide +kernel
theorem dX8_phases_23 : decode cX8_phases 23 = .ok (.goto 4, 3) := by decide +kernel
theorem dX8_phases_26 : decode cX8_phases 26 = .ok (.iconst 0, 1) := by decide +kernel
theorem dX8_phases_27 : decode cX8_phases 27 = .ok (.ireturn, 1) := by decide +kernel
theorem dX8_phaseOf_0 : decode cX8_phaseOf 0 = .ok (.aload_n 0, 1) := by decide +kernel
theorem dX8_phaseOf_1 : decode cX8_phaseOf 1 = .ok (.aload_n 0, 1) := by decide +kernel
theorem dX8_phaseOf_2 : decode cX8_phaseOf 2 = .ok (.iload_n 1, 1) := by decide +kernel
theorem dX8_phaseOf_3 : decode cX8_phaseOf 3 = .ok (.invokevirtual 169, 3) := by decide +kernel
theorem dX8_phaseOf_6 : decode cX8_phaseOf 6 = .ok (.ifCond .ne 7, 3) := by decide +kernel
theorem dX8_phaseOf_9 : decode cX8_phaseOf 9 = .ok (.iconst 1, 1) := by decide +kernel
theorem dX8_phaseOf_10 : decode cX8_phaseOf 10 = .ok (.goto 17, 3) := by decide +kernel
theorem dX8_phaseOf_13 : decode cX8_phaseOf 13 = .ok (.iload_n 2, 1) := by decide +kernel
theorem dX8_phaseOf_14 : decode cX8_phaseOf 14 = .ok (.iconst 0, 1) := by decide +kernel
theorem dX8_phaseOf_15 : decode cX8_phaseOf 15 = .ok (.iconst 4, 1) := by decide +kernel
theorem dX8_phaseOf_16 : decode cX8_phaseOf 16 = .ok (.invokestatic 64, 3) := by decide +kernel
theorem dX8_phaseOf_19 : decode cX8_phaseOf 19 = .ok (.ifCond .eq 7, 3) := by decide +kernel
theorem dX8_phaseOf_22 : decode cX8_phaseOf 22 = .ok (.iconst 0, 1) := by decide +kernel
theorem dX8_phaseOf_23 : decode cX8_phaseOf 23 = .ok (.goto 4, 3) := by decide +kernel
theorem dX8_phaseOf_26 : decode cX8_phaseOf 26 = .ok (.iconst 2, 1) := by decide +kernel
theorem dX8_phaseOf_27 : decode cX8_phaseOf 27 = .ok (.putfield 42, 3) := by decide +kernel
theorem dX8_phaseOf_30 : decode cX8_phaseOf 30 = .ok (.aload_n 0, 1) := by decide +kernel
theorem dX8_phaseOf_31 : decode cX8_phaseOf 31 = .ok (.getfield 42, 3) := by decide +kernel
theorem dX8_phaseOf_34 : decode cX8_phaseOf 34 = .ok (.ifCond .eq 5, 3) := by decide +kernel
theorem dX8_phaseOf_37 : decode cX8_phaseOf 37 = .ok (.iconst 0, 1) := by decide +kernel
theorem dX8_phaseOf_38 : decode cX8_phaseOf 38 = .ok (.ireturn, 1) := by decide +kernel
theorem dX8_phaseOf_39 : decode cX8_phaseOf 39 = .ok (.aload_n 0, 1) := by decide +kernel
theorem dX8_phaseOf_40 : decode cX8_phaseOf 40 = .ok (.invokevirtual 147, 3) := by decide +kernel
theorem dX8_phaseOf_43 : decode cX8_phaseOf 43 = .ok (.aload_n 0, 1) := by decide +kernel
theorem dX8_phaseOf_44 : decode cX8_phaseOf 44 = .ok (.getfield 9, 3) := by decide +kernel
theorem dX8_phaseOf_47 : decode cX8_phaseOf 47 = .ok (.iconst 0, 1) := by decide +kernel
theorem dX8_phaseOf_48 : decode cX8_phaseOf 48 = .ok (.iaload, 1) := by decide +kernel
theorem dX8_phaseOf_49 : decode cX8_phaseOf 49 = .ok (.iload_n 1, 1) := by decide +kernel
theorem dX8_phaseOf_50 : decode cX8_phaseOf 50 = .ok (.isub, 1) := by decide +kernel
theorem dX8_phaseOf_51 : decode cX8_phaseOf 51 = .ok (.istore_n 3, 1) := by decide +kernel
theorem dX8_phaseOf_52 : decode cX8_phaseOf 52 = .ok (.iload_n 2, 1) := by decide +kernel
theorem dX8_phaseOf_53 : decode cX8_phaseOf 53 = .ok (.tableswitch 74 0 3 #[31, 38, 40, 57], 31) := by decide +kernel
theorem dX8_phaseOf_84 : decode cX8_phaseOf 84 = .ok (.aload_n 0, 1) := by decide +kernel
theorem dX8_phaseOf_85 : decode cX8_phaseOf 85 = .ok (.getfield 19, 3) := by decide +kernel
theorem dX8_phaseOf_88 : decode cX8_phaseOf 88 = .ok (.iload_n 1, 1) := by decide +kernel
theorem dX8_phaseOf_89 : decode cX8_phaseOf 89 = .ok (.iaload, 1) := by decide +kernel
theorem dX8_phaseOf_90 : decode cX8_phaseOf 90 = .ok (.ireturn, 1) := by decide +kernel
theorem dX8_phaseOf_91 : decode cX8_phaseOf 91 = .ok (.iload_n 3, 1) := by decide +kernel
theorem dX8_phaseOf_92 : decode cX8_phaseOf 92 = .ok (.ireturn, 1) := by decide +kernel
theorem dX8_phaseOf_93 : decode cX8_phaseOf 93 = .ok (.aload_n 0, 1) := by decide +kernel
theorem dX8_phaseOf_94 : decode cX8_phaseOf 94 = .ok (.getfield 13, 3) := by decide +kernel
theorem dX8_phaseOf_97 : decode cX8_phaseOf 97 = .ok (.bipush 9, 2) := by decide +kernel
theorem dX8_phaseOf_99 : decode cX8_phaseOf 99 = .ok (.iload_n 1, 1) := by decide +kernel
theorem dX8_phaseOf_100 : decode cX8_phaseOf 100 = .ok (.imul, 1) := by decide +kernel
theorem dX8_phaseOf_101 : decode cX8_phaseOf 101 = .ok (.iload_n 3, 1) := by decide +kernel
theorem dX8_phaseOf_102 : decode cX8_phaseOf 102 = .ok (.iadd, 1) := by decide +kernel
theorem dX8_phaseOf_103 : decode cX8_phaseOf 103 = .ok (.iconst 1, 1) := by decide +kernel
theorem dX8_phaseOf_104 : decode cX8_phaseOf 104 = .ok (.isub, 1) := by decide +kernel
theorem dX8_phaseOf_105 : decode cX8_phaseOf 105 = .ok (.iaload, 1) := by decide +kernel
theorem dX8_phaseOf_106 : decode cX8_phaseOf 106 = .ok (.invokestatic 156, 3) := by decide +kernel
theorem dX8_phaseOf_109 : decode cX8_phaseOf 109 = .ok (.ireturn, 1) := by decide +kernel
theorem dX8_phaseOf_110 : decode cX8_phaseOf 110 = .ok (.aload_n 0, 1) := by decide +kernel
theorem dX8_phaseOf_111 : decode cX8_phaseOf 111 = .ok (.getfield 13, 3) := by decide +kernel
theorem dX8_phaseOf_114 : decode cX8_phaseOf 114 = .ok (.bipush 9, 2) := by decide +kernel
theorem dX8_phaseOf_116 : decode cX8_phaseOf 116 = .ok (.iload_n 1, 1) := by decide +kernel
theorem dX8_phaseOf_117 : decode cX8_phaseOf 117 = .ok (.imul, 1) := by decide +kernel
theorem dX8_phaseOf_118 : decode cX8_phaseOf 118 = .ok (.iload_n 3, 1) := by decide +kernel
theorem dX8_phaseOf_119 : decode cX8_phaseOf 119 = .ok (.iadd, 1) := by decide +kernel
theorem dX8_phaseOf_120 : decode cX8_phaseOf 120 = .ok (.iconst 2, 1) := by decide +kernel
theorem dX8_phaseOf_121 : decode cX8_phaseOf 121 = .ok (.isub, 1) := by decide +kernel
theorem dX8_phaseOf_122 : decode cX8_phaseOf 122 = .ok (.iaload, 1) := by decide +kernel
theorem dX8_phaseOf_123 : decode cX8_phaseOf 123 = .ok (.invokestatic 156, 3) := by decide +kernel
theorem dX8_phaseOf_126 : decode cX8_phaseOf 126 = .ok (.ireturn, 1) := by decide +kernel
theorem dX8_phaseOf_127 : decode cX8_phaseOf 127 = .ok (.aload_n 0, 1) := by decide +kernel
theorem dX8_phaseOf_128 : decode cX8_phaseOf 128 = .ok (.getfield 13, 3) := by decide +kernel
theorem dX8_phaseOf_131 : decode cX8_phaseOf 131 = .ok (.bipush 9, 2) := by decide +kernel
theorem dX8_phaseOf_133 : decode cX8_phaseOf 133 = .ok (.iload_n 1, 1) := by decide +kernel
theorem dX8_phaseOf_134 : decode cX8_phaseOf 134 = .ok (.imul, 1) := by decide +kernel
theorem dX8_phaseOf_135 : decode cX8_phaseOf 135 = .ok (.iload_n 3, 1) := by decide +kernel
theorem dX8_phaseOf_136 : decode cX8_phaseOf 136 = .ok (.iadd, 1) := by decide +kernel
theorem dX8_phaseOf_137 : decode cX8_phaseOf 137 = .ok (.iconst 1, 1) := by decide +kernel
theorem dX8_phaseOf_138 : decode cX8_phaseOf 138 = .ok (.isub, 1) := by decide +kernel
theorem dX8_phaseOf_139 : decode cX8_phaseOf 139 = .ok (.iaload, 1) := by decide +kernel
theorem dX8_phaseOf_140 : decode cX8_phaseOf 140 = .ok (.ireturn, 1) := by decide +kernel
theorem dX8_isPlace_0 : decode cX8_isPlace 0 = .ok (.aload_n 0, 1) := by decide +kernel
theorem dX8_isPlace_1 : decode cX8_isPlace 1 = .ok (.aload_n 0, 1) := by decide +kernel
theorem dX8_isPlace_2 : decode cX8_isPlace 2 = .ok (.iload_n 1, 1) := by decide +kernel
theorem dX8_isPlace_3 : decode cX8_isPlace 3 = .ok (.invokevirtual 169, 3) := by decide +kernel
theorem dX8_isPlace_6 : decode cX8_isPlace 6 = .ok (.ifCond .ne 7, 3) := by decide +kernel
theorem dX8_isPlace_9 : decode cX8_isPlace 9 = .ok (.iconst 1, 1) := by decide +kernel
theorem dX8_isPlace_10 : decode cX8_isPlace 10 = .ok (.goto 26, 3) := by decide +kernel
theorem dX8_isPlace_13 : decode cX8_isPlace 13 = .ok (.iload_n 2, 1) := by decide +kernel
theorem dX8_isPlace_14 : decode cX8_isPlace 14 = .ok (.iconst 0, 1) := by decide +kernel
theorem dX8_isPlace_15 : decode cX8_isPlace 15 = .ok (.aload_n 0, 1) := by decide +kernel
theorem dX8_isPlace_16 : decode cX8_isPlace 16 = .ok (.getfield 9, 3) := by decide +kernel
theorem dX8_isPlace_19 : decode cX8_isPlace 19 = .ok (.iconst 0, 1) := by decide +kernel
theorem dX8_isPlace_20 : decode cX8_isPlace 20 = .ok (.iaload, 1) := by decide +kernel
theorem dX8_isPlace_21 : decode cX8_isPlace 21 = .ok (.iload_n 1, 1) := by decide +kernel
theorem dX8_isPlace_22 : decode cX8_isPlace 22 = .ok (.isub, 1) := by decide +kernel
theorem dX8_isPlace_23 : decode cX8_isPlace 23 = .ok (.iconst 1, 1) := by decide +kernel
theorem dX8_isPlace_24 : decode cX8_isPlace 24 = .ok (.isub, 1) := by decide +kernel
theorem dX8_isPlace_25 : decode cX8_isPlace 25 = .ok (.invokestatic 64, 3) := by decide +kernel
theorem dX8_isPlace_28 : decode cX8_isPlace 28 = .ok (.ifCond .eq 7, 3) := by decide +kernel
theorem dX8_isPlace_31 : decode cX8_isPlace 31 = .ok (.iconst 0, 1) := by decide +kernel
theorem dX8_isPlace_32 : decode cX8_isPlace 32 = .ok (.goto 4, 3) := by decide +kernel
theorem dX8_isPlace_35 : decode cX8_isPlace 35 = .ok (.iconst 2, 1) := by decide +kernel
theorem dX8_isPlace_36 : decode cX8_isPlace 36 = .ok (.putfield 42, 3) := by decide +kernel
theorem dX8_isPlace_39 : decode cX8_isPlace 39 = .ok (.aload_n 0, 1) := by decide +kernel
theorem dX8_isPlace_40 : decode cX8_isPlace 40 = .ok (.invokevirtual 147, 3) := by decide +kernel
theorem dX8_isPlace_43 : decode cX8_isPlace 43 = .ok (.aload_n 0, 1) := by decide +kernel
theorem dX8_isPlace_44 : decode cX8_isPlace 44 = .ok (.getfield 42, 3) := by decide +kernel
theorem dX8_isPlace_47 : decode cX8_isPlace 47 = .ok (.ifCond .ne 7, 3) := by decide +kernel
theorem dX8_isPlace_50 : decode cX8_isPlace 50 = .ok (.iconst 1, 1) := by decide +kernel
theorem dX8_isPlace_51 : decode cX8_isPlace 51 = .ok (.goto 4, 3) := by decide +kernel
theorem dX8_isPlace_54 : decode cX8_isPlace 54 = .ok (.iconst 0, 1) := by decide +kernel
theorem dX8_isPlace_55 : decode cX8_isPlace 55 = .ok (.ireturn, 1) := by decide +kernel
theorem dX8_joined_0 : decode cX8_joined 0 = .ok (.aload_n 0, 1) := by decide +kernel
theorem dX8_joined_1 : decode cX8_joined 1 = .ok (.iload_n 1, 1) := by decide +kernel
theorem dX8_joined_2 : decode cX8_joined 2 = .ok (.iload_n 2, 1) := by decide +kernel
theorem dX8_joined_3 : decode cX8_joined 3 = .ok (.invokevirtual 172, 3) := by decide +kernel
theorem dX8_joined_6 : decode cX8_joined 6 = .ok (.ifCond .eq 20, 3) := by decide +kernel
theorem dX8_joined_9 : decode cX8_joined 9 = .ok (.aload_n 0, 1) := by decide +kernel
theorem dX8_joined_10 : decode cX8_joined 10 = .ok (.getfield 13, 3) := by decide +kernel
theorem dX8_joined_13 : decode cX8_joined 13 = .ok (.bipush 9, 2) := by decide +kernel
theorem dX8_joined_15 : decode cX8_joined 15 = .ok (.iload_n 1, 1) := by decide +kernel
theorem dX8_joined_16 : decode cX8_joined 16 = .ok (.imul, 1) := by decide +kernel
theorem dX8_joined_17 : decode cX8_joined 17 = .ok (.iload_n 2, 1) := by decide +kernel
theorem dX8_joined_18 : decode cX8_joined 18 = .ok (.iadd, 1) := by decide +kernel
theorem dX8_joined_19 : decode cX8_joined 19 = .ok (.iaload, 1) := by decide +kernel
theorem dX8_joined_20 : decode cX8_joined 20 = .ok (.invokestatic 156, 3) := by decide +kernel
theorem dX8_joined_23 : decode cX8_joined 23 = .ok (.goto 4, 3) := by decide +kernel
theorem dX8_joined_26 : decode cX8_joined 26 = .ok (.iconst 0, 1) := by decide +kernel
theorem dX8_joined_27 : decode cX8_joined 27 = .ok (.ireturn, 1) := by decide +kernel
theorem dX8_tieAt_0 : decode cX8_tieAt 0 = .ok (.aload_n 0, 1) := by decide +kernel
theorem dX8_tieAt_1 : decode cX8_tieAt 1 = .ok (.iload_n 1, 1) := by decide +kernel
theorem dX8_tieAt_2 : decode cX8_tieAt 2 = .ok (.iload_n 2, 1) := by decide +kernel
theorem dX8_tieAt_3 : decode cX8_tieAt 3 = .ok (.invokevirtual 172, 3) := by decide +kernel
theorem dX8_tieAt_6 : decode cX8_tieAt 6 = .ok (.ifCond .eq 17, 3) := by decide +kernel
theorem dX8_tieAt_9 : decode cX8_tieAt 9 = .ok (.aload_n 0, 1) := by decide +kernel
theorem dX8_tieAt_10 : decode cX8_tieAt 10 = .ok (.getfield 16, 3) := by decide +kernel
theorem dX8_tieAt_13 : decode cX8_tieAt 13 = .ok (.bipush 9, 2) := by decide +kernel
theorem dX8_tieAt_15 : decode cX8_tieAt 15 = .ok (.iload_n 1, 1) := by decide +kernel
theorem dX8_tieAt_16 : decode cX8_tieAt 16 = .ok (.imul, 1) := by decide +kernel
theorem dX8_tieAt_17 : decode cX8_tieAt 17 = .ok (.iload_n 2, 1) := by decide +kernel
theorem dX8_tieAt_18 : decode cX8_tieAt 18 = .ok (.iadd, 1) := by decide +kernel
theorem dX8_tieAt_19 : decode cX8_tieAt 19 = .ok (.iaload, 1) := by decide +kernel
theorem dX8_tieAt_20 : decode cX8_tieAt 20 = .ok (.goto 4, 3) := by decide +kernel
theorem dX8_tieAt_23 : decode cX8_tieAt 23 = .ok (.iconst 0, 1) := by decide +kernel
theorem dX8_tieAt_24 : decode cX8_tieAt 24 = .ok (.ireturn, 1) := by decide +kernel
theorem dX8_areTwo_0 : decode cX8_areTwo 0 = .ok (.aload_n 0, 1) := by decide +kernel
theorem dX8_areTwo_1 : decode cX8_areTwo 1 = .ok (.aload_n 0, 1) := by decide +kernel
theorem dX8_areTwo_2 : decode cX8_areTwo 2 = .ok (.getfield 9, 3) := by decide +kernel
theorem dX8_areTwo_5 : decode cX8_areTwo 5 = .ok (.iconst 0, 1) := by decide +kernel
theorem dX8_areTwo_6 : decode cX8_areTwo 6 = .ok (.iaload, 1) := by decide +kernel
theorem dX8_areTwo_7 : decode cX8_areTwo 7 = .ok (.iconst 1, 1) := by decide +kernel
theorem dX8_areTwo_8 : decode cX8_areTwo 8 = .ok (.if_icmp .le 7, 3) := by decide +kernel
theorem dX8_areTwo_11 : decode cX8_areTwo 11 = .ok (.iconst 1, 1) := by decide +kernel
theorem dX8_areTwo_12 : decode cX8_areTwo 12 = .ok (.goto 4, 3) := by decide +kernel
theorem dX8_areTwo_15 : decode cX8_areTwo 15 = .ok (.iconst 0, 1) := by decide +kernel
theorem dX8_areTwo_16 : decode cX8_areTwo 16 = .ok (.invokevirtual 175, 3) := by decide +kernel
theorem dX8_areTwo_19 : decode cX8_areTwo 19 = .ok (.ireturn, 1) := by decide +kernel
theorem dX8_least_0 : decode cX8_least 0 = .ok (.aload_n 0, 1) := by decide +kernel
theorem dX8_least_1 : decode cX8_least 1 = .ok (.invokevirtual 179, 3) := by decide +kernel
theorem dX8_least_4 : decode cX8_least 4 = .ok (.ifCond .eq 10, 3) := by decide +kernel
theorem dX8_least_7 : decode cX8_least 7 = .ok (.aload_n 0, 1) := by decide +kernel
theorem dX8_least_8 : decode cX8_least 8 = .ok (.invokevirtual 182, 3) := by decide +kernel
theorem dX8_least_11 : decode cX8_least 11 = .ok (.goto 4, 3) := by decide +kernel
theorem dX8_least_14 : decode cX8_least 14 = .ok (.iconst 0, 1) := by decide +kernel
theorem dX8_least_15 : decode cX8_least 15 = .ok (.ireturn, 1) := by decide +kernel
theorem dX8_leastAgain_0 : decode cX8_leastAgain 0 = .ok (.aload_n 0, 1) := by decide +kernel
theorem dX8_leastAgain_1 : decode cX8_leastAgain 1 = .ok (.invokevirtual 185, 3) := by decide +kernel
theorem dX8_leastAgain_4 : decode cX8_leastAgain 4 = .ok (.ireturn, 1) := by decide +kernel
theorem dX8_met_0 : decode cX8_met 0 = .ok (.aload_n 0, 1) := by decide +kernel
theorem dX8_met_1 : decode cX8_met 1 = .ok (.invokevirtual 179, 3) := by decide +kernel
theorem dX8_met_4 : decode cX8_met 4 = .ok (.ifCond .ne 5, 3) := by decide +kernel
theorem dX8_met_7 : decode cX8_met 7 = .ok (.iconst 0, 1) := by decide +kernel
theorem dX8_met_8 : decode cX8_met 8 = .ok (.ireturn, 1) := by decide +kernel
theorem dX8_met_9 : decode cX8_met 9 = .ok (.aload_n 0, 1) := by decide +kernel
theorem dX8_met_10 : decode cX8_met 10 = .ok (.invokevirtual 147, 3) := by decide +kernel
theorem dX8_met_13 : decode cX8_met 13 = .ok (.aload_n 0, 1) := by decide +kernel
theorem dX8_met_14 : decode cX8_met 14 = .ok (.getfield 150, 3) := by decide +kernel
theorem dX8_met_17 : decode cX8_met 17 = .ok (.ireturn, 1) := by decide +kernel
theorem dX8_leastSides_0 : decode cX8_leastSides 0 = .ok (.aload_n 0, 1) := by decide +kernel
theorem dX8_leastSides_1 : decode cX8_leastSides 1 = .ok (.invokevirtual 179, 3) := by decide +kernel
theorem dX8_leastSides_4 : decode cX8_leastSides 4 = .ok (.ifCond .ne 5, 3) := by decide +kernel
theorem dX8_leastSides_7 : decode cX8_leastSides 7 = .ok (.iconst 0, 1) := by decide +kernel
theorem dX8_leastSides_8 : decode cX8_leastSides 8 = .ok (.ireturn, 1) := by decide +kernel
theorem dX8_leastSides_9 : decode cX8_leastSides 9 = .ok (.aload_n 0, 1) := by decide +kernel
theorem dX8_leastSides_10 : decode cX8_leastSides 10 = .ok (.invokevirtual 182, 3) := by decide +kernel
theorem dX8_leastSides_13 : decode cX8_leastSides 13 = .ok (.istore_n 1, 1) := by decide +kernel
theorem dX8_leastSides_14 : decode cX8_leastSides 14 = .ok (.iconst 0, 1) := by decide +kernel
theorem dX8_leastSides_15 : decode cX8_leastSides 15 = .ok (.istore_n 2, 1) := by decide +kernel
theorem dX8_leastSides_16 : decode cX8_leastSides 16 = .ok (.iconst 2, 1) := by decide +kernel
theorem dX8_leastSides_17 : decode cX8_leastSides 17 = .ok (.istore_n 3, 1) := by decide +kernel
theorem dX8_leastSides_18 : decode cX8_leastSides 18 = .ok (.iload_n 3, 1) := by decide +kernel
theorem dX8_leastSides_19 : decode cX8_leastSides 19 = .ok (.aload_n 0, 1) := by decide +kernel
theorem dX8_leastSides_20 : decode cX8_leastSides 20 = .ok (.invokevirtual 90, 3) := by decide +kernel
theorem dX8_leastSides_23 : decode cX8_leastSides 23 = .ok (.if_icmp .gt 26, 3) := by decide +kernel
theorem dX8_leastSides_26 : decode cX8_leastSides 26 = .ok (.iload_n 2, 1) := by decide +kernel
theorem dX8_leastSides_27 : decode cX8_leastSides 27 = .ok (.aload_n 0, 1) := by decide +kernel
theorem dX8_leastSides_28 : decode cX8_leastSides 28 = .ok (.iload_n 3, 1) := by decide +kernel
theorem dX8_leastSides_29 : decode cX8_leastSides 29 = .ok (.invokevirtual 141, 3) := by decide +kernel
theorem dX8_leastSides_32 : decode cX8_leastSides 32 = .ok (.iload_n 1, 1) := by decide +kernel
theorem dX8_leastSides_33 : decode cX8_leastSides 33 = .ok (.if_icmp .ne 7, 3) := by decide +kernel
theorem dX8_leastSides_36 : decode cX8_leastSides 36 = .ok (.iconst 1, 1) := by decide +kernel
theorem dX8_leastSides_37 : decode cX8_leastSides 37 = .ok (.goto 4, 3) := by decide +kernel
theorem dX8_leastSides_40 : decode cX8_leastSides 40 = .ok (.iconst 0, 1) := by decide +kernel
theorem dX8_leastSides_41 : decode cX8_leastSides 41 = .ok (.iadd, 1) := by decide +kernel
theorem dX8_leastSides_42 : decode cX8_leastSides 42 = .ok (.istore_n 2, 1) := by decide +kernel
theorem dX8_leastSides_43 : decode cX8_leastSides 43 = .ok (.iinc 3 2, 3) := by decide +kernel
theorem dX8_leastSides_46 : decode cX8_leastSides 46 = .ok (.goto (-28), 3) := by decide +kernel
theorem dX8_leastSides_49 : decode cX8_leastSides 49 = .ok (.iload_n 2, 1) := by decide +kernel
theorem dX8_leastSides_50 : decode cX8_leastSides 50 = .ok (.ireturn, 1) := by decide +kernel
theorem dX8_betweenOf_0 : decode cX8_betweenOf 0 = .ok (.ldc 159, 2) := by decide +kernel
theorem dX8_betweenOf_2 : decode cX8_betweenOf 2 = .ok (.istore_n 3, 1) := by decide +kernel
theorem dX8_betweenOf_3 : decode cX8_betweenOf 3 = .ok (.iconst 0, 1) := by decide +kernel
theorem dX8_betweenOf_4 : decode cX8_betweenOf 4 = .ok (.istore 4, 2) := by decide +kernel
theorem dX8_betweenOf_6 : decode cX8_betweenOf 6 = .ok (.iload 4, 2) := by decide +kernel
theorem dX8_betweenOf_8 : decode cX8_betweenOf 8 = .ok (.aload_n 0, 1) := by decide +kernel
theorem dX8_betweenOf_9 : decode cX8_betweenOf 9 = .ok (.invokevirtual 90, 3) := by decide +kernel
theorem dX8_betweenOf_12 : decode cX8_betweenOf 12 = .ok (.if_icmp .gt 53, 3) := by decide +kernel
theorem dX8_betweenOf_15 : decode cX8_betweenOf 15 = .ok (.iload 4, 2) := by decide +kernel
theorem dX8_betweenOf_17 : decode cX8_betweenOf 17 = .ok (.iload_n 1, 1) := by decide +kernel
theorem dX8_betweenOf_18 : decode cX8_betweenOf 18 = .ok (.invokestatic 82, 3) := by decide +kernel
theorem dX8_betweenOf_21 : decode cX8_betweenOf 21 = .ok (.ifCond .eq 21, 3) := by decide +kernel
theorem dX8_betweenOf_24 : decode cX8_betweenOf 24 = .ok (.iload 4, 2) := by decide +kernel
theorem dX8_betweenOf_26 : decode cX8_betweenOf 26 = .ok (.iload_n 2, 1) := by decide +kernel
theorem dX8_betweenOf_27 : decode cX8_betweenOf 27 = .ok (.invokestatic 82, 3) := by decide +kernel
theorem dX8_betweenOf_30 : decode cX8_betweenOf 30 = .ok (.ifCond .ne 12, 3) := by decide +kernel
theorem dX8_betweenOf_33 : decode cX8_betweenOf 33 = .ok (.aload_n 0, 1) := by decide +kernel
theorem dX8_betweenOf_34 : decode cX8_betweenOf 34 = .ok (.iload 4, 2) := by decide +kernel
theorem dX8_betweenOf_36 : decode cX8_betweenOf 36 = .ok (.invokevirtual 141, 3) := by decide +kernel
theorem dX8_betweenOf_39 : decode cX8_betweenOf 39 = .ok (.goto 5, 3) := by decide +kernel
theorem dX8_betweenOf_42 : decode cX8_betweenOf 42 = .ok (.ldc 159, 2) := by decide +kernel
theorem dX8_betweenOf_44 : decode cX8_betweenOf 44 = .ok (.istore 5, 2) := by decide +kernel
theorem dX8_betweenOf_46 : decode cX8_betweenOf 46 = .ok (.iload 5, 2) := by decide +kernel
theorem dX8_betweenOf_48 : decode cX8_betweenOf 48 = .ok (.iload_n 3, 1) := by decide +kernel
theorem dX8_betweenOf_49 : decode cX8_betweenOf 49 = .ok (.if_icmp .ge 8, 3) := by decide +kernel
theorem dX8_betweenOf_52 : decode cX8_betweenOf 52 = .ok (.iload 5, 2) := by decide +kernel
theorem dX8_betweenOf_54 : decode cX8_betweenOf 54 = .ok (.goto 4, 3) := by decide +kernel
theorem dX8_betweenOf_57 : decode cX8_betweenOf 57 = .ok (.iload_n 3, 1) := by decide +kernel
theorem dX8_betweenOf_58 : decode cX8_betweenOf 58 = .ok (.istore_n 3, 1) := by decide +kernel
theorem dX8_betweenOf_59 : decode cX8_betweenOf 59 = .ok (.iinc 4 1, 3) := by decide +kernel
theorem dX8_betweenOf_62 : decode cX8_betweenOf 62 = .ok (.goto (-56), 3) := by decide +kernel
theorem dX8_betweenOf_65 : decode cX8_betweenOf 65 = .ok (.iload_n 3, 1) := by decide +kernel
theorem dX8_betweenOf_66 : decode cX8_betweenOf 66 = .ok (.ireturn, 1) := by decide +kernel
theorem dX8_between_0 : decode cX8_between 0 = .ok (.aload_n 0, 1) := by decide +kernel
theorem dX8_between_1 : decode cX8_between 1 = .ok (.aload_n 0, 1) := by decide +kernel
theorem dX8_between_2 : decode cX8_between 2 = .ok (.iload_n 1, 1) := by decide +kernel
theorem dX8_between_3 : decode cX8_between 3 = .ok (.invokevirtual 71, 3) := by decide +kernel
theorem dX8_between_6 : decode cX8_between 6 = .ok (.ifCond .eq 11, 3) := by decide +kernel
theorem dX8_between_9 : decode cX8_between 9 = .ok (.aload_n 0, 1) := by decide +kernel
theorem dX8_between_10 : decode cX8_between 10 = .ok (.iload_n 2, 1) := by decide +kernel
theorem dX8_between_11 : decode cX8_between 11 = .ok (.invokevirtual 71, 3) := by decide +kernel
theorem dX8_between_14 : decode cX8_between 14 = .ok (.ifCond .ne 7, 3) := by decide +kernel
theorem dX8_between_17 : decode cX8_between 17 = .ok (.iconst 1, 1) := by decide +kernel
theorem dX8_between_18 : decode cX8_between 18 = .ok (.goto 13, 3) := by decide +kernel
theorem dX8_between_21 : decode cX8_between 21 = .ok (.iload_n 1, 1) := by decide +kernel
theorem dX8_between_22 : decode cX8_between 22 = .ok (.iload_n 2, 1) := by decide +kernel
theorem dX8_between_23 : decode cX8_between 23 = .ok (.if_icmp .ne 7, 3) := by decide +kernel
theorem dX8_between_26 : decode cX8_between 26 = .ok (.iconst 2, 1) := by decide +kernel
theorem dX8_between_27 : decode cX8_between 27 = .ok (.goto 4, 3) := by decide +kernel
theorem dX8_between_30 : decode cX8_between 30 = .ok (.iconst 0, 1) := by decide +kernel
theorem dX8_between_31 : decode cX8_between 31 = .ok (.putfield 42, 3) := by decide +kernel
theorem dX8_between_34 : decode cX8_between 34 = .ok (.aload_n 0, 1) := by decide +kernel
theorem dX8_between_35 : decode cX8_between 35 = .ok (.getfield 42, 3) := by decide +kernel
theorem dX8_between_38 : decode cX8_between 38 = .ok (.ifCond .ne 12, 3) := by decide +kernel
theorem dX8_between_41 : decode cX8_between 41 = .ok (.aload_n 0, 1) := by decide +kernel
theorem dX8_between_42 : decode cX8_between 42 = .ok (.iload_n 1, 1) := by decide +kernel
theorem dX8_between_43 : decode cX8_between 43 = .ok (.iload_n 2, 1) := by decide +kernel
theorem dX8_between_44 : decode cX8_between 44 = .ok (.invokevirtual 188, 3) := by decide +kernel
theorem dX8_between_47 : decode cX8_between 47 = .ok (.goto 4, 3) := by decide +kernel
theorem dX8_between_50 : decode cX8_between 50 = .ok (.iconst 0, 1) := by decide +kernel
theorem dX8_between_51 : decode cX8_between 51 = .ok (.ireturn, 1) := by decide +kernel
theorem dX8_betweenAgain_0 : decode cX8_betweenAgain 0 = .ok (.aload_n 0, 1) := by decide +kernel
theorem dX8_betweenAgain_1 : decode cX8_betweenAgain 1 = .ok (.iload_n 1, 1) := by decide +kernel
theorem dX8_betweenAgain_2 : decode cX8_betweenAgain 2 = .ok (.iload_n 2, 1) := by decide +kernel
theorem dX8_betweenAgain_3 : decode cX8_betweenAgain 3 = .ok (.invokevirtual 191, 3) := by decide +kernel
theorem dX8_betweenAgain_6 : decode cX8_betweenAgain 6 = .ok (.ireturn, 1) := by decide +kernel
theorem dX8_weight_0 : decode cX8_weight 0 = .ok (.aload_n 0, 1) := by decide +kernel
theorem dX8_weight_1 : decode cX8_weight 1 = .ok (.aload_n 0, 1) := by decide +kernel
theorem dX8_weight_2 : decode cX8_weight 2 = .ok (.iload_n 1, 1) := by decide +kernel
theorem dX8_weight_3 : decode cX8_weight 3 = .ok (.invokevirtual 71, 3) := by decide +kernel
theorem dX8_weight_6 : decode cX8_weight 6 = .ok (.ifCond .eq 15, 3) := by decide +kernel
theorem dX8_weight_9 : decode cX8_weight 9 = .ok (.aload_n 0, 1) := by decide +kernel
theorem dX8_weight_10 : decode cX8_weight 10 = .ok (.iload_n 2, 1) := by decide +kernel
theorem dX8_weight_11 : decode cX8_weight 11 = .ok (.invokevirtual 71, 3) := by decide +kernel
theorem dX8_weight_14 : decode cX8_weight 14 = .ok (.ifCond .eq 7, 3) := by decide +kernel
theorem dX8_weight_17 : decode cX8_weight 17 = .ok (.iconst 1, 1) := by decide +kernel
theorem dX8_weight_18 : decode cX8_weight 18 = .ok (.goto 4, 3) := by decide +kernel
theorem dX8_weight_21 : decode cX8_weight 21 = .ok (.iconst 0, 1) := by decide +kernel
theorem dX8_weight_22 : decode cX8_weight 22 = .ok (.invokevirtual 175, 3) := by decide +kernel
theorem dX8_weight_25 : decode cX8_weight 25 = .ok (.ifCond .eq 12, 3) := by decide +kernel
theorem dX8_weight_28 : decode cX8_weight 28 = .ok (.aload_n 0, 1) := by decide +kernel
theorem dX8_weight_29 : decode cX8_weight 29 = .ok (.iload_n 1, 1) := by decide +kernel
theorem dX8_weight_30 : decode cX8_weight 30 = .ok (.iload_n 2, 1) := by decide +kernel
theorem dX8_weight_31 : decode cX8_weight 31 = .ok (.invokevirtual 86, 3) := by decide +kernel
theorem dX8_weight_34 : decode cX8_weight 34 = .ok (.goto 4, 3) := by decide +kernel
theorem dX8_weight_37 : decode cX8_weight 37 = .ok (.iconst 0, 1) := by decide +kernel
theorem dX8_weight_38 : decode cX8_weight 38 = .ok (.ireturn, 1) := by decide +kernel
theorem dX8_tiedMost_0 : decode cX8_tiedMost 0 = .ok (.iconst (-1), 1) := by decide +kernel
theorem dX8_tiedMost_1 : decode cX8_tiedMost 1 = .ok (.istore_n 2, 1) := by decide +kernel
theorem dX8_tiedMost_2 : decode cX8_tiedMost 2 = .ok (.iconst 0, 1) := by decide +kernel
theorem dX8_tiedMost_3 : decode cX8_tiedMost 3 = .ok (.istore_n 3, 1) := by decide +kernel
theorem dX8_tiedMost_4 : decode cX8_tiedMost 4 = .ok (.iload_n 3, 1) := by decide +kernel
theorem dX8_tiedMost_5 : decode cX8_tiedMost 5 = .ok (.aload_n 0, 1) := by decide +kernel
theorem dX8_tiedMost_6 : decode cX8_tiedMost 6 = .ok (.getfield 9, 3) := by decide +kernel
theorem dX8_tiedMost_9 : decode cX8_tiedMost 9 = .ok (.iconst 0, 1) := by decide +kernel
theorem dX8_tiedMost_10 : decode cX8_tiedMost 10 = .ok (.iaload, 1) := by decide +kernel
theorem dX8_tiedMost_11 : decode cX8_tiedMost 11 = .ok (.if_icmp .ge 39, 3) := by decide +kernel
theorem dX8_tiedMost_14 : decode cX8_tiedMost 14 = .ok (.aload_n 0, 1) := by decide +kernel
theorem dX8_tiedMost_15 : decode cX8_tiedMost 15 = .ok (.iload_n 1, 1) := by decide +kernel
theorem dX8_tiedMost_16 : decode cX8_tiedMost 16 = .ok (.iload_n 3, 1) := by decide +kernel
theorem dX8_tiedMost_17 : decode cX8_tiedMost 17 = .ok (.invokevirtual 86, 3) := by decide +kernel
theorem dX8_tiedMost_20 : decode cX8_tiedMost 20 = .ok (.iload_n 2, 1) := by decide +kernel
theorem dX8_tiedMost_21 : decode cX8_tiedMost 21 = .ok (.iconst (-1), 1) := by decide +kernel
theorem dX8_tiedMost_22 : decode cX8_tiedMost 22 = .ok (.if_icmp .ne 7, 3) := by decide +kernel
theorem dX8_tiedMost_25 : decode cX8_tiedMost 25 = .ok (.iconst 0, 1) := by decide +kernel
theorem dX8_tiedMost_26 : decode cX8_tiedMost 26 = .ok (.goto 9, 3) := by decide +kernel
theorem dX8_tiedMost_29 : decode cX8_tiedMost 29 = .ok (.aload_n 0, 1) := by decide +kernel
theorem dX8_tiedMost_30 : decode cX8_tiedMost 30 = .ok (.iload_n 1, 1) := by decide +kernel
theorem dX8_tiedMost_31 : decode cX8_tiedMost 31 = .ok (.iload_n 2, 1) := by decide +kernel
theorem dX8_tiedMost_32 : decode cX8_tiedMost 32 = .ok (.invokevirtual 86, 3) := by decide +kernel
theorem dX8_tiedMost_35 : decode cX8_tiedMost 35 = .ok (.if_icmp .le 7, 3) := by decide +kernel
theorem dX8_tiedMost_38 : decode cX8_tiedMost 38 = .ok (.iload_n 3, 1) := by decide +kernel
theorem dX8_tiedMost_39 : decode cX8_tiedMost 39 = .ok (.goto 4, 3) := by decide +kernel
theorem dX8_tiedMost_42 : decode cX8_tiedMost 42 = .ok (.iload_n 2, 1) := by decide +kernel
theorem dX8_tiedMost_43 : decode cX8_tiedMost 43 = .ok (.istore_n 2, 1) := by decide +kernel
theorem dX8_tiedMost_44 : decode cX8_tiedMost 44 = .ok (.iinc 3 1, 3) := by decide +kernel
theorem dX8_tiedMost_47 : decode cX8_tiedMost 47 = .ok (.goto (-43), 3) := by decide +kernel
theorem dX8_tiedMost_50 : decode cX8_tiedMost 50 = .ok (.iload_n 2, 1) := by decide +kernel
theorem dX8_tiedMost_51 : decode cX8_tiedMost 51 = .ok (.ireturn, 1) := by decide +kernel
theorem dX8_onSide_0 : decode cX8_onSide 0 = .ok (.aload_n 0, 1) := by decide +kernel
theorem dX8_onSide_1 : decode cX8_onSide 1 = .ok (.getfield 9, 3) := by decide +kernel
theorem dX8_onSide_4 : decode cX8_onSide 4 = .ok (.iconst 4, 1) := by decide +kernel
theorem dX8_onSide_5 : decode cX8_onSide 5 = .ok (.iload_n 1, 1) := by decide +kernel
theorem dX8_onSide_6 : decode cX8_onSide 6 = .ok (.iadd, 1) := by decide +kernel
theorem dX8_onSide_7 : decode cX8_onSide 7 = .ok (.iaload, 1) := by decide +kernel
theorem dX8_onSide_8 : decode cX8_onSide 8 = .ok (.iload_n 2, 1) := by decide +kernel
theorem dX8_onSide_9 : decode cX8_onSide 9 = .ok (.ifCond .eq 7, 3) := by decide +kernel
theorem dX8_onSide_12 : decode cX8_onSide 12 = .ok (.iconst 0, 1) := by decide +kernel
theorem dX8_onSide_13 : decode cX8_onSide 13 = .ok (.goto 4, 3) := by decide +kernel
theorem dX8_onSide_16 : decode cX8_onSide 16 = .ok (.iconst 1, 1) := by decide +kernel
theorem dX8_onSide_17 : decode cX8_onSide 17 = .ok (.if_icmp .ne 10, 3) := by decide +kernel
theorem dX8_onSide_20 : decode cX8_onSide 20 = .ok (.aload_n 0, 1) := by decide +kernel
theorem dX8_onSide_21 : decode cX8_onSide 21 = .ok (.invokevirtual 138, 3) := by decide +kernel
theorem dX8_onSide_24 : decode cX8_onSide 24 = .ok (.goto 14, 3) := by decide +kernel
theorem dX8_onSide_27 : decode cX8_onSide 27 = .ok (.aload_n 0, 1) := by decide +kernel
theorem dX8_onSide_28 : decode cX8_onSide 28 = .ok (.invokevirtual 90, 3) := by decide +kernel
theorem dX8_onSide_31 : decode cX8_onSide 31 = .ok (.aload_n 0, 1) := by decide +kernel
theorem dX8_onSide_32 : decode cX8_onSide 32 = .ok (.invokevirtual 138, 3) := by decide +kernel
theorem dX8_onSide_35 : decode cX8_onSide 35 = .ok (.iconst (-1), 1) := by decide +kernel
theorem dX8_onSide_36 : decode cX8_onSide 36 = .ok (.ixor, 1) := by decide +kernel
theorem dX8_onSide_37 : decode cX8_onSide 37 = .ok (.iand, 1) := by decide +kernel
theorem dX8_onSide_38 : decode cX8_onSide 38 = .ok (.ireturn, 1) := by decide +kernel
theorem dX8_householdOf_0 : decode cX8_householdOf 0 = .ok (.aload_n 0, 1) := by decide +kernel
theorem dX8_householdOf_1 : decode cX8_householdOf 1 = .ok (.aload_n 0, 1) := by decide +kernel
theorem dX8_householdOf_2 : decode cX8_householdOf 2 = .ok (.iload_n 1, 1) := by decide +kernel
theorem dX8_householdOf_3 : decode cX8_householdOf 3 = .ok (.invokevirtual 71, 3) := by decide +kernel
theorem dX8_householdOf_6 : decode cX8_householdOf 6 = .ok (.ifCond .ne 7, 3) := by decide +kernel
theorem dX8_householdOf_9 : decode cX8_householdOf 9 = .ok (.iconst 1, 1) := by decide +kernel
theorem dX8_householdOf_10 : decode cX8_householdOf 10 = .ok (.goto 17, 3) := by decide +kernel
theorem dX8_householdOf_13 : decode cX8_householdOf 13 = .ok (.iload_n 2, 1) := by decide +kernel
theorem dX8_householdOf_14 : decode cX8_householdOf 14 = .ok (.iconst 0, 1) := by decide +kernel
theorem dX8_householdOf_15 : decode cX8_householdOf 15 = .ok (.iconst 5, 1) := by decide +kernel
theorem dX8_householdOf_16 : decode cX8_householdOf 16 = .ok (.invokestatic 64, 3) := by decide +kernel
theorem dX8_householdOf_19 : decode cX8_householdOf 19 = .ok (.ifCond .eq 7, 3) := by decide +kernel
theorem dX8_householdOf_22 : decode cX8_householdOf 22 = .ok (.iconst 0, 1) := by decide +kernel
theorem dX8_householdOf_23 : decode cX8_householdOf 23 = .ok (.goto 4, 3) := by decide +kernel
theorem dX8_householdOf_26 : decode cX8_householdOf 26 = .ok (.iconst 2, 1) := by decide +kernel
theorem dX8_householdOf_27 : decode cX8_householdOf 27 = .ok (.putfield 42, 3) := by decide +kernel
theorem dX8_householdOf_30 : decode cX8_householdOf 30 = .ok (.aload_n 0, 1) := by decide +kernel
theorem dX8_householdOf_31 : decode cX8_householdOf 31 = .ok (.getfield 42, 3) := by decide +kernel
theorem dX8_householdOf_34 : decode cX8_householdOf 34 = .ok (.ifCond .eq 5, 3) := by decide +kernel
theorem dX8_householdOf_37 : decode cX8_householdOf 37 = .ok (.iconst 0, 1) := by decide +kernel
theorem dX8_householdOf_38 : decode cX8_householdOf 38 = .ok (.ireturn, 1) := by decide +kernel
theorem dX8_householdOf_39 : decode cX8_householdOf 39 = .ok (.iload_n 2, 1) := by decide +kernel
theorem dX8_householdOf_40 : decode cX8_householdOf 40 = .ok (.tableswitch 91 0 4 #[36, 45, 51, 63, 77], 36) := by decide +kernel
theorem dX8_householdOf_76 : decode cX8_householdOf 76 = .ok (.aload_n 0, 1) := by decide +kernel
theorem dX8_householdOf_77 : decode cX8_householdOf 77 = .ok (.getfield 9, 3) := by decide +kernel
theorem dX8_householdOf_80 : decode cX8_householdOf 80 = .ok (.iconst 4, 1) := by decide +kernel
theorem dX8_householdOf_81 : decode cX8_householdOf 81 = .ok (.iload_n 1, 1) := by decide +kernel
theorem dX8_householdOf_82 : decode cX8_householdOf 82 = .ok (.iadd, 1) := by decide +kernel
theorem dX8_householdOf_83 : decode cX8_householdOf 83 = .ok (.iaload, 1) := by decide +kernel
theorem dX8_householdOf_84 : decode cX8_householdOf 84 = .ok (.ireturn, 1) := by decide +kernel
theorem dX8_householdOf_85 : decode cX8_householdOf 85 = .ok (.aload_n 0, 1) := by decide +kernel
theorem dX8_householdOf_86 : decode cX8_householdOf 86 = .ok (.iload_n 1, 1) := by decide +kernel
theorem dX8_householdOf_87 : decode cX8_householdOf 87 = .ok (.invokevirtual 97, 3) := by decide +kernel
theorem dX8_householdOf_90 : decode cX8_householdOf 90 = .ok (.ireturn, 1) := by decide +kernel
theorem dX8_householdOf_91 : decode cX8_householdOf 91 = .ok (.aload_n 0, 1) := by decide +kernel
theorem dX8_householdOf_92 : decode cX8_householdOf 92 = .ok (.iconst 1, 1) := by decide +kernel
theorem dX8_householdOf_93 : decode cX8_householdOf 93 = .ok (.iload_n 1, 1) := by decide +kernel
theorem dX8_householdOf_94 : decode cX8_householdOf 94 = .ok (.ishl, 1) := by decide +kernel
theorem dX8_householdOf_95 : decode cX8_householdOf 95 = .ok (.aload_n 0, 1) := by decide +kernel
theorem dX8_householdOf_96 : decode cX8_householdOf 96 = .ok (.invokevirtual 90, 3) := by decide +kernel
theorem dX8_householdOf_99 : decode cX8_householdOf 99 = .ok (.invokevirtual 94, 3) := by decide +kernel
theorem dX8_householdOf_102 : decode cX8_householdOf 102 = .ok (.ireturn, 1) := by decide +kernel
theorem dX8_householdOf_103 : decode cX8_householdOf 103 = .ok (.aload_n 0, 1) := by decide +kernel
theorem dX8_householdOf_104 : decode cX8_householdOf 104 = .ok (.iconst 1, 1) := by decide +kernel
theorem dX8_householdOf_105 : decode cX8_householdOf 105 = .ok (.iload_n 1, 1) := by decide +kernel
theorem dX8_householdOf_106 : decode cX8_householdOf 106 = .ok (.ishl, 1) := by decide +kernel
theorem dX8_householdOf_107 : decode cX8_householdOf 107 = .ok (.aload_n 0, 1) := by decide +kernel
theorem dX8_householdOf_108 : decode cX8_householdOf 108 = .ok (.iload_n 1, 1) := by decide +kernel
theorem dX8_householdOf_109 : decode cX8_householdOf 109 = .ok (.iconst 0, 1) := by decide +kernel
theorem dX8_householdOf_110 : decode cX8_householdOf 110 = .ok (.invokevirtual 194, 3) := by decide +kernel
theorem dX8_householdOf_113 : decode cX8_householdOf 113 = .ok (.invokevirtual 94, 3) := by decide +kernel
theorem dX8_householdOf_116 : decode cX8_householdOf 116 = .ok (.ireturn, 1) := by decide +kernel
theorem dX8_householdOf_117 : decode cX8_householdOf 117 = .ok (.aload_n 0, 1) := by decide +kernel
theorem dX8_householdOf_118 : decode cX8_householdOf 118 = .ok (.iconst 1, 1) := by decide +kernel
theorem dX8_householdOf_119 : decode cX8_householdOf 119 = .ok (.iload_n 1, 1) := by decide +kernel
theorem dX8_householdOf_120 : decode cX8_householdOf 120 = .ok (.ishl, 1) := by decide +kernel
theorem dX8_householdOf_121 : decode cX8_householdOf 121 = .ok (.aload_n 0, 1) := by decide +kernel
theorem dX8_householdOf_122 : decode cX8_householdOf 122 = .ok (.iload_n 1, 1) := by decide +kernel
theorem dX8_householdOf_123 : decode cX8_householdOf 123 = .ok (.iconst 1, 1) := by decide +kernel
theorem dX8_householdOf_124 : decode cX8_householdOf 124 = .ok (.invokevirtual 194, 3) := by decide +kernel
theorem dX8_householdOf_127 : decode cX8_householdOf 127 = .ok (.invokevirtual 94, 3) := by decide +kernel
theorem dX8_householdOf_130 : decode cX8_householdOf 130 = .ok (.ireturn, 1) := by decide +kernel
theorem dX8_householdOf_131 : decode cX8_householdOf 131 = .ok (.aload_n 0, 1) := by decide +kernel
theorem dX8_householdOf_132 : decode cX8_householdOf 132 = .ok (.iload_n 1, 1) := by decide +kernel
theorem dX8_householdOf_133 : decode cX8_householdOf 133 = .ok (.invokevirtual 198, 3) := by decide +kernel
theorem dX8_householdOf_136 : decode cX8_householdOf 136 = .ok (.ireturn, 1) := by decide +kernel
theorem dX8_isSet_0 : decode cX8_isSet 0 = .ok (.iload_n 1, 1) := by decide +kernel
theorem dX8_isSet_1 : decode cX8_isSet 1 = .ok (.ifCond .lt 18, 3) := by decide +kernel
theorem dX8_isSet_4 : decode cX8_isSet 4 = .ok (.iload_n 1, 1) := by decide +kernel
theorem dX8_isSet_5 : decode cX8_isSet 5 = .ok (.aload_n 0, 1) := by decide +kernel
theorem dX8_isSet_6 : decode cX8_isSet 6 = .ok (.invokevirtual 90, 3) := by decide +kernel
theorem dX8_isSet_9 : decode cX8_isSet 9 = .ok (.iconst (-1), 1) := by decide +kernel
theorem dX8_isSet_10 : decode cX8_isSet 10 = .ok (.ixor, 1) := by decide +kernel
theorem dX8_isSet_11 : decode cX8_isSet 11 = .ok (.iand, 1) := by decide +kernel
theorem dX8_isSet_12 : decode cX8_isSet 12 = .ok (.ifCond .ne 7, 3) := by decide +kernel
theorem dX8_isSet_15 : decode cX8_isSet 15 = .ok (.iconst 1, 1) := by decide +kernel
theorem dX8_isSet_16 : decode cX8_isSet 16 = .ok (.goto 4, 3) := by decide +kernel
theorem dX8_isSet_19 : decode cX8_isSet 19 = .ok (.iconst 0, 1) := by decide +kernel
theorem dX8_isSet_20 : decode cX8_isSet 20 = .ok (.ireturn, 1) := by decide +kernel
theorem dX8_tied_0 : decode cX8_tied 0 = .ok (.aload_n 0, 1) := by decide +kernel
theorem dX8_tied_1 : decode cX8_tied 1 = .ok (.aload_n 0, 1) := by decide +kernel
theorem dX8_tied_2 : decode cX8_tied 2 = .ok (.iload_n 1, 1) := by decide +kernel
theorem dX8_tied_3 : decode cX8_tied 3 = .ok (.invokevirtual 201, 3) := by decide +kernel
theorem dX8_tied_6 : decode cX8_tied 6 = .ok (.ifCond .eq 21, 3) := by decide +kernel
theorem dX8_tied_9 : decode cX8_tied 9 = .ok (.aload_n 0, 1) := by decide +kernel
theorem dX8_tied_10 : decode cX8_tied 10 = .ok (.iload_n 2, 1) := by decide +kernel
theorem dX8_tied_11 : decode cX8_tied 11 = .ok (.invokevirtual 201, 3) := by decide +kernel
theorem dX8_tied_14 : decode cX8_tied 14 = .ok (.ifCond .eq 13, 3) := by decide +kernel
theorem dX8_tied_17 : decode cX8_tied 17 = .ok (.iload_n 1, 1) := by decide +kernel
theorem dX8_tied_18 : decode cX8_tied 18 = .ok (.iload_n 2, 1) := by decide +kernel
theorem dX8_tied_19 : decode cX8_tied 19 = .ok (.iand, 1) := by decide +kernel
theorem dX8_tied_20 : decode cX8_tied 20 = .ok (.ifCond .ne 7, 3) := by decide +kernel
theorem dX8_tied_23 : decode cX8_tied 23 = .ok (.iconst 1, 1) := by decide +kernel
theorem dX8_tied_24 : decode cX8_tied 24 = .ok (.goto 4, 3) := by decide +kernel
theorem dX8_tied_27 : decode cX8_tied 27 = .ok (.iconst 0, 1) := by decide +kernel
theorem dX8_tied_28 : decode cX8_tied 28 = .ok (.invokevirtual 175, 3) := by decide +kernel
theorem dX8_tied_31 : decode cX8_tied 31 = .ok (.ifCond .eq 12, 3) := by decide +kernel
theorem dX8_tied_34 : decode cX8_tied 34 = .ok (.aload_n 0, 1) := by decide +kernel
theorem dX8_tied_35 : decode cX8_tied 35 = .ok (.iload_n 1, 1) := by decide +kernel
theorem dX8_tied_36 : decode cX8_tied 36 = .ok (.iload_n 2, 1) := by decide +kernel
theorem dX8_tied_37 : decode cX8_tied 37 = .ok (.invokevirtual 94, 3) := by decide +kernel
theorem dX8_tied_40 : decode cX8_tied 40 = .ok (.goto 4, 3) := by decide +kernel
theorem dX8_tied_43 : decode cX8_tied 43 = .ok (.iconst 0, 1) := by decide +kernel
theorem dX8_tied_44 : decode cX8_tied 44 = .ok (.ireturn, 1) := by decide +kernel
theorem dX8_feud_0 : decode cX8_feud 0 = .ok (.aload_n 0, 1) := by decide +kernel
theorem dX8_feud_1 : decode cX8_feud 1 = .ok (.iconst 0, 1) := by decide +kernel
theorem dX8_feud_2 : decode cX8_feud 2 = .ok (.putfield 42, 3) := by decide +kernel
theorem dX8_feud_5 : decode cX8_feud 5 = .ok (.aload_n 0, 1) := by decide +kernel
theorem dX8_feud_6 : decode cX8_feud 6 = .ok (.aload_n 0, 1) := by decide +kernel
theorem dX8_feud_7 : decode cX8_feud 7 = .ok (.invokevirtual 138, 3) := by decide +kernel
theorem dX8_feud_10 : decode cX8_feud 10 = .ok (.invokevirtual 141, 3) := by decide +kernel
theorem dX8_feud_13 : decode cX8_feud 13 = .ok (.ireturn, 1) := by decide +kernel
theorem dX8_feudAgain_0 : decode cX8_feudAgain 0 = .ok (.aload_n 0, 1) := by decide +kernel
theorem dX8_feudAgain_1 : decode cX8_feudAgain 1 = .ok (.invokevirtual 204, 3) := by decide +kernel
theorem dX8_feudAgain_4 : decode cX8_feudAgain 4 = .ok (.ireturn, 1) := by decide +kernel
theorem dX8_ifMoved_0 : decode cX8_ifMoved 0 = .ok (.aload_n 0, 1) := by decide +kernel
theorem dX8_ifMoved_1 : decode cX8_ifMoved 1 = .ok (.aload_n 0, 1) := by decide +kernel
theorem dX8_ifMoved_2 : decode cX8_ifMoved 2 = .ok (.iload_n 1, 1) := by decide +kernel
theorem dX8_ifMoved_3 : decode cX8_ifMoved 3 = .ok (.invokevirtual 71, 3) := by decide +kernel
theorem dX8_ifMoved_6 : decode cX8_ifMoved 6 = .ok (.invokevirtual 175, 3) := by decide +kernel
theorem dX8_ifMoved_9 : decode cX8_ifMoved 9 = .ok (.ifCond .eq 18, 3) := by decide +kernel
theorem dX8_ifMoved_12 : decode cX8_ifMoved 12 = .ok (.aload_n 0, 1) := by decide +kernel
theorem dX8_ifMoved_13 : decode cX8_ifMoved 13 = .ok (.aload_n 0, 1) := by decide +kernel
theorem dX8_ifMoved_14 : decode cX8_ifMoved 14 = .ok (.invokevirtual 138, 3) := by decide +kernel
theorem dX8_ifMoved_17 : decode cX8_ifMoved 17 = .ok (.iconst 1, 1) := by decide +kernel
theorem dX8_ifMoved_18 : decode cX8_ifMoved 18 = .ok (.iload_n 1, 1) := by decide +kernel
theorem dX8_ifMoved_19 : decode cX8_ifMoved 19 = .ok (.ishl, 1) := by decide +kernel
theorem dX8_ifMoved_20 : decode cX8_ifMoved 20 = .ok (.ixor, 1) := by decide +kernel
theorem dX8_ifMoved_21 : decode cX8_ifMoved 21 = .ok (.invokevirtual 141, 3) := by decide +kernel
theorem dX8_ifMoved_24 : decode cX8_ifMoved 24 = .ok (.goto 4, 3) := by decide +kernel
theorem dX8_ifMoved_27 : decode cX8_ifMoved 27 = .ok (.iconst 0, 1) := by decide +kernel
theorem dX8_ifMoved_28 : decode cX8_ifMoved 28 = .ok (.ireturn, 1) := by decide +kernel
theorem dX8_bestMove_0 : decode cX8_bestMove 0 = .ok (.aload_n 0, 1) := by decide +kernel
theorem dX8_bestMove_1 : decode cX8_bestMove 1 = .ok (.aload_n 0, 1) := by decide +kernel
theorem dX8_bestMove_2 : decode cX8_bestMove 2 = .ok (.getfield 9, 3) := by decide +kernel
theorem dX8_bestMove_5 : decode cX8_bestMove 5 = .ok (.iconst 0, 1) := by decide +kernel
theorem dX8_bestMove_6 : decode cX8_bestMove 6 = .ok (.iaload, 1) := by decide +kernel
theorem dX8_bestMove_7 : decode cX8_bestMove 7 = .ok (.ifCond .le 7, 3) := by decide +kernel
theorem dX8_bestMove_10 : decode cX8_bestMove 10 = .ok (.iconst 1, 1) := by decide +kernel
theorem dX8_bestMove_11 : decode cX8_bestMove 11 = .ok (.goto 4, 3) := by decide +kernel
theorem dX8_bestMove_14 : decode cX8_bestMove 14 = .ok (.iconst 0, 1) := by decide +kernel
theorem dX8_bestMove_15 : decode cX8_bestMove 15 = .ok (.invokevirtual 175, 3) := by decide +kernel
theorem dX8_bestMove_18 : decode cX8_bestMove 18 = .ok (.ifCond .ne 5, 3) := by decide +kernel
theorem dX8_bestMove_21 : decode cX8_bestMove 21 = .ok (.iconst 0, 1) := by decide +kernel
theorem dX8_bestMove_22 : decode cX8_bestMove 22 = .ok (.ireturn, 1) := by decide +kernel
theorem dX8_bestMove_23 : decode cX8_bestMove 23 = .ok (.iconst 0, 1) := by decide +kernel
theorem dX8_bestMove_24 : decode cX8_bestMove 24 = .ok (.istore_n 1, 1) := by decide +kernel
theorem dX8_bestMove_25 : decode cX8_bestMove 25 = .ok (.iconst 1, 1) := by decide +kernel
theorem dX8_bestMove_26 : decode cX8_bestMove 26 = .ok (.istore_n 2, 1) := by decide +kernel
theorem dX8_bestMove_27 : decode cX8_bestMove 27 = .ok (.iload_n 2, 1) := by decide +kernel
theorem dX8_bestMove_28 : decode cX8_bestMove 28 = .ok (.aload_n 0, 1) := by decide +kernel
theorem dX8_bestMove_29 : decode cX8_bestMove 29 = .ok (.getfield 9, 3) := by decide +kernel
theorem dX8_bestMove_32 : decode cX8_bestMove 32 = .ok (.iconst 0, 1) := by decide +kernel
theorem dX8_bestMove_33 : decode cX8_bestMove 33 = .ok (.iaload, 1) := by decide +kernel
theorem dX8_bestMove_34 : decode cX8_bestMove 34 = .ok (.if_icmp .ge 42, 3) := by decide +kernel
theorem dX8_bestMove_37 : decode cX8_bestMove 37 = .ok (.aload_n 0, 1) := by decide +kernel
theorem dX8_bestMove_38 : decode cX8_bestMove 38 = .ok (.aload_n 0, 1) := by decide +kernel
theorem dX8_bestMove_39 : decode cX8_bestMove 39 = .ok (.invokevirtual 138, 3) := by decide +kernel
theorem dX8_bestMove_42 : decode cX8_bestMove 42 = .ok (.iconst 1, 1) := by decide +kernel
theorem dX8_bestMove_43 : decode cX8_bestMove 43 = .ok (.iload_n 2, 1) := by decide +kernel
theorem dX8_bestMove_44 : decode cX8_bestMove 44 = .ok (.ishl, 1) := by decide +kernel
theorem dX8_bestMove_45 : decode cX8_bestMove 45 = .ok (.ixor, 1) := by decide +kernel
theorem dX8_bestMove_46 : decode cX8_bestMove 46 = .ok (.invokevirtual 141, 3) := by decide +kernel
theorem dX8_bestMove_49 : decode cX8_bestMove 49 = .ok (.aload_n 0, 1) := by decide +kernel
theorem dX8_bestMove_50 : decode cX8_bestMove 50 = .ok (.aload_n 0, 1) := by decide +kernel
theorem dX8_bestMove_51 : decode cX8_bestMove 51 = .ok (.invokevirtual 138, 3) := by decide +kernel
theorem dX8_bestMove_54 : decode cX8_bestMove 54 = .ok (.iconst 1, 1) := by decide +kernel
theorem dX8_bestMove_55 : decode cX8_bestMove 55 = .ok (.iload_n 1, 1) := by decide +kernel
theorem dX8_bestMove_56 : decode cX8_bestMove 56 = .ok (.ishl, 1) := by decide +kernel
theorem dX8_bestMove_57 : decode cX8_bestMove 57 = .ok (.ixor, 1) := by decide +kernel
theorem dX8_bestMove_58 : decode cX8_bestMove 58 = .ok (.invokevirtual 141, 3) := by decide +kernel
theorem dX8_bestMove_61 : decode cX8_bestMove 61 = .ok (.if_icmp .ge 7, 3) := by decide +kernel
theorem dX8_bestMove_64 : decode cX8_bestMove 64 = .ok (.iload_n 2, 1) := by decide +kernel
theorem dX8_bestMove_65 : decode cX8_bestMove 65 = .ok (.goto 4, 3) := by decide +kernel
theorem dX8_bestMove_68 : decode cX8_bestMove 68 = .ok (.iload_n 1, 1) := by decide +kernel
theorem dX8_bestMove_69 : decode cX8_bestMove 69 = .ok (.istore_n 1, 1) := by decide +kernel
theorem dX8_bestMove_70 : decode cX8_bestMove 70 = .ok (.iinc 2 1, 3) := by decide +kernel
theorem dX8_bestMove_73 : decode cX8_bestMove 73 = .ok (.goto (-46), 3) := by decide +kernel
theorem dX8_bestMove_76 : decode cX8_bestMove 76 = .ok (.iload_n 1, 1) := by decide +kernel
theorem dX8_bestMove_77 : decode cX8_bestMove 77 = .ok (.ireturn, 1) := by decide +kernel
theorem dX8_leastWith_0 : decode cX8_leastWith 0 = .ok (.aload_n 0, 1) := by decide +kernel
theorem dX8_leastWith_1 : decode cX8_leastWith 1 = .ok (.iload_n 1, 1) := by decide +kernel
theorem dX8_leastWith_2 : decode cX8_leastWith 2 = .ok (.iload_n 2, 1) := by decide +kernel
theorem dX8_leastWith_3 : decode cX8_leastWith 3 = .ok (.invokevirtual 86, 3) := by decide +kernel
theorem dX8_leastWith_6 : decode cX8_leastWith 6 = .ok (.istore 4, 2) := by decide +kernel
theorem dX8_leastWith_8 : decode cX8_leastWith 8 = .ok (.aload_n 0, 1) := by decide +kernel
theorem dX8_leastWith_9 : decode cX8_leastWith 9 = .ok (.iload_n 1, 1) := by decide +kernel
theorem dX8_leastWith_10 : decode cX8_leastWith 10 = .ok (.iload_n 2, 1) := by decide +kernel
theorem dX8_leastWith_11 : decode cX8_leastWith 11 = .ok (.iload_n 3, 1) := by decide +kernel
theorem dX8_leastWith_12 : decode cX8_leastWith 12 = .ok (.invokevirtual 101, 3) := by decide +kernel
theorem dX8_leastWith_15 : decode cX8_leastWith 15 = .ok (.aload_n 0, 1) := by decide +kernel
theorem dX8_leastWith_16 : decode cX8_leastWith 16 = .ok (.invokevirtual 182, 3) := by decide +kernel
theorem dX8_leastWith_19 : decode cX8_leastWith 19 = .ok (.istore 5, 2) := by decide +kernel
theorem dX8_leastWith_21 : decode cX8_leastWith 21 = .ok (.aload_n 0, 1) := by decide +kernel
theorem dX8_leastWith_22 : decode cX8_leastWith 22 = .ok (.iload_n 1, 1) := by decide +kernel
theorem dX8_leastWith_23 : decode cX8_leastWith 23 = .ok (.iload_n 2, 1) := by decide +kernel
theorem dX8_leastWith_24 : decode cX8_leastWith 24 = .ok (.iload 4, 2) := by decide +kernel
theorem dX8_leastWith_26 : decode cX8_leastWith 26 = .ok (.invokevirtual 101, 3) := by decide +kernel
theorem dX8_leastWith_29 : decode cX8_leastWith 29 = .ok (.iload 5, 2) := by decide +kernel
theorem dX8_leastWith_31 : decode cX8_leastWith 31 = .ok (.ireturn, 1) := by decide +kernel
theorem dX8_ifBond_0 : decode cX8_ifBond 0 = .ok (.aload_n 0, 1) := by decide +kernel
theorem dX8_ifBond_1 : decode cX8_ifBond 1 = .ok (.aload_n 0, 1) := by decide +kernel
theorem dX8_ifBond_2 : decode cX8_ifBond 2 = .ok (.iload_n 1, 1) := by decide +kernel
theorem dX8_ifBond_3 : decode cX8_ifBond 3 = .ok (.invokevirtual 71, 3) := by decide +kernel
theorem dX8_ifBond_6 : decode cX8_ifBond 6 = .ok (.ifCond .eq 11, 3) := by decide +kernel
theorem dX8_ifBond_9 : decode cX8_ifBond 9 = .ok (.aload_n 0, 1) := by decide +kernel
theorem dX8_ifBond_10 : decode cX8_ifBond 10 = .ok (.iload_n 2, 1) := by decide +kernel
theorem dX8_ifBond_11 : decode cX8_ifBond 11 = .ok (.invokevirtual 71, 3) := by decide +kernel
theorem dX8_ifBond_14 : decode cX8_ifBond 14 = .ok (.ifCond .ne 7, 3) := by decide +kernel
theorem dX8_ifBond_17 : decode cX8_ifBond 17 = .ok (.iconst 1, 1) := by decide +kernel
theorem dX8_ifBond_18 : decode cX8_ifBond 18 = .ok (.goto 23, 3) := by decide +kernel
theorem dX8_ifBond_21 : decode cX8_ifBond 21 = .ok (.iload_n 1, 1) := by decide +kernel
theorem dX8_ifBond_22 : decode cX8_ifBond 22 = .ok (.iload_n 2, 1) := by decide +kernel
theorem dX8_ifBond_23 : decode cX8_ifBond 23 = .ok (.if_icmp .eq 13, 3) := by decide +kernel
theorem dX8_ifBond_26 : decode cX8_ifBond 26 = .ok (.iload_n 3, 1) := by decide +kernel
theorem dX8_ifBond_27 : decode cX8_ifBond 27 = .ok (.iconst 0, 1) := by decide +kernel
theorem dX8_ifBond_28 : decode cX8_ifBond 28 = .ok (.bipush 99, 2) := by decide +kernel
theorem dX8_ifBond_30 : decode cX8_ifBond 30 = .ok (.invokestatic 64, 3) := by decide +kernel
theorem dX8_ifBond_33 : decode cX8_ifBond 33 = .ok (.ifCond .ne 7, 3) := by decide +kernel
theorem dX8_ifBond_36 : decode cX8_ifBond 36 = .ok (.iconst 2, 1) := by decide +kernel
theorem dX8_ifBond_37 : decode cX8_ifBond 37 = .ok (.goto 4, 3) := by decide +kernel
theorem dX8_ifBond_40 : decode cX8_ifBond 40 = .ok (.iconst 0, 1) := by decide +kernel
theorem dX8_ifBond_41 : decode cX8_ifBond 41 = .ok (.putfield 42, 3) := by decide +kernel
theorem dX8_ifBond_44 : decode cX8_ifBond 44 = .ok (.aload_n 0, 1) := by decide +kernel
theorem dX8_ifBond_45 : decode cX8_ifBond 45 = .ok (.getfield 42, 3) := by decide +kernel
theorem dX8_ifBond_48 : decode cX8_ifBond 48 = .ok (.ifCond .ne 13, 3) := by decide +kernel
theorem dX8_ifBond_51 : decode cX8_ifBond 51 = .ok (.aload_n 0, 1) := by decide +kernel
theorem dX8_ifBond_52 : decode cX8_ifBond 52 = .ok (.iload_n 1, 1) := by decide +kernel
theorem dX8_ifBond_53 : decode cX8_ifBond 53 = .ok (.iload_n 2, 1) := by decide +kernel
theorem dX8_ifBond_54 : decode cX8_ifBond 54 = .ok (.iload_n 3, 1) := by decide +kernel
theorem dX8_ifBond_55 : decode cX8_ifBond 55 = .ok (.invokevirtual 207, 3) := by decide +kernel
theorem dX8_ifBond_58 : decode cX8_ifBond 58 = .ok (.goto 4, 3) := by decide +kernel
theorem dX8_ifBond_61 : decode cX8_ifBond 61 = .ok (.iconst 0, 1) := by decide +kernel
theorem dX8_ifBond_62 : decode cX8_ifBond 62 = .ok (.ireturn, 1) := by decide +kernel
theorem dX8_isCritical_0 : decode cX8_isCritical 0 = .ok (.aload_n 0, 1) := by decide +kernel
theorem dX8_isCritical_1 : decode cX8_isCritical 1 = .ok (.aload_n 0, 1) := by decide +kernel
theorem dX8_isCritical_2 : decode cX8_isCritical 2 = .ok (.iload_n 1, 1) := by decide +kernel
theorem dX8_isCritical_3 : decode cX8_isCritical 3 = .ok (.invokevirtual 71, 3) := by decide +kernel
theorem dX8_isCritical_6 : decode cX8_isCritical 6 = .ok (.ifCond .eq 11, 3) := by decide +kernel
theorem dX8_isCritical_9 : decode cX8_isCritical 9 = .ok (.aload_n 0, 1) := by decide +kernel
theorem dX8_isCritical_10 : decode cX8_isCritical 10 = .ok (.iload_n 2, 1) := by decide +kernel
theorem dX8_isCritical_11 : decode cX8_isCritical 11 = .ok (.invokevirtual 71, 3) := by decide +kernel
theorem dX8_isCritical_14 : decode cX8_isCritical 14 = .ok (.ifCond .ne 7, 3) := by decide +kernel
theorem dX8_isCritical_17 : decode cX8_isCritical 17 = .ok (.iconst 1, 1) := by decide +kernel
theorem dX8_isCritical_18 : decode cX8_isCritical 18 = .ok (.goto 22, 3) := by decide +kernel
theorem dX8_isCritical_21 : decode cX8_isCritical 21 = .ok (.iload_n 1, 1) := by decide +kernel
theorem dX8_isCritical_22 : decode cX8_isCritical 22 = .ok (.iload_n 2, 1) := by decide +kernel
theorem dX8_isCritical_23 : decode cX8_isCritical 23 = .ok (.if_icmp .eq 12, 3) := by decide +kernel
theorem dX8_isCritical_26 : decode cX8_isCritical 26 = .ok (.aload_n 0, 1) := by decide +kernel
theorem dX8_isCritical_27 : decode cX8_isCritical 27 = .ok (.iload_n 1, 1) := by decide +kernel
theorem dX8_isCritical_28 : decode cX8_isCritical 28 = .ok (.iload_n 2, 1) := by decide +kernel
theorem dX8_isCritical_29 : decode cX8_isCritical 29 = .ok (.invokevirtual 86, 3) := by decide +kernel
theorem dX8_isCritical_32 : decode cX8_isCritical 32 = .ok (.ifCond .ne 7, 3) := by decide +kernel
theorem dX8_isCritical_35 : decode cX8_isCritical 35 = .ok (.iconst 2, 1) := by decide +kernel
theorem dX8_isCritical_36 : decode cX8_isCritical 36 = .ok (.goto 4, 3) := by decide +kernel
theorem dX8_isCritical_39 : decode cX8_isCritical 39 = .ok (.iconst 0, 1) := by decide +kernel
theorem dX8_isCritical_40 : decode cX8_isCritical 40 = .ok (.putfield 42, 3) := by decide +kernel
theorem dX8_isCritical_43 : decode cX8_isCritical 43 = .ok (.aload_n 0, 1) := by decide +kernel
theorem dX8_isCritical_44 : decode cX8_isCritical 44 = .ok (.getfield 42, 3) := by decide +kernel
theorem dX8_isCritical_47 : decode cX8_isCritical 47 = .ok (.ifCond .ne 21, 3) := by decide +kernel
theorem dX8_isCritical_50 : decode cX8_isCritical 50 = .ok (.aload_n 0, 1) := by decide +kernel
theorem dX8_isCritical_51 : decode cX8_isCritical 51 = .ok (.iload_n 1, 1) := by decide +kernel
theorem dX8_isCritical_52 : decode cX8_isCritical 52 = .ok (.iload_n 2, 1) := by decide +kernel
theorem dX8_isCritical_53 : decode cX8_isCritical 53 = .ok (.iconst 0, 1) := by decide +kernel
theorem dX8_isCritical_54 : decode cX8_isCritical 54 = .ok (.invokevirtual 207, 3) := by decide +kernel
theorem dX8_isCritical_57 : decode cX8_isCritical 57 = .ok (.aload_n 0, 1) := by decide +kernel
theorem dX8_isCritical_58 : decode cX8_isCritical 58 = .ok (.invokevirtual 182, 3) := by decide +kernel
theorem dX8_isCritical_61 : decode cX8_isCritical 61 = .ok (.if_icmp .ge 7, 3) := by decide +kernel
theorem dX8_isCritical_64 : decode cX8_isCritical 64 = .ok (.iconst 1, 1) := by decide +kernel
theorem dX8_isCritical_65 : decode cX8_isCritical 65 = .ok (.goto 4, 3) := by decide +kernel
theorem dX8_isCritical_68 : decode cX8_isCritical 68 = .ok (.iconst 0, 1) := by decide +kernel
theorem dX8_isCritical_69 : decode cX8_isCritical 69 = .ok (.ireturn, 1) := by decide +kernel
theorem dX8_reached_0 : decode cX8_reached 0 = .ok (.iconst 1, 1) := by decide +kernel
theorem dX8_reached_1 : decode cX8_reached 1 = .ok (.iload_n 1, 1) := by decide +kernel
theorem dX8_reached_2 : decode cX8_reached 2 = .ok (.ishl, 1) := by decide +kernel
theorem dX8_reached_3 : decode cX8_reached 3 = .ok (.istore_n 2, 1) := by decide +kernel
theorem dX8_reached_4 : decode cX8_reached 4 = .ok (.iconst 0, 1) := by decide +kernel
theorem dX8_reached_5 : decode cX8_reached 5 = .ok (.istore_n 3, 1) := by decide +kernel
theorem dX8_reached_6 : decode cX8_reached 6 = .ok (.iload_n 3, 1) := by decide +kernel
theorem dX8_reached_7 : decode cX8_reached 7 = .ok (.iload_n 2, 1) := by decide +kernel
theorem dX8_reached_8 : decode cX8_reached 8 = .ok (.if_icmp .eq 51, 3) := by decide +kernel
theorem dX8_reached_11 : decode cX8_reached 11 = .ok (.iload_n 2, 1) := by decide +kernel
theorem dX8_reached_12 : decode cX8_reached 12 = .ok (.istore_n 3, 1) := by decide +kernel
theorem dX8_reached_13 : decode cX8_reached 13 = .ok (.iconst 0, 1) := by decide +kernel
theorem dX8_reached_14 : decode cX8_reached 14 = .ok (.istore 4, 2) := by decide +kernel
theorem dX8_reached_16 : decode cX8_reached 16 = .ok (.iload 4, 2) := by decide +kernel
theorem dX8_reached_18 : decode cX8_reached 18 = .ok (.aload_n 0, 1) := by decide +kernel
theorem dX8_reached_19 : decode cX8_reached 19 = .ok (.getfield 9, 3) := by decide +kernel
theorem dX8_reached_22 : decode cX8_reached 22 = .ok (.iconst 0, 1) := by decide +kernel
theorem dX8_reached_23 : decode cX8_reached 23 = .ok (.iaload, 1) := by decide +kernel
theorem dX8_reached_24 : decode cX8_reached 24 = .ok (.if_icmp .ge 32, 3) := by decide +kernel
theorem dX8_reached_27 : decode cX8_reached 27 = .ok (.iload_n 2, 1) := by decide +kernel
theorem dX8_reached_28 : decode cX8_reached 28 = .ok (.aload_n 0, 1) := by decide +kernel
theorem dX8_reached_29 : decode cX8_reached 29 = .ok (.iconst 1, 1) := by decide +kernel
theorem dX8_reached_30 : decode cX8_reached 30 = .ok (.iload 4, 2) := by decide +kernel
theorem dX8_reached_32 : decode cX8_reached 32 = .ok (.ishl, 1) := by decide +kernel
theorem dX8_reached_33 : decode cX8_reached 33 = .ok (.iload_n 3, 1) := by decide +kernel
theorem dX8_reached_34 : decode cX8_reached 34 = .ok (.invokevirtual 94, 3) := by decide +kernel
theorem dX8_reached_37 : decode cX8_reached 37 = .ok (.ifCond .le 10, 3) := by decide +kernel
theorem dX8_reached_40 : decode cX8_reached 40 = .ok (.iconst 1, 1) := by decide +kernel
theorem dX8_reached_41 : decode cX8_reached 41 = .ok (.iload 4, 2) := by decide +kernel
theorem dX8_reached_43 : decode cX8_reached 43 = .ok (.ishl, 1) := by decide +kernel
theorem dX8_reached_44 : decode cX8_reached 44 = .ok (.goto 4, 3) := by decide +kernel
theorem dX8_reached_47 : decode cX8_reached 47 = .ok (.iconst 0, 1) := by decide +kernel
theorem dX8_reached_48 : decode cX8_reached 48 = .ok (.ior, 1) := by decide +kernel
theorem dX8_reached_49 : decode cX8_reached 49 = .ok (.istore_n 2, 1) := by decide +kernel
theorem dX8_reached_50 : decode cX8_reached 50 = .ok (.iinc 4 1, 3) := by decide +kernel
theorem dX8_reached_53 : decode cX8_reached 53 = .ok (.goto (-37), 3) := by decide +kernel
theorem dX8_reached_56 : decode cX8_reached 56 = .ok (.goto (-50), 3) := by decide +kernel
theorem dX8_reached_59 : decode cX8_reached 59 = .ok (.iload_n 2, 1) := by decide +kernel
theorem dX8_reached_60 : decode cX8_reached 60 = .ok (.ireturn, 1) := by decide +kernel
theorem dX8_parts_0 : decode cX8_parts 0 = .ok (.aload_n 0, 1) := by decide +kernel
theorem dX8_parts_1 : decode cX8_parts 1 = .ok (.iconst 0, 1) := by decide +kernel
theorem dX8_parts_2 : decode cX8_parts 2 = .ok (.putfield 42, 3) := by decide +kernel
theorem dX8_parts_5 : decode cX8_parts 5 = .ok (.iconst 0, 1) := by decide +kernel
theorem dX8_parts_6 : decode cX8_parts 6 = .ok (.istore_n 1, 1) := by decide +kernel
theorem dX8_parts_7 : decode cX8_parts 7 = .ok (.iconst 0, 1) := by decide +kernel
theorem dX8_parts_8 : decode cX8_parts 8 = .ok (.istore_n 2, 1) := by decide +kernel
theorem dX8_parts_9 : decode cX8_parts 9 = .ok (.iload_n 2, 1) := by decide +kernel
theorem dX8_parts_10 : decode cX8_parts 10 = .ok (.aload_n 0, 1) := by decide +kernel
theorem dX8_parts_11 : decode cX8_parts 11 = .ok (.getfield 9, 3) := by decide +kernel
theorem dX8_parts_14 : decode cX8_parts 14 = .ok (.iconst 0, 1) := by decide +kernel
theorem dX8_parts_15 : decode cX8_parts 15 = .ok (.iaload, 1) := by decide +kernel
theorem dX8_parts_16 : decode cX8_parts 16 = .ok (.if_icmp .ge 29, 3) := by decide +kernel
theorem dX8_parts_19 : decode cX8_parts 19 = .ok (.iload_n 1, 1) := by decide +kernel
theorem dX8_parts_20 : decode cX8_parts 20 = .ok (.aload_n 0, 1) := by decide +kernel
theorem dX8_parts_21 : decode cX8_parts 21 = .ok (.iload_n 2, 1) := by decide +kernel
theorem dX8_parts_22 : decode cX8_parts 22 = .ok (.invokevirtual 211, 3) := by decide +kernel
theorem dX8_parts_25 : decode cX8_parts 25 = .ok (.invokestatic 156, 3) := by decide +kernel
theorem dX8_parts_28 : decode cX8_parts 28 = .ok (.iload_n 2, 1) := by decide +kernel
theorem dX8_parts_29 : decode cX8_parts 29 = .ok (.if_icmp .ne 7, 3) := by decide +kernel
theorem dX8_parts_32 : decode cX8_parts 32 = .ok (.iconst 1, 1) := by decide +kernel
theorem dX8_parts_33 : decode cX8_parts 33 = .ok (.goto 4, 3) := by decide +kernel
theorem dX8_parts_36 : decode cX8_parts 36 = .ok (.iconst 0, 1) := by decide +kernel
theorem dX8_parts_37 : decode cX8_parts 37 = .ok (.iadd, 1) := by decide +kernel
theorem dX8_parts_38 : decode cX8_parts 38 = .ok (.istore_n 1, 1) := by decide +kernel
theorem dX8_parts_39 : decode cX8_parts 39 = .ok (.iinc 2 1, 3) := by decide +kernel
theorem dX8_parts_42 : decode cX8_parts 42 = .ok (.goto (-33), 3) := by decide +kernel
theorem dX8_parts_45 : decode cX8_parts 45 = .ok (.iload_n 1, 1) := by decide +kernel
theorem dX8_parts_46 : decode cX8_parts 46 = .ok (.ireturn, 1) := by decide +kernel
theorem dX8_partOf_0 : decode cX8_partOf 0 = .ok (.aload_n 0, 1) := by decide +kernel
theorem dX8_partOf_1 : decode cX8_partOf 1 = .ok (.aload_n 0, 1) := by decide +kernel
theorem dX8_partOf_2 : decode cX8_partOf 2 = .ok (.iload_n 1, 1) := by decide +kernel
theorem dX8_partOf_3 : decode cX8_partOf 3 = .ok (.invokevirtual 71, 3) := by decide +kernel
theorem dX8_partOf_6 : decode cX8_partOf 6 = .ok (.invokevirtual 175, 3) := by decide +kernel
theorem dX8_partOf_9 : decode cX8_partOf 9 = .ok (.ifCond .eq 11, 3) := by decide +kernel
theorem dX8_partOf_12 : decode cX8_partOf 12 = .ok (.aload_n 0, 1) := by decide +kernel
theorem dX8_partOf_13 : decode cX8_partOf 13 = .ok (.iload_n 1, 1) := by decide +kernel
theorem dX8_partOf_14 : decode cX8_partOf 14 = .ok (.invokevirtual 211, 3) := by decide +kernel
theorem dX8_partOf_17 : decode cX8_partOf 17 = .ok (.goto 4, 3) := by decide +kernel
theorem dX8_partOf_20 : decode cX8_partOf 20 = .ok (.iconst 0, 1) := by decide +kernel
theorem dX8_partOf_21 : decode cX8_partOf 21 = .ok (.ireturn, 1) := by decide +kernel
theorem dX8_bondWith_0 : decode cX8_bondWith 0 = .ok (.iconst 0, 1) := by decide +kernel
theorem dX8_bondWith_1 : decode cX8_bondWith 1 = .ok (.istore_n 2, 1) := by decide +kernel
theorem dX8_bondWith_2 : decode cX8_bondWith 2 = .ok (.iconst (-1), 1) := by decide +kernel
theorem dX8_bondWith_3 : decode cX8_bondWith 3 = .ok (.istore_n 3, 1) := by decide +kernel
theorem dX8_bondWith_4 : decode cX8_bondWith 4 = .ok (.iconst 0, 1) := by decide +kernel
theorem dX8_bondWith_5 : decode cX8_bondWith 5 = .ok (.istore 4, 2) := by decide +kernel
theorem dX8_bondWith_7 : decode cX8_bondWith 7 = .ok (.iload 4, 2) := by decide +kernel
theorem dX8_bondWith_9 : decode cX8_bondWith 9 = .ok (.aload_n 0, 1) := by decide +kernel
theorem dX8_bondWith_10 : decode cX8_bondWith 10 = .ok (.getfield 9, 3) := by decide +kernel
theorem dX8_bondWith_13 : decode cX8_bondWith 13 = .ok (.iconst 0, 1) := by decide +kernel
theorem dX8_bondWith_14 : decode cX8_bondWith 14 = .ok (.iaload, 1) := by decide +kernel
theorem dX8_bondWith_15 : decode cX8_bondWith 15 = .ok (.if_icmp .ge 108, 3) := by decide +kernel
theorem dX8_bondWith_18 : decode cX8_bondWith 18 = .ok (.iload 4, 2) := by decide +kernel
theorem dX8_bondWith_20 : decode cX8_bondWith 20 = .ok (.iconst 1, 1) := by decide +kernel
theorem dX8_bondWith_21 : decode cX8_bondWith 21 = .ok (.iadd, 1) := by decide +kernel
theorem dX8_bondWith_22 : decode cX8_bondWith 22 = .ok (.istore 5, 2) := by decide +kernel
theorem dX8_bondWith_24 : decode cX8_bondWith 24 = .ok (.iload 5, 2) := by decide +kernel
theorem dX8_bondWith_26 : decode cX8_bondWith 26 = .ok (.aload_n 0, 1) := by decide +kernel
theorem dX8_bondWith_27 : decode cX8_bondWith 27 = .ok (.getfield 9, 3) := by decide +kernel
theorem dX8_bondWith_30 : decode cX8_bondWith 30 = .ok (.iconst 0, 1) := by decide +kernel
theorem dX8_bondWith_31 : decode cX8_bondWith 31 = .ok (.iaload, 1) := by decide +kernel
theorem dX8_bondWith_32 : decode cX8_bondWith 32 = .ok (.if_icmp .ge 85, 3) := by decide +kernel
theorem dX8_bondWith_35 : decode cX8_bondWith 35 = .ok (.aload_n 0, 1) := by decide +kernel
theorem dX8_bondWith_36 : decode cX8_bondWith 36 = .ok (.iload 4, 2) := by decide +kernel
theorem dX8_bondWith_38 : decode cX8_bondWith 38 = .ok (.iload 5, 2) := by decide +kernel
theorem dX8_bondWith_40 : decode cX8_bondWith 40 = .ok (.invokevirtual 86, 3) := by decide +kernel
theorem dX8_bondWith_43 : decode cX8_bondWith 43 = .ok (.ifCond .ne 6, 3) := by decide +kernel
theorem dX8_bondWith_46 : decode cX8_bondWith 46 = .ok (.goto 65, 3) := by decide +kernel
theorem dX8_bondWith_49 : decode cX8_bondWith 49 = .ok (.iload_n 2, 1) := by decide +kernel
theorem dX8_bondWith_50 : decode cX8_bondWith 50 = .ok (.iload_n 1, 1) := by decide +kernel
theorem dX8_bondWith_51 : decode cX8_bondWith 51 = .ok (.if_icmp .ne 12, 3) := by decide +kernel
theorem dX8_bondWith_54 : decode cX8_bondWith 54 = .ok (.bipush 10, 2) := by decide +kernel
theorem dX8_bondWith_56 : decode cX8_bondWith 56 = .ok (.iload 4, 2) := by decide +kernel
theorem dX8_bondWith_58 : decode cX8_bondWith 58 = .ok (.imul, 1) := by decide +kernel
theorem dX8_bondWith_59 : decode cX8_bondWith 59 = .ok (.iload 5, 2) := by decide +kernel
theorem dX8_bondWith_61 : decode cX8_bondWith 61 = .ok (.iadd, 1) := by decide +kernel
theorem dX8_bondWith_62 : decode cX8_bondWith 62 = .ok (.ireturn, 1) := by decide +kernel
theorem dX8_bondWith_63 : decode cX8_bondWith 63 = .ok (.iinc 2 1, 3) := by decide +kernel
theorem dX8_bondWith_66 : decode cX8_bondWith 66 = .ok (.iload_n 1, 1) := by decide +kernel
theorem dX8_bondWith_67 : decode cX8_bondWith 67 = .ok (.ifCond .ge 42, 3) := by decide +kernel
theorem dX8_bondWith_70 : decode cX8_bondWith 70 = .ok (.iload_n 3, 1) := by decide +kernel
theorem dX8_bondWith_71 : decode cX8_bondWith 71 = .ok (.iconst (-1), 1) := by decide +kernel
theorem dX8_bondWith_72 : decode cX8_bondWith 72 = .ok (.if_icmp .eq 26, 3) := by decide +kernel
theorem dX8_bondWith_75 : decode cX8_bondWith 75 = .ok (.aload_n 0, 1) := by decide +kernel
theorem dX8_bondWith_76 : decode cX8_bondWith 76 = .ok (.iload 4, 2) := by decide +kernel
theorem dX8_bondWith_78 : decode cX8_bondWith 78 = .ok (.iload 5, 2) := by decide +kernel
theorem dX8_bondWith_80 : decode cX8_bondWith 80 = .ok (.invokevirtual 86, 3) := by decide +kernel
theorem dX8_bondWith_83 : decode cX8_bondWith 83 = .ok (.aload_n 0, 1) := by decide +kernel
theorem dX8_bondWith_84 : decode cX8_bondWith 84 = .ok (.iload_n 3, 1) := by decide +kernel
theorem dX8_bondWith_85 : decode cX8_bondWith 85 = .ok (.bipush 10, 2) := by decide +kernel
theorem dX8_bondWith_87 : decode cX8_bondWith 87 = .ok (.idiv, 1) := by decide +kernel
theorem dX8_bondWith_88 : decode cX8_bondWith 88 = .ok (.iload_n 3, 1) := by decide +kernel
theorem dX8_bondWith_89 : decode cX8_bondWith 89 = .ok (.bipush 10, 2) := by decide +kernel
theorem dX8_bondWith_91 : decode cX8_bondWith 91 = .ok (.irem, 1) := by decide +kernel
theorem dX8_bondWith_92 : decode cX8_bondWith 92 = .ok (.invokevirtual 86, 3) := by decide +kernel
theorem dX8_bondWith_95 : decode cX8_bondWith 95 = .ok (.if_icmp .le 14, 3) := by decide +kernel
theorem dX8_bondWith_98 : decode cX8_bondWith 98 = .ok (.bipush 10, 2) := by decide +kernel
theorem dX8_bondWith_100 : decode cX8_bondWith 100 = .ok (.iload 4, 2) := by decide +kernel
theorem dX8_bondWith_102 : decode cX8_bondWith 102 = .ok (.imul, 1) := by decide +kernel
theorem dX8_bondWith_103 : decode cX8_bondWith 103 = .ok (.iload 5, 2) := by decide +kernel
theorem dX8_bondWith_105 : decode cX8_bondWith 105 = .ok (.iadd, 1) := by decide +kernel
theorem dX8_bondWith_106 : decode cX8_bondWith 106 = .ok (.goto 4, 3) := by decide +kernel
theorem dX8_bondWith_109 : decode cX8_bondWith 109 = .ok (.iload_n 3, 1) := by decide +kernel
theorem dX8_bondWith_110 : decode cX8_bondWith 110 = .ok (.istore_n 3, 1) := by decide +kernel
theorem dX8_bondWith_111 : decode cX8_bondWith 111 = .ok (.iinc 5 1, 3) := by decide +kernel
theorem dX8_bondWith_114 : decode cX8_bondWith 114 = .ok (.goto (-90), 3) := by decide +kernel
theorem dX8_bondWith_117 : decode cX8_bondWith 117 = .ok (.iinc 4 1, 3) := by decide +kernel
theorem dX8_bondWith_120 : decode cX8_bondWith 120 = .ok (.goto (-113), 3) := by decide +kernel
theorem dX8_bondWith_123 : decode cX8_bondWith 123 = .ok (.iload_n 3, 1) := by decide +kernel
theorem dX8_bondWith_124 : decode cX8_bondWith 124 = .ok (.ireturn, 1) := by decide +kernel
theorem dX8_bondAt_0 : decode cX8_bondAt 0 = .ok (.iload_n 1, 1) := by decide +kernel
theorem dX8_bondAt_1 : decode cX8_bondAt 1 = .ok (.ifCond .ge 7, 3) := by decide +kernel
theorem dX8_bondAt_4 : decode cX8_bondAt 4 = .ok (.iconst (-1), 1) := by decide +kernel
theorem dX8_bondAt_5 : decode cX8_bondAt 5 = .ok (.goto 8, 3) := by decide +kernel
theorem dX8_bondAt_8 : decode cX8_bondAt 8 = .ok (.aload_n 0, 1) := by decide +kernel
theorem dX8_bondAt_9 : decode cX8_bondAt 9 = .ok (.iload_n 1, 1) := by decide +kernel
theorem dX8_bondAt_10 : decode cX8_bondAt 10 = .ok (.invokevirtual 214, 3) := by decide +kernel
theorem dX8_bondAt_13 : decode cX8_bondAt 13 = .ok (.istore_n 2, 1) := by decide +kernel
theorem dX8_bondAt_14 : decode cX8_bondAt 14 = .ok (.aload_n 0, 1) := by decide +kernel
theorem dX8_bondAt_15 : decode cX8_bondAt 15 = .ok (.iload_n 2, 1) := by decide +kernel
theorem dX8_bondAt_16 : decode cX8_bondAt 16 = .ok (.iconst (-1), 1) := by decide +kernel
theorem dX8_bondAt_17 : decode cX8_bondAt 17 = .ok (.if_icmp .eq 7, 3) := by decide +kernel
theorem dX8_bondAt_20 : decode cX8_bondAt 20 = .ok (.iconst 1, 1) := by decide +kernel
theorem dX8_bondAt_21 : decode cX8_bondAt 21 = .ok (.goto 4, 3) := by decide +kernel
theorem dX8_bondAt_24 : decode cX8_bondAt 24 = .ok (.iconst 0, 1) := by decide +kernel
theorem dX8_bondAt_25 : decode cX8_bondAt 25 = .ok (.invokevirtual 175, 3) := by decide +kernel
theorem dX8_bondAt_28 : decode cX8_bondAt 28 = .ok (.ifCond .eq 7, 3) := by decide +kernel
theorem dX8_bondAt_31 : decode cX8_bondAt 31 = .ok (.iload_n 2, 1) := by decide +kernel
theorem dX8_bondAt_32 : decode cX8_bondAt 32 = .ok (.goto 4, 3) := by decide +kernel
theorem dX8_bondAt_35 : decode cX8_bondAt 35 = .ok (.iconst 0, 1) := by decide +kernel
theorem dX8_bondAt_36 : decode cX8_bondAt 36 = .ok (.ireturn, 1) := by decide +kernel
theorem dX8_heaviest_0 : decode cX8_heaviest 0 = .ok (.aload_n 0, 1) := by decide +kernel
theorem dX8_heaviest_1 : decode cX8_heaviest 1 = .ok (.iconst (-1), 1) := by decide +kernel
theorem dX8_heaviest_2 : decode cX8_heaviest 2 = .ok (.invokevirtual 214, 3) := by decide +kernel
theorem dX8_heaviest_5 : decode cX8_heaviest 5 = .ok (.istore_n 1, 1) := by decide +kernel
theorem dX8_heaviest_6 : decode cX8_heaviest 6 = .ok (.aload_n 0, 1) := by decide +kernel
theorem dX8_heaviest_7 : decode cX8_heaviest 7 = .ok (.iload_n 1, 1) := by decide +kernel
theorem dX8_heaviest_8 : decode cX8_heaviest 8 = .ok (.iconst (-1), 1) := by decide +kernel
theorem dX8_heaviest_9 : decode cX8_heaviest 9 = .ok (.if_icmp .eq 7, 3) := by decide +kernel
theorem dX8_heaviest_12 : decode cX8_heaviest 12 = .ok (.iconst 1, 1) := by decide +kernel
theorem dX8_heaviest_13 : decode cX8_heaviest 13 = .ok (.goto 4, 3) := by decide +kernel
theorem dX8_heaviest_16 : decode cX8_heaviest 16 = .ok (.iconst 0, 1) := by decide +kernel
theorem dX8_heaviest_17 : decode cX8_heaviest 17 = .ok (.invokevirtual 175, 3) := by decide +kernel
theorem dX8_heaviest_20 : decode cX8_heaviest 20 = .ok (.ifCond .eq 7, 3) := by decide +kernel
theorem dX8_heaviest_23 : decode cX8_heaviest 23 = .ok (.iload_n 1, 1) := by decide +kernel
theorem dX8_heaviest_24 : decode cX8_heaviest 24 = .ok (.goto 4, 3) := by decide +kernel
theorem dX8_heaviest_27 : decode cX8_heaviest 27 = .ok (.iconst 0, 1) := by decide +kernel
theorem dX8_heaviest_28 : decode cX8_heaviest 28 = .ok (.ireturn, 1) := by decide +kernel
theorem dX8_measure_0 : decode cX8_measure 0 = .ok (.iload_n 1, 1) := by decide +kernel
theorem dX8_measure_1 : decode cX8_measure 1 = .ok (.tableswitch 59 0 2 #[27, 39, 45], 27) := by decide +kernel
theorem dX8_measure_28 : decode cX8_measure 28 = .ok (.aload_n 0, 1) := by decide +kernel
theorem dX8_measure_29 : decode cX8_measure 29 = .ok (.iconst 1, 1) := by decide +kernel
theorem dX8_measure_30 : decode cX8_measure 30 = .ok (.iload_n 2, 1) := by decide +kernel
theorem dX8_measure_31 : decode cX8_measure 31 = .ok (.ishl, 1) := by decide +kernel
theorem dX8_measure_32 : decode cX8_measure 32 = .ok (.aload_n 0, 1) := by decide +kernel
theorem dX8_measure_33 : decode cX8_measure 33 = .ok (.invokevirtual 90, 3) := by decide +kernel
theorem dX8_measure_36 : decode cX8_measure 36 = .ok (.invokevirtual 94, 3) := by decide +kernel
theorem dX8_measure_39 : decode cX8_measure 39 = .ok (.ireturn, 1) := by decide +kernel
theorem dX8_measure_40 : decode cX8_measure 40 = .ok (.aload_n 0, 1) := by decide +kernel
theorem dX8_measure_41 : decode cX8_measure 41 = .ok (.iload_n 2, 1) := by decide +kernel
theorem dX8_measure_42 : decode cX8_measure 42 = .ok (.invokevirtual 97, 3) := by decide +kernel
theorem dX8_measure_45 : decode cX8_measure 45 = .ok (.ireturn, 1) := by decide +kernel
theorem dX8_measure_46 : decode cX8_measure 46 = .ok (.aload_n 0, 1) := by decide +kernel
theorem dX8_measure_47 : decode cX8_measure 47 = .ok (.iconst 1, 1) := by decide +kernel
theorem dX8_measure_48 : decode cX8_measure 48 = .ok (.iload_n 2, 1) := by decide +kernel
theorem dX8_measure_49 : decode cX8_measure 49 = .ok (.ishl, 1) := by decide +kernel
theorem dX8_measure_50 : decode cX8_measure 50 = .ok (.aload_n 0, 1) := by decide +kernel
theorem dX8_measure_51 : decode cX8_measure 51 = .ok (.iload_n 2, 1) := by decide +kernel
theorem dX8_measure_52 : decode cX8_measure 52 = .ok (.iconst 1, 1) := by decide +kernel
theorem dX8_measure_53 : decode cX8_measure 53 = .ok (.invokevirtual 194, 3) := by decide +kernel
theorem dX8_measure_56 : decode cX8_measure 56 = .ok (.invokevirtual 94, 3) := by decide +kernel
theorem dX8_measure_59 : decode cX8_measure 59 = .ok (.ireturn, 1) := by decide +kernel
theorem dX8_measure_60 : decode cX8_measure 60 = .ok (.iload_n 2, 1) := by decide +kernel
theorem dX8_measure_61 : decode cX8_measure 61 = .ok (.ifCond .ne 8, 3) := by decide +kernel
theorem dX8_measure_64 : decode cX8_measure 64 = .ok (.ldc 217, 2) := by decide +kernel
theorem dX8_measure_66 : decode cX8_measure 66 = .ok (.goto 10, 3) := by decide +kernel
theorem dX8_measure_69 : decode cX8_measure 69 = .ok (.aload_n 0, 1) := by decide +kernel
theorem dX8_measure_70 : decode cX8_measure 70 = .ok (.iconst 0, 1) := by decide +kernel
theorem dX8_measure_71 : decode cX8_measure 71 = .ok (.iload_n 2, 1) := by decide +kernel
theorem dX8_measure_72 : decode cX8_measure 72 = .ok (.invokevirtual 188, 3) := by decide +kernel
theorem dX8_measure_75 : decode cX8_measure 75 = .ok (.ineg, 1) := by decide +kernel
theorem dX8_measure_76 : decode cX8_measure 76 = .ok (.ireturn, 1) := by decide +kernel
theorem dX8_ranked_0 : decode cX8_ranked 0 = .ok (.aload_n 0, 1) := by decide +kernel
theorem dX8_ranked_1 : decode cX8_ranked 1 = .ok (.iload_n 1, 1) := by decide +kernel
theorem dX8_ranked_2 : decode cX8_ranked 2 = .ok (.iconst 0, 1) := by decide +kernel
theorem dX8_ranked_3 : decode cX8_ranked 3 = .ok (.iconst 3, 1) := by decide +kernel
theorem dX8_ranked_4 : decode cX8_ranked 4 = .ok (.invokestatic 64, 3) := by decide +kernel
theorem dX8_ranked_7 : decode cX8_ranked 7 = .ok (.ifCond .eq 7, 3) := by decide +kernel
theorem dX8_ranked_10 : decode cX8_ranked 10 = .ok (.iconst 2, 1) := by decide +kernel
theorem dX8_ranked_11 : decode cX8_ranked 11 = .ok (.goto 4, 3) := by decide +kernel
theorem dX8_ranked_14 : decode cX8_ranked 14 = .ok (.iconst 1, 1) := by decide +kernel
theorem dX8_ranked_15 : decode cX8_ranked 15 = .ok (.putfield 42, 3) := by decide +kernel
theorem dX8_ranked_18 : decode cX8_ranked 18 = .ok (.aload_n 0, 1) := by decide +kernel
theorem dX8_ranked_19 : decode cX8_ranked 19 = .ok (.getfield 9, 3) := by decide +kernel
theorem dX8_ranked_22 : decode cX8_ranked 22 = .ok (.iconst 0, 1) := by decide +kernel
theorem dX8_ranked_23 : decode cX8_ranked 23 = .ok (.iaload, 1) := by decide +kernel
theorem dX8_ranked_24 : decode cX8_ranked 24 = .ok (.istore_n 3, 1) := by decide +kernel
theorem dX8_ranked_25 : decode cX8_ranked 25 = .ok (.iconst 0, 1) := by decide +kernel
theorem dX8_ranked_26 : decode cX8_ranked 26 = .ok (.istore 4, 2) := by decide +kernel
theorem dX8_ranked_28 : decode cX8_ranked 28 = .ok (.iload 4, 2) := by decide +kernel
theorem dX8_ranked_30 : decode cX8_ranked 30 = .ok (.iload_n 3, 1) := by decide +kernel
theorem dX8_ranked_31 : decode cX8_ranked 31 = .ok (.if_icmp .ge 31, 3) := by decide +kernel
theorem dX8_ranked_34 : decode cX8_ranked 34 = .ok (.aload_n 0, 1) := by decide +kernel
theorem dX8_ranked_35 : decode cX8_ranked 35 = .ok (.getfield 42, 3) := by decide +kernel
theorem dX8_ranked_38 : decode cX8_ranked 38 = .ok (.iconst 2, 1) := by decide +kernel
theorem dX8_ranked_39 : decode cX8_ranked 39 = .ok (.if_icmp .ne 23, 3) := by decide +kernel
theorem dX8_ranked_42 : decode cX8_ranked 42 = .ok (.aload_n 0, 1) := by decide +kernel
theorem dX8_ranked_43 : decode cX8_ranked 43 = .ok (.getfield 25, 3) := by decide +kernel
theorem dX8_ranked_46 : decode cX8_ranked 46 = .ok (.iload 4, 2) := by decide +kernel
theorem dX8_ranked_48 : decode cX8_ranked 48 = .ok (.aload_n 0, 1) := by decide +kernel
theorem dX8_ranked_49 : decode cX8_ranked 49 = .ok (.iload_n 1, 1) := by decide +kernel
theorem dX8_ranked_50 : decode cX8_ranked 50 = .ok (.iload 4, 2) := by decide +kernel
theorem dX8_ranked_52 : decode cX8_ranked 52 = .ok (.invokevirtual 218, 3) := by decide +kernel
theorem dX8_ranked_55 : decode cX8_ranked 55 = .ok (.iastore, 1) := by decide +kernel
theorem dX8_ranked_56 : decode cX8_ranked 56 = .ok (.iinc 4 1, 3) := by decide +kernel
theorem dX8_ranked_59 : decode cX8_ranked 59 = .ok (.goto (-31), 3) := by decide +kernel
theorem dX8_ranked_62 : decode cX8_ranked 62 = .ok (.iconst 0, 1) := by decide +kernel
theorem dX8_ranked_63 : decode cX8_ranked 63 = .ok (.istore 4, 2) := by decide +kernel
theorem dX8_ranked_65 : decode cX8_ranked 65 = .ok (.iload 4, 2) := by decide +kernel
theorem dX8_ranked_67 : decode cX8_ranked 67 = .ok (.iload_n 3, 1) := by decide +kernel
theorem dX8_ranked_68 : decode cX8_ranked 68 = .ok (.if_icmp .ge 100, 3) := by decide +kernel
theorem dX8_ranked_71 : decode cX8_ranked 71 = .ok (.aload_n 0, 1) := by decide +kernel
theorem dX8_ranked_72 : decode cX8_ranked 72 = .ok (.getfield 42, 3) := by decide +kernel
theorem dX8_ranked_75 : decode cX8_ranked 75 = .ok (.iconst 2, 1) := by decide +kernel
theorem dX8_ranked_76 : decode cX8_ranked 76 = .ok (.if_icmp .ne 92, 3) := by decide +kernel
theorem dX8_ranked_79 : decode cX8_ranked 79 = .ok (.iconst 0, 1) := by decide +kernel
theorem dX8_ranked_80 : decode cX8_ranked 80 = .ok (.istore 5, 2) := by decide +kernel
theorem dX8_ranked_82 : decode cX8_ranked 82 = .ok (.iconst 0, 1) := by decide +kernel
theorem dX8_ranked_83 : decode cX8_ranked 83 = .ok (.istore 6, 2) := by decide +kernel
theorem dX8_ranked_85 : decode cX8_ranked 85 = .ok (.iload 6, 2) := by decide +kernel
theorem dX8_ranked_87 : decode cX8_ranked 87 = .ok (.iload_n 3, 1) := by decide +kernel
theorem dX8_ranked_88 : decode cX8_ranked 88 = .ok (.if_icmp .ge 60, 3) := by decide +kernel
theorem dX8_ranked_91 : decode cX8_ranked 91 = .ok (.iload 5, 2) := by decide +kernel
theorem dX8_ranked_93 : decode cX8_ranked 93 = .ok (.aload_n 0, 1) := by decide +kernel
theorem dX8_ranked_94 : decode cX8_ranked 94 = .ok (.getfield 25, 3) := by decide +kernel
theorem dX8_ranked_97 : decode cX8_ranked 97 = .ok (.iload 6, 2) := by decide +kernel
theorem dX8_ranked_99 : decode cX8_ranked 99 = .ok (.iaload, 1) := by decide +kernel
theorem dX8_ranked_100 : decode cX8_ranked 100 = .ok (.aload_n 0, 1) := by decide +kernel
theorem dX8_ranked_101 : decode cX8_ranked 101 = .ok (.getfield 25, 3) := by decide +kernel
theorem dX8_ranked_104 : decode cX8_ranked 104 = .ok (.iload 4, 2) := by decide +kernel
theorem dX8_ranked_106 : decode cX8_ranked 106 = .ok (.iaload, 1) := by decide +kernel
theorem dX8_ranked_107 : decode cX8_ranked 107 = .ok (.if_icmp .gt 27, 3) := by decide +kernel
theorem dX8_ranked_110 : decode cX8_ranked 110 = .ok (.aload_n 0, 1) := by decide +kernel
theorem dX8_ranked_111 : decode cX8_ranked 111 = .ok (.getfield 25, 3) := by decide +kernel
theorem dX8_ranked_114 : decode cX8_ranked 114 = .ok (.iload 6, 2) := by decide +kernel
theorem dX8_ranked_116 : decode cX8_ranked 116 = .ok (.iaload, 1) := by decide +kernel
theorem dX8_ranked_117 : decode cX8_ranked 117 = .ok (.aload_n 0, 1) := by decide +kernel
theorem dX8_ranked_118 : decode cX8_ranked 118 = .ok (.getfield 25, 3) := by decide +kernel
theorem dX8_ranked_121 : decode cX8_ranked 121 = .ok (.iload 4, 2) := by decide +kernel
theorem dX8_ranked_123 : decode cX8_ranked 123 = .ok (.iaload, 1) := by decide +kernel
theorem dX8_ranked_124 : decode cX8_ranked 124 = .ok (.if_icmp .ne 14, 3) := by decide +kernel
theorem dX8_ranked_127 : decode cX8_ranked 127 = .ok (.iload 6, 2) := by decide +kernel
theorem dX8_ranked_129 : decode cX8_ranked 129 = .ok (.iload 4, 2) := by decide +kernel
theorem dX8_ranked_131 : decode cX8_ranked 131 = .ok (.if_icmp .ge 7, 3) := by decide +kernel
theorem dX8_ranked_134 : decode cX8_ranked 134 = .ok (.iconst 1, 1) := by decide +kernel
theorem dX8_ranked_135 : decode cX8_ranked 135 = .ok (.goto 4, 3) := by decide +kernel
theorem dX8_ranked_138 : decode cX8_ranked 138 = .ok (.iconst 0, 1) := by decide +kernel
theorem dX8_ranked_139 : decode cX8_ranked 139 = .ok (.iadd, 1) := by decide +kernel
theorem dX8_ranked_140 : decode cX8_ranked 140 = .ok (.istore 5, 2) := by decide +kernel
theorem dX8_ranked_142 : decode cX8_ranked 142 = .ok (.iinc 6 1, 3) := by decide +kernel
theorem dX8_ranked_145 : decode cX8_ranked 145 = .ok (.goto (-60), 3) := by decide +kernel
theorem dX8_ranked_148 : decode cX8_ranked 148 = .ok (.iload 5, 2) := by decide +kernel
theorem dX8_ranked_150 : decode cX8_ranked 150 = .ok (.iload_n 2, 1) := by decide +kernel
theorem dX8_ranked_151 : decode cX8_ranked 151 = .ok (.if_icmp .ne 11, 3) := by decide +kernel
theorem dX8_ranked_154 : decode cX8_ranked 154 = .ok (.aload_n 0, 1) := by decide +kernel
theorem dX8_ranked_155 : decode cX8_ranked 155 = .ok (.iconst 0, 1) := by decide +kernel
theorem dX8_ranked_156 : decode cX8_ranked 156 = .ok (.putfield 42, 3) := by decide +kernel
theorem dX8_ranked_159 : decode cX8_ranked 159 = .ok (.iload 4, 2) := by decide +kernel
theorem dX8_ranked_161 : decode cX8_ranked 161 = .ok (.ireturn, 1) := by decide +kernel
theorem dX8_ranked_162 : decode cX8_ranked 162 = .ok (.iinc 4 1, 3) := by decide +kernel
theorem dX8_ranked_165 : decode cX8_ranked 165 = .ok (.goto (-100), 3) := by decide +kernel
theorem dX8_ranked_168 : decode cX8_ranked 168 = .ok (.iconst 0, 1) := by decide +kernel
theorem dX8_ranked_169 : decode cX8_ranked 169 = .ok (.ireturn, 1) := by decide +kernel
theorem dX8_isTold_0 : decode cX8_isTold 0 = .ok (.aload_n 0, 1) := by decide +kernel
theorem dX8_isTold_1 : decode cX8_isTold 1 = .ok (.iconst 0, 1) := by decide +kernel
theorem dX8_isTold_2 : decode cX8_isTold 2 = .ok (.putfield 42, 3) := by decide +kernel
theorem dX8_isTold_5 : decode cX8_isTold 5 = .ok (.iconst 1, 1) := by decide +kernel
theorem dX8_isTold_6 : decode cX8_isTold 6 = .ok (.ireturn, 1) := by decide +kernel
theorem dX8_append_0 : decode cX8_append 0 = .ok (.aload_n 0, 1) := by decide +kernel
theorem dX8_append_1 : decode cX8_append 1 = .ok (.iload_n 1, 1) := by decide +kernel
theorem dX8_append_2 : decode cX8_append 2 = .ok (.bipush 32, 2) := by decide +kernel
theorem dX8_append_4 : decode cX8_append 4 = .ok (.bipush 126, 2) := by decide +kernel
theorem dX8_append_6 : decode cX8_append 6 = .ok (.invokestatic 64, 3) := by decide +kernel
theorem dX8_append_9 : decode cX8_append 9 = .ok (.ifCond .ne 7, 3) := by decide +kernel
theorem dX8_append_12 : decode cX8_append 12 = .ok (.iconst 1, 1) := by decide +kernel
theorem dX8_append_13 : decode cX8_append 13 = .ok (.goto 17, 3) := by decide +kernel
theorem dX8_append_16 : decode cX8_append 16 = .ok (.aload_n 0, 1) := by decide +kernel
theorem dX8_append_17 : decode cX8_append 17 = .ok (.getfield 221, 3) := by decide +kernel
theorem dX8_append_20 : decode cX8_append 20 = .ok (.bipush 60, 2) := by decide +kernel
theorem dX8_append_22 : decode cX8_append 22 = .ok (.if_icmp .ne 7, 3) := by decide +kernel
theorem dX8_append_25 : decode cX8_append 25 = .ok (.iconst 2, 1) := by decide +kernel
theorem dX8_append_26 : decode cX8_append 26 = .ok (.goto 4, 3) := by decide +kernel
theorem dX8_append_29 : decode cX8_append 29 = .ok (.iconst 0, 1) := by decide +kernel
theorem dX8_append_30 : decode cX8_append 30 = .ok (.putfield 42, 3) := by decide +kernel
theorem dX8_append_33 : decode cX8_append 33 = .ok (.aload_n 0, 1) := by decide +kernel
theorem dX8_append_34 : decode cX8_append 34 = .ok (.getfield 42, 3) := by decide +kernel
theorem dX8_append_37 : decode cX8_append 37 = .ok (.ifCond .eq 5, 3) := by decide +kernel
theorem dX8_append_40 : decode cX8_append 40 = .ok (.iconst 0, 1) := by decide +kernel
theorem dX8_append_41 : decode cX8_append 41 = .ok (.ireturn, 1) := by decide +kernel
theorem dX8_append_42 : decode cX8_append 42 = .ok (.aload_n 0, 1) := by decide +kernel
theorem dX8_append_43 : decode cX8_append 43 = .ok (.getfield 28, 3) := by decide +kernel
theorem dX8_append_46 : decode cX8_append 46 = .ok (.aload_n 0, 1) := by decide +kernel
theorem dX8_append_47 : decode cX8_append 47 = .ok (.getfield 221, 3) := by decide +kernel
theorem dX8_append_50 : decode cX8_append 50 = .ok (.iload_n 1, 1) := by decide +kernel
theorem dX8_append_51 : decode cX8_append 51 = .ok (.castore, 1) := by decide +kernel
theorem dX8_append_52 : decode cX8_append 52 = .ok (.aload_n 0, 1) := by decide +kernel
theorem dX8_append_53 : decode cX8_append 53 = .ok (.dup, 1) := by decide +kernel
theorem dX8_append_54 : decode cX8_append 54 = .ok (.getfield 221, 3) := by decide +kernel
theorem dX8_append_57 : decode cX8_append 57 = .ok (.iconst 1, 1) := by decide +kernel
theorem dX8_append_58 : decode cX8_append 58 = .ok (.iadd, 1) := by decide +kernel
theorem dX8_append_59 : decode cX8_append 59 = .ok (.putfield 221, 3) := by decide +kernel
theorem dX8_append_62 : decode cX8_append 62 = .ok (.aload_n 0, 1) := by decide +kernel
theorem dX8_append_63 : decode cX8_append 63 = .ok (.getfield 221, 3) := by decide +kernel
theorem dX8_append_66 : decode cX8_append 66 = .ok (.ireturn, 1) := by decide +kernel
theorem dX8_sign_0 : decode cX8_sign 0 = .ok (.aload_n 0, 1) := by decide +kernel
theorem dX8_sign_1 : decode cX8_sign 1 = .ok (.getfield 224, 3) := by decide +kernel
theorem dX8_sign_4 : decode cX8_sign 4 = .ok (.aload_n 0, 1) := by decide +kernel
theorem dX8_sign_5 : decode cX8_sign 5 = .ok (.getfield 221, 3) := by decide +kernel
theorem dX8_sign_8 : decode cX8_sign 8 = .ok (.if_icmp .ge 15, 3) := by decide +kernel
theorem dX8_sign_11 : decode cX8_sign 11 = .ok (.aload_n 0, 1) := by decide +kernel
theorem dX8_sign_12 : decode cX8_sign 12 = .ok (.getfield 28, 3) := by decide +kernel
theorem dX8_sign_15 : decode cX8_sign 15 = .ok (.aload_n 0, 1) := by decide +kernel
theorem dX8_sign_16 : decode cX8_sign 16 = .ok (.getfield 224, 3) := by decide +kernel
theorem dX8_sign_19 : decode cX8_sign 19 = .ok (.caload, 1) := by decide +kernel
theorem dX8_sign_20 : decode cX8_sign 20 = .ok (.goto 4, 3) := by decide +kernel
theorem dX8_sign_23 : decode cX8_sign 23 = .ok (.iconst (-1), 1) := by decide +kernel
theorem dX8_sign_24 : decode cX8_sign 24 = .ok (.ireturn, 1) := by decide +kernel
theorem dX8_needs_0 : decode cX8_needs 0 = .ok (.aload_n 0, 1) := by decide +kernel
theorem dX8_needs_1 : decode cX8_needs 1 = .ok (.getfield 227, 3) := by decide +kernel
theorem dX8_needs_4 : decode cX8_needs 4 = .ok (.ifCond .lt 4, 3) := by decide +kernel
theorem dX8_needs_7 : decode cX8_needs 7 = .ok (.return_, 1) := by decide +kernel
theorem dX8_needs_8 : decode cX8_needs 8 = .ok (.aload_n 0, 1) := by decide +kernel
theorem dX8_needs_9 : decode cX8_needs 9 = .ok (.invokevirtual 230, 3) := by decide +kernel
theorem dX8_needs_12 : decode cX8_needs 12 = .ok (.iload_n 1, 1) := by decide +kernel
theorem dX8_needs_13 : decode cX8_needs 13 = .ok (.if_icmp .eq 12, 3) := by decide +kernel
theorem dX8_needs_16 : decode cX8_needs 16 = .ok (.aload_n 0, 1) := by decide +kernel
theorem dX8_needs_17 : decode cX8_needs 17 = .ok (.aload_n 0, 1) := by decide +kernel
theorem dX8_needs_18 : decode cX8_needs 18 = .ok (.getfield 224, 3) := by decide +kernel
theorem dX8_needs_21 : decode cX8_needs 21 = .ok (.putfield 227, 3) := by decide +kernel
theorem dX8_needs_24 : decode cX8_needs 24 = .ok (.return_, 1) := by decide +kernel
theorem dX8_needs_25 : decode cX8_needs 25 = .ok (.aload_n 0, 1) := by decide +kernel
theorem dX8_needs_26 : decode cX8_needs 26 = .ok (.dup, 1) := by decide +kernel
theorem dX8_needs_27 : decode cX8_needs 27 = .ok (.getfield 224, 3) := by decide +kernel
theorem dX8_needs_30 : decode cX8_needs 30 = .ok (.iconst 1, 1) := by decide +kernel
theorem dX8_needs_31 : decode cX8_needs 31 = .ok (.iadd, 1) := by decide +kernel
theorem dX8_needs_32 : decode cX8_needs 32 = .ok (.putfield 224, 3) := by decide +kernel
theorem dX8_needs_35 : decode cX8_needs 35 = .ok (.return_, 1) := by decide +kernel
theorem dX8_signs_0 : decode cX8_signs 0 = .ok (.aload_n 0, 1) := by decide +kernel
theorem dX8_signs_1 : decode cX8_signs 1 = .ok (.iload_n 1, 1) := by decide +kernel
theorem dX8_signs_2 : decode cX8_signs 2 = .ok (.invokevirtual 233, 3) := by decide +kernel
theorem dX8_signs_5 : decode cX8_signs 5 = .ok (.aload_n 0, 1) := by decide +kernel
theorem dX8_signs_6 : decode cX8_signs 6 = .ok (.iload_n 2, 1) := by decide +kernel
theorem dX8_signs_7 : decode cX8_signs 7 = .ok (.invokevirtual 233, 3) := by decide +kernel
theorem dX8_signs_10 : decode cX8_signs 10 = .ok (.aload_n 0, 1) := by decide +kernel
theorem dX8_signs_11 : decode cX8_signs 11 = .ok (.iload_n 3, 1) := by decide +kernel
theorem dX8_signs_12 : decode cX8_signs 12 = .ok (.invokevirtual 233, 3) := by decide +kernel
theorem dX8_signs_15 : decode cX8_signs 15 = .ok (.return_, 1) := by decide +kernel
theorem dX8_number_0 : decode cX8_number 0 = .ok (.aload_n 0, 1) := by decide +kernel
theorem dX8_number_1 : decode cX8_number 1 = .ok (.bipush 32, 2) := by decide +kernel
theorem dX8_number_3 : decode cX8_number 3 = .ok (.invokevirtual 233, 3) := by decide +kernel
theorem dX8_number_6 : decode cX8_number 6 = .ok (.aload_n 0, 1) := by decide +kernel
theorem dX8_number_7 : decode cX8_number 7 = .ok (.getfield 227, 3) := by decide +kernel
theorem dX8_number_10 : decode cX8_number 10 = .ok (.ifCond .lt 5, 3) := by decide +kernel
theorem dX8_number_13 : decode cX8_number 13 = .ok (.iconst 0, 1) := by decide +kernel
theorem dX8_number_14 : decode cX8_number 14 = .ok (.ireturn, 1) := by decide +kernel
theorem dX8_number_15 : decode cX8_number 15 = .ok (.aload_n 0, 1) := by decide +kernel
theorem dX8_number_16 : decode cX8_number 16 = .ok (.invokevirtual 230, 3) := by decide +kernel
theorem dX8_number_19 : decode cX8_number 19 = .ok (.bipush 48, 2) := by decide +kernel
theorem dX8_number_21 : decode cX8_number 21 = .ok (.bipush 57, 2) := by decide +kernel
theorem dX8_number_23 : decode cX8_number 23 = .ok (.invokestatic 64, 3) := by decide +kernel
theorem dX8_number_26 : decode cX8_number 26 = .ok (.ifCond .ne 13, 3) := by decide +kernel
theorem dX8_number_29 : decode cX8_number 29 = .ok (.aload_n 0, 1) := by decide +kernel
theorem dX8_number_30 : decode cX8_number 30 = .ok (.aload_n 0, 1) := by decide +kernel
theorem dX8_number_31 : decode cX8_number 31 = .ok (.getfield 224, 3) := by decide +kernel
theorem dX8_number_34 : decode cX8_number 34 = .ok (.putfield 227, 3) := by decide +kernel
theorem dX8_number_37 : decode cX8_number 37 = .ok (.iconst 0, 1) := by decide +kernel
theorem dX8_number_38 : decode cX8_number 38 = .ok (.ireturn, 1) := by decide +kernel
theorem dX8_number_39 : decode cX8_number 39 = .ok (.iconst 0, 1) := by decide +kernel
theorem dX8_number_40 : decode cX8_number 40 = .ok (.istore_n 2, 1) := by decide +kernel
theorem dX8_number_41 : decode cX8_number 41 = .ok (.iconst 0, 1) := by decide +kernel
theorem dX8_number_42 : decode cX8_number 42 = .ok (.istore_n 3, 1) := by decide +kernel
theorem dX8_number_43 : decode cX8_number 43 = .ok (.iload_n 3, 1) := by decide +kernel
theorem dX8_number_44 : decode cX8_number 44 = .ok (.iload_n 1, 1) := by decide +kernel
theorem dX8_number_45 : decode cX8_number 45 = .ok (.if_icmp .ge 46, 3) := by decide +kernel
theorem dX8_number_48 : decode cX8_number 48 = .ok (.aload_n 0, 1) := by decide +kernel
theorem dX8_number_49 : decode cX8_number 49 = .ok (.invokevirtual 230, 3) := by decide +kernel
theorem dX8_number_52 : decode cX8_number 52 = .ok (.bipush 48, 2) := by decide +kernel
theorem dX8_number_54 : decode cX8_number 54 = .ok (.bipush 57, 2) := by decide +kernel
theorem dX8_number_56 : decode cX8_number 56 = .ok (.invokestatic 64, 3) := by decide +kernel
theorem dX8_number_59 : decode cX8_number 59 = .ok (.ifCond .eq 32, 3) := by decide +kernel
theorem dX8_number_62 : decode cX8_number 62 = .ok (.bipush 10, 2) := by decide +kernel
theorem dX8_number_64 : decode cX8_number 64 = .ok (.iload_n 2, 1) := by decide +kernel
theorem dX8_number_65 : decode cX8_number 65 = .ok (.imul, 1) := by decide +kernel
theorem dX8_number_66 : decode cX8_number 66 = .ok (.aload_n 0, 1) := by decide +kernel
theorem dX8_number_67 : decode cX8_number 67 = .ok (.invokevirtual 230, 3) := by decide +kernel
theorem dX8_number_70 : decode cX8_number 70 = .ok (.iadd, 1) := by decide +kernel
theorem dX8_number_71 : decode cX8_number 71 = .ok (.bipush 48, 2) := by decide +kernel
theorem dX8_number_73 : decode cX8_number 73 = .ok (.isub, 1) := by decide +kernel
theorem dX8_number_74 : decode cX8_number 74 = .ok (.istore_n 2, 1) := by decide +kernel
theorem dX8_number_75 : decode cX8_number 75 = .ok (.aload_n 0, 1) := by decide +kernel
theorem dX8_number_76 : decode cX8_number 76 = .ok (.dup, 1) := by decide +kernel
theorem dX8_number_77 : decode cX8_number 77 = .ok (.getfield 224, 3) := by decide +kernel
theorem dX8_number_80 : decode cX8_number 80 = .ok (.iconst 1, 1) := by decide +kernel
theorem dX8_number_81 : decode cX8_number 81 = .ok (.iadd, 1) := by decide +kernel
theorem dX8_number_82 : decode cX8_number 82 = .ok (.putfield 224, 3) := by decide +kernel
theorem dX8_number_85 : decode cX8_number 85 = .ok (.iinc 3 1, 3) := by decide +kernel
theorem dX8_number_88 : decode cX8_number 88 = .ok (.goto (-45), 3) := by decide +kernel
theorem dX8_number_91 : decode cX8_number 91 = .ok (.iload_n 2, 1) := by decide +kernel
theorem dX8_number_92 : decode cX8_number 92 = .ok (.ireturn, 1) := by decide +kernel
theorem dX8_word_0 : decode cX8_word 0 = .ok (.iload_n 1, 1) := by decide +kernel
theorem dX8_word_1 : decode cX8_word 1 = .ok (.tableswitch 179 98 115 #[115, 179, 179, 179, 179, 106, 87, 179, 179, 179, 128, 147, 179, 179, 179, 179, 179, 166], 87) := by decide +kernel
theorem dX8_word_88 : decode cX8_word 88 = .ok (.aload_n 0, 1) := by decide +kernel
theorem dX8_word_89 : decode cX8_word 89 = .ok (.bipush 111, 2) := by decide +kernel
theorem dX8_word_91 : decode cX8_word 91 = .ok (.bipush 117, 2) := by decide +kernel
theorem dX8_word_93 : decode cX8_word 93 = .ok (.bipush 115, 2) := by decide +kernel
theorem dX8_word_95 : decode cX8_word 95 = .ok (.invokevirtual 236, 3) := by decide +kernel
theorem dX8_word_98 : decode cX8_word 98 = .ok (.aload_n 0, 1) := by decide +kernel
theorem dX8_word_99 : decode cX8_word 99 = .ok (.bipush 101, 2) := by decide +kernel
theorem dX8_word_101 : decode cX8_word 101 = .ok (.invokevirtual 233, 3) := by decide +kernel
theorem dX8_word_104 : decode cX8_word 104 = .ok (.goto 86, 3) := by decide +kernel
theorem dX8_word_107 : decode cX8_word 107 = .ok (.aload_n 0, 1) := by decide +kernel
theorem dX8_word_108 : decode cX8_word 108 = .ok (.bipush 111, 2) := by decide +kernel
theorem dX8_word_110 : decode cX8_word 110 = .ok (.invokevirtual 233, 3) := by decide +kernel
theorem dX8_word_113 : decode cX8_word 113 = .ok (.goto 77, 3) := by decide +kernel
theorem dX8_word_116 : decode cX8_word 116 = .ok (.aload_n 0, 1) := by decide +kernel
theorem dX8_word_117 : decode cX8_word 117 = .ok (.bipush 111, 2) := by decide +kernel
theorem dX8_word_119 : decode cX8_word 119 = .ok (.bipush 110, 2) := by decide +kernel
theorem dX8_word_121 : decode cX8_word 121 = .ok (.bipush 100, 2) := by decide +kernel
theorem dX8_word_123 : decode cX8_word 123 = .ok (.invokevirtual 236, 3) := by decide +kernel
theorem dX8_word_126 : decode cX8_word 126 = .ok (.goto 64, 3) := by decide +kernel
theorem dX8_word_129 : decode cX8_word 129 = .ok (.aload_n 0, 1) := by decide +kernel
theorem dX8_word_130 : decode cX8_word 130 = .ok (.bipush 111, 2) := by decide +kernel
theorem dX8_word_132 : decode cX8_word 132 = .ok (.bipush 111, 2) := by decide +kernel
theorem dX8_word_134 : decode cX8_word 134 = .ok (.bipush 115, 2) := by decide +kernel
theorem dX8_word_136 : decode cX8_word 136 = .ok (.invokevirtual 236, 3) := by decide +kernel
theorem dX8_word_139 : decode cX8_word 139 = .ok (.aload_n 0, 1) := by decide +kernel
theorem dX8_word_140 : decode cX8_word 140 = .ok (.bipush 101, 2) := by decide +kernel
theorem dX8_word_142 : decode cX8_word 142 = .ok (.invokevirtual 233, 3) := by decide +kernel
theorem dX8_word_145 : decode cX8_word 145 = .ok (.goto 45, 3) := by decide +kernel
theorem dX8_word_148 : decode cX8_word 148 = .ok (.aload_n 0, 1) := by decide +kernel
theorem dX8_word_149 : decode cX8_word 149 = .ok (.bipush 97, 2) := by decide +kernel
theorem dX8_word_151 : decode cX8_word 151 = .ok (.bipush 114, 2) := by decide +kernel
theorem dX8_word_153 : decode cX8_word 153 = .ok (.bipush 114, 2) := by decide +kernel
theorem dX8_word_155 : decode cX8_word 155 = .ok (.invokevirtual 236, 3) := by decide +kernel
theorem dX8_word_158 : decode cX8_word 158 = .ok (.aload_n 0, 1) := by decide +kernel
theorem dX8_word_159 : decode cX8_word 159 = .ok (.bipush 121, 2) := by decide +kernel
theorem dX8_word_161 : decode cX8_word 161 = .ok (.invokevirtual 233, 3) := by decide +kernel
theorem dX8_word_164 : decode cX8_word 164 = .ok (.goto 26, 3) := by decide +kernel
theorem dX8_word_167 : decode cX8_word 167 = .ok (.aload_n 0, 1) := by decide +kernel
theorem dX8_word_168 : decode cX8_word 168 = .ok (.bipush 105, 2) := by decide +kernel
theorem dX8_word_170 : decode cX8_word 170 = .ok (.bipush 100, 2) := by decide +kernel
theorem dX8_word_172 : decode cX8_word 172 = .ok (.bipush 101, 2) := by decide +kernel
theorem dX8_word_174 : decode cX8_word 174 = .ok (.invokevirtual 236, 3) := by decide +kernel
theorem dX8_word_177 : decode cX8_word 177 = .ok (.goto 13, 3) := by decide +kernel
theorem dX8_word_180 : decode cX8_word 180 = .ok (.aload_n 0, 1) := by decide +kernel
theorem dX8_word_181 : decode cX8_word 181 = .ok (.bipush 97, 2) := by decide +kernel
theorem dX8_word_183 : decode cX8_word 183 = .ok (.bipush 114, 2) := by decide +kernel
theorem dX8_word_185 : decode cX8_word 185 = .ok (.bipush 116, 2) := by decide +kernel
theorem dX8_word_187 : decode cX8_word 187 = .ok (.invokevirtual 236, 3) := by decide +kernel
theorem dX8_word_190 : decode cX8_word 190 = .ok (.return_, 1) := by decide +kernel
theorem dX8_order_0 : decode cX8_order 0 = .ok (.iconst 4, 1) := by decide +kernel
theorem dX8_order_1 : decode cX8_order 1 = .ok (.aload_n 0, 1) := by decide +kernel
theorem dX8_order_2 : decode cX8_order 2 = .ok (.getfield 239, 3) := by decide +kernel
theorem dX8_order_5 : decode cX8_order 5 = .ok (.imul, 1) := by decide +kernel
theorem dX8_order_6 : decode cX8_order 6 = .ok (.istore_n 1, 1) := by decide +kernel
theorem dX8_order_7 : decode cX8_order 7 = .ok (.aload_n 0, 1) := by decide +kernel
theorem dX8_order_8 : decode cX8_order 8 = .ok (.dup, 1) := by decide +kernel
theorem dX8_order_9 : decode cX8_order 9 = .ok (.getfield 239, 3) := by decide +kernel
theorem dX8_order_12 : decode cX8_order 12 = .ok (.iconst 1, 1) := by decide +kernel
theorem dX8_order_13 : decode cX8_order 13 = .ok (.iadd, 1) := by decide +kernel
theorem dX8_order_14 : decode cX8_order 14 = .ok (.putfield 239, 3) := by decide +kernel
theorem dX8_order_17 : decode cX8_order 17 = .ok (.aload_n 0, 1) := by decide +kernel
theorem dX8_order_18 : decode cX8_order 18 = .ok (.invokevirtual 230, 3) := by decide +kernel
theorem dX8_order_21 : decode cX8_order 21 = .ok (.istore_n 2, 1) := by decide +kernel
theorem dX8_order_22 : decode cX8_order 22 = .ok (.iconst 0, 1) := by decide +kernel
theorem dX8_order_23 : decode cX8_order 23 = .ok (.istore_n 3, 1) := by decide +kernel
theorem dX8_order_24 : decode cX8_order 24 = .ok (.iload_n 3, 1) := by decide +kernel
theorem dX8_order_25 : decode cX8_order 25 = .ok (.iconst 4, 1) := by decide +kernel
theorem dX8_order_26 : decode cX8_order 26 = .ok (.if_icmp .ge 18, 3) := by decide +kernel
theorem dX8_order_29 : decode cX8_order 29 = .ok (.aload_n 0, 1) := by decide +kernel
theorem dX8_order_30 : decode cX8_order 30 = .ok (.getfield 36, 3) := by decide +kernel
theorem dX8_order_33 : decode cX8_order 33 = .ok (.iload_n 1, 1) := by decide +kernel
theorem dX8_order_34 : decode cX8_order 34 = .ok (.iload_n 3, 1) := by decide +kernel
theorem dX8_order_35 : decode cX8_order 35 = .ok (.iadd, 1) := by decide +kernel
theorem dX8_order_36 : decode cX8_order 36 = .ok (.iconst 0, 1) := by decide +kernel
theorem dX8_order_37 : decode cX8_order 37 = .ok (.iastore, 1) := by decide +kernel
theorem dX8_order_38 : decode cX8_order 38 = .ok (.iinc 3 1, 3) := by decide +kernel
theorem dX8_order_41 : decode cX8_order 41 = .ok (.goto (-17), 3) := by decide +kernel
theorem dX8_order_44 : decode cX8_order 44 = .ok (.iload_n 2, 1) := by decide +kernel
theorem dX8_order_45 : decode cX8_order 45 = .ok (.bipush 104, 2) := by decide +kernel
theorem dX8_order_47 : decode cX8_order 47 = .ok (.if_icmp .eq 48, 3) := by decide +kernel
theorem dX8_order_50 : decode cX8_order 50 = .ok (.iload_n 2, 1) := by decide +kernel
theorem dX8_order_51 : decode cX8_order 51 = .ok (.bipush 103, 2) := by decide +kernel
theorem dX8_order_53 : decode cX8_order 53 = .ok (.if_icmp .eq 42, 3) := by decide +kernel
theorem dX8_order_56 : decode cX8_order 56 = .ok (.iload_n 2, 1) := by decide +kernel
theorem dX8_order_57 : decode cX8_order 57 = .ok (.bipush 98, 2) := by decide +kernel
theorem dX8_order_59 : decode cX8_order 59 = .ok (.if_icmp .eq 36, 3) := by decide +kernel
theorem dX8_order_62 : decode cX8_order 62 = .ok (.iload_n 2, 1) := by decide +kernel
theorem dX8_order_63 : decode cX8_order 63 = .ok (.bipush 108, 2) := by decide +kernel
theorem dX8_order_65 : decode cX8_order 65 = .ok (.if_icmp .eq 30, 3) := by decide +kernel
theorem dX8_order_68 : decode cX8_order 68 = .ok (.iload_n 2, 1) := by decide +kernel
theorem dX8_order_69 : decode cX8_order 69 = .ok (.bipush 109, 2) := by decide +kernel
theorem dX8_order_71 : decode cX8_order 71 = .ok (.if_icmp .eq 24, 3) := by decide +kernel
theorem dX8_order_74 : decode cX8_order 74 = .ok (.iload_n 2, 1) := by decide +kernel
theorem dX8_order_75 : decode cX8_order 75 = .ok (.bipush 115, 2) := by decide +kernel
theorem dX8_order_77 : decode cX8_order 77 = .ok (.if_icmp .eq 18, 3) := by decide +kernel
theorem dX8_order_80 : decode cX8_order 80 = .ok (.iload_n 2, 1) := by decide +kernel
theorem dX8_order_81 : decode cX8_order 81 = .ok (.bipush 112, 2) := by decide +kernel
theorem dX8_order_83 : decode cX8_order 83 = .ok (.if_icmp .eq 12, 3) := by decide +kernel
theorem dX8_order_86 : decode cX8_order 86 = .ok (.aload_n 0, 1) := by decide +kernel
theorem dX8_order_87 : decode cX8_order 87 = .ok (.aload_n 0, 1) := by decide +kernel
theorem dX8_order_88 : decode cX8_order 88 = .ok (.getfield 224, 3) := by decide +kernel
theorem dX8_order_91 : decode cX8_order 91 = .ok (.putfield 227, 3) := by decide +kernel
theorem dX8_order_94 : decode cX8_order 94 = .ok (.return_, 1) := by decide +kernel
theorem dX8_order_95 : decode cX8_order 95 = .ok (.aload_n 0, 1) := by decide +kernel
theorem dX8_order_96 : decode cX8_order 96 = .ok (.dup, 1) := by decide +kernel
theorem dX8_order_97 : decode cX8_order 97 = .ok (.getfield 224, 3) := by decide +kernel
theorem dX8_order_100 : decode cX8_order 100 = .ok (.iconst 1, 1) := by decide +kernel
theorem dX8_order_101 : decode cX8_order 101 = .ok (.iadd, 1) := by decide +kernel
theorem dX8_order_102 : decode cX8_order 102 = .ok (.putfield 224, 3) := by decide +kernel
theorem dX8_order_105 : decode cX8_order 105 = .ok (.aload_n 0, 1) := by decide +kernel
theorem dX8_order_106 : decode cX8_order 106 = .ok (.iload_n 2, 1) := by decide +kernel
theorem dX8_order_107 : decode cX8_order 107 = .ok (.invokevirtual 242, 3) := by decide +kernel
theorem dX8_order_110 : decode cX8_order 110 = .ok (.aload_n 0, 1) := by decide +kernel
theorem dX8_order_111 : decode cX8_order 111 = .ok (.getfield 36, 3) := by decide +kernel
theorem dX8_order_114 : decode cX8_order 114 = .ok (.iload_n 1, 1) := by decide +kernel
theorem dX8_order_115 : decode cX8_order 115 = .ok (.iload_n 2, 1) := by decide +kernel
theorem dX8_order_116 : decode cX8_order 116 = .ok (.iastore, 1) := by decide +kernel
theorem dX8_order_117 : decode cX8_order 117 = .ok (.iload_n 2, 1) := by decide +kernel
theorem dX8_order_118 : decode cX8_order 118 = .ok (.bipush 104, 2) := by decide +kernel
theorem dX8_order_120 : decode cX8_order 120 = .ok (.if_icmp .eq 9, 3) := by decide +kernel
theorem dX8_order_123 : decode cX8_order 123 = .ok (.iload_n 2, 1) := by decide +kernel
theorem dX8_order_124 : decode cX8_order 124 = .ok (.bipush 112, 2) := by decide +kernel
theorem dX8_order_126 : decode cX8_order 126 = .ok (.if_icmp .ne 4, 3) := by decide +kernel
theorem dX8_order_129 : decode cX8_order 129 = .ok (.return_, 1) := by decide +kernel
theorem dX8_order_130 : decode cX8_order 130 = .ok (.aload_n 0, 1) := by decide +kernel
theorem dX8_order_131 : decode cX8_order 131 = .ok (.getfield 36, 3) := by decide +kernel
theorem dX8_order_134 : decode cX8_order 134 = .ok (.iload_n 1, 1) := by decide +kernel
theorem dX8_order_135 : decode cX8_order 135 = .ok (.iconst 1, 1) := by decide +kernel
theorem dX8_order_136 : decode cX8_order 136 = .ok (.iadd, 1) := by decide +kernel
theorem dX8_order_137 : decode cX8_order 137 = .ok (.aload_n 0, 1) := by decide +kernel
theorem dX8_order_138 : decode cX8_order 138 = .ok (.iconst 1, 1) := by decide +kernel
theorem dX8_order_139 : decode cX8_order 139 = .ok (.invokevirtual 245, 3) := by decide +kernel
theorem dX8_order_142 : decode cX8_order 142 = .ok (.iastore, 1) := by decide +kernel
theorem dX8_order_143 : decode cX8_order 143 = .ok (.iload_n 2, 1) := by decide +kernel
theorem dX8_order_144 : decode cX8_order 144 = .ok (.bipush 103, 2) := by decide +kernel
theorem dX8_order_146 : decode cX8_order 146 = .ok (.if_icmp .ne 4, 3) := by decide +kernel
theorem dX8_order_149 : decode cX8_order 149 = .ok (.return_, 1) := by decide +kernel
theorem dX8_order_150 : decode cX8_order 150 = .ok (.aload_n 0, 1) := by decide +kernel
theorem dX8_order_151 : decode cX8_order 151 = .ok (.getfield 36, 3) := by decide +kernel
theorem dX8_order_154 : decode cX8_order 154 = .ok (.iload_n 1, 1) := by decide +kernel
theorem dX8_order_155 : decode cX8_order 155 = .ok (.iconst 2, 1) := by decide +kernel
theorem dX8_order_156 : decode cX8_order 156 = .ok (.iadd, 1) := by decide +kernel
theorem dX8_order_157 : decode cX8_order 157 = .ok (.aload_n 0, 1) := by decide +kernel
theorem dX8_order_158 : decode cX8_order 158 = .ok (.iconst 1, 1) := by decide +kernel
theorem dX8_order_159 : decode cX8_order 159 = .ok (.invokevirtual 245, 3) := by decide +kernel
theorem dX8_order_162 : decode cX8_order 162 = .ok (.iastore, 1) := by decide +kernel
theorem dX8_order_163 : decode cX8_order 163 = .ok (.iload_n 2, 1) := by decide +kernel
theorem dX8_order_164 : decode cX8_order 164 = .ok (.bipush 98, 2) := by decide +kernel
theorem dX8_order_166 : decode cX8_order 166 = .ok (.if_icmp .ne 16, 3) := by decide +kernel
theorem dX8_order_169 : decode cX8_order 169 = .ok (.aload_n 0, 1) := by decide +kernel
theorem dX8_order_170 : decode cX8_order 170 = .ok (.getfield 36, 3) := by decide +kernel
theorem dX8_order_173 : decode cX8_order 173 = .ok (.iload_n 1, 1) := by decide +kernel
theorem dX8_order_174 : decode cX8_order 174 = .ok (.iconst 3, 1) := by decide +kernel
theorem dX8_order_175 : decode cX8_order 175 = .ok (.iadd, 1) := by decide +kernel
theorem dX8_order_176 : decode cX8_order 176 = .ok (.aload_n 0, 1) := by decide +kernel
theorem dX8_order_177 : decode cX8_order 177 = .ok (.iconst 2, 1) := by decide +kernel
theorem dX8_order_178 : decode cX8_order 178 = .ok (.invokevirtual 245, 3) := by decide +kernel
theorem dX8_order_181 : decode cX8_order 181 = .ok (.iastore, 1) := by decide +kernel
theorem dX8_order_182 : decode cX8_order 182 = .ok (.return_, 1) := by decide +kernel
theorem dX8_parse_0 : decode cX8_parse 0 = .ok (.aload_n 0, 1) := by decide +kernel
theorem dX8_parse_1 : decode cX8_parse 1 = .ok (.iconst 0, 1) := by decide +kernel
theorem dX8_parse_2 : decode cX8_parse 2 = .ok (.putfield 224, 3) := by decide +kernel
theorem dX8_parse_5 : decode cX8_parse 5 = .ok (.aload_n 0, 1) := by decide +kernel
theorem dX8_parse_6 : decode cX8_parse 6 = .ok (.iconst (-1), 1) := by decide +kernel
theorem dX8_parse_7 : decode cX8_parse 7 = .ok (.putfield 227, 3) := by decide +kernel
theorem dX8_parse_10 : decode cX8_parse 10 = .ok (.aload_n 0, 1) := by decide +kernel
theorem dX8_parse_11 : decode cX8_parse 11 = .ok (.iconst 0, 1) := by decide +kernel
theorem dX8_parse_12 : decode cX8_parse 12 = .ok (.putfield 239, 3) := by decide +kernel
theorem dX8_parse_15 : decode cX8_parse 15 = .ok (.aload_n 0, 1) := by decide +kernel
theorem dX8_parse_16 : decode cX8_parse 16 = .ok (.invokevirtual 248, 3) := by decide +kernel
theorem dX8_parse_19 : decode cX8_parse 19 = .ok (.aload_n 0, 1) := by decide +kernel
theorem dX8_parse_20 : decode cX8_parse 20 = .ok (.getfield 227, 3) := by decide +kernel
theorem dX8_parse_23 : decode cX8_parse 23 = .ok (.ifCond .ge 29, 3) := by decide +kernel
theorem dX8_parse_26 : decode cX8_parse 26 = .ok (.aload_n 0, 1) := by decide +kernel
theorem dX8_parse_27 : decode cX8_parse 27 = .ok (.invokevirtual 230, 3) := by decide +kernel
theorem dX8_parse_30 : decode cX8_parse 30 = .ok (.bipush 59, 2) := by decide +kernel
theorem dX8_parse_32 : decode cX8_parse 32 = .ok (.if_icmp .ne 20, 3) := by decide +kernel
theorem dX8_parse_35 : decode cX8_parse 35 = .ok (.aload_n 0, 1) := by decide +kernel
theorem dX8_parse_36 : decode cX8_parse 36 = .ok (.dup, 1) := by decide +kernel
theorem dX8_parse_37 : decode cX8_parse 37 = .ok (.getfield 224, 3) := by decide +kernel
theorem dX8_parse_40 : decode cX8_parse 40 = .ok (.iconst 1, 1) := by decide +kernel
theorem dX8_parse_41 : decode cX8_parse 41 = .ok (.iadd, 1) := by decide +kernel
theorem dX8_parse_42 : decode cX8_parse 42 = .ok (.putfield 224, 3) := by decide +kernel
theorem dX8_parse_45 : decode cX8_parse 45 = .ok (.aload_n 0, 1) := by decide +kernel
theorem dX8_parse_46 : decode cX8_parse 46 = .ok (.invokevirtual 248, 3) := by decide +kernel
theorem dX8_parse_49 : decode cX8_parse 49 = .ok (.goto (-30), 3) := by decide +kernel
theorem dX8_parse_52 : decode cX8_parse 52 = .ok (.aload_n 0, 1) := by decide +kernel
theorem dX8_parse_53 : decode cX8_parse 53 = .ok (.getfield 227, 3) := by decide +kernel
theorem dX8_parse_56 : decode cX8_parse 56 = .ok (.ifCond .ge 22, 3) := by decide +kernel
theorem dX8_parse_59 : decode cX8_parse 59 = .ok (.aload_n 0, 1) := by decide +kernel
theorem dX8_parse_60 : decode cX8_parse 60 = .ok (.getfield 224, 3) := by decide +kernel
theorem dX8_parse_63 : decode cX8_parse 63 = .ok (.aload_n 0, 1) := by decide +kernel
theorem dX8_parse_64 : decode cX8_parse 64 = .ok (.getfield 221, 3) := by decide +kernel
theorem dX8_parse_67 : decode cX8_parse 67 = .ok (.if_icmp .ge 11, 3) := by decide +kernel
theorem dX8_parse_70 : decode cX8_parse 70 = .ok (.aload_n 0, 1) := by decide +kernel
theorem dX8_parse_71 : decode cX8_parse 71 = .ok (.aload_n 0, 1) := by decide +kernel
theorem dX8_parse_72 : decode cX8_parse 72 = .ok (.getfield 224, 3) := by decide +kernel
theorem dX8_parse_75 : decode cX8_parse 75 = .ok (.putfield 227, 3) := by decide +kernel
theorem dX8_parse_78 : decode cX8_parse 78 = .ok (.return_, 1) := by decide +kernel
theorem dX8_does_0 : decode cX8_does 0 = .ok (.aload_n 0, 1) := by decide +kernel
theorem dX8_does_1 : decode cX8_does 1 = .ok (.getfield 36, 3) := by decide +kernel
theorem dX8_does_4 : decode cX8_does 4 = .ok (.iload_n 1, 1) := by decide +kernel
theorem dX8_does_5 : decode cX8_does 5 = .ok (.iconst 1, 1) := by decide +kernel
theorem dX8_does_6 : decode cX8_does 6 = .ok (.iadd, 1) := by decide +kernel
theorem dX8_does_7 : decode cX8_does 7 = .ok (.iaload, 1) := by decide +kernel
theorem dX8_does_8 : decode cX8_does 8 = .ok (.istore_n 2, 1) := by decide +kernel
theorem dX8_does_9 : decode cX8_does 9 = .ok (.aload_n 0, 1) := by decide +kernel
theorem dX8_does_10 : decode cX8_does 10 = .ok (.getfield 36, 3) := by decide +kernel
theorem dX8_does_13 : decode cX8_does 13 = .ok (.iload_n 1, 1) := by decide +kernel
theorem dX8_does_14 : decode cX8_does 14 = .ok (.iconst 2, 1) := by decide +kernel
theorem dX8_does_15 : decode cX8_does 15 = .ok (.iadd, 1) := by decide +kernel
theorem dX8_does_16 : decode cX8_does 16 = .ok (.iaload, 1) := by decide +kernel
theorem dX8_does_17 : decode cX8_does 17 = .ok (.istore_n 3, 1) := by decide +kernel
theorem dX8_does_18 : decode cX8_does 18 = .ok (.aload_n 0, 1) := by decide +kernel
theorem dX8_does_19 : decode cX8_does 19 = .ok (.getfield 36, 3) := by decide +kernel
theorem dX8_does_22 : decode cX8_does 22 = .ok (.iload_n 1, 1) := by decide +kernel
theorem dX8_does_23 : decode cX8_does 23 = .ok (.iaload, 1) := by decide +kernel
theorem dX8_does_24 : decode cX8_does 24 = .ok (.tableswitch 135 98 115 #[99, 135, 135, 135, 135, 93, 88, 135, 135, 135, 114, 121, 135, 135, 135, 135, 135, 128], 88) := by decide +kernel
theorem dX8_does_112 : decode cX8_does 112 = .ok (.aload_n 0, 1) := by decide +kernel
theorem dX8_does_113 : decode cX8_does 113 = .ok (.invokevirtual 108, 3) := by decide +kernel
theorem dX8_does_116 : decode cX8_does 116 = .ok (.ireturn, 1) := by decide +kernel
theorem dX8_does_117 : decode cX8_does 117 = .ok (.aload_n 0, 1) := by decide +kernel
theorem dX8_does_118 : decode cX8_does 118 = .ok (.iload_n 2, 1) := by decide +kernel
theorem dX8_does_119 : decode cX8_does 119 = .ok (.invokevirtual 120, 3) := by decide +kernel
theorem dX8_does_122 : decode cX8_does 122 = .ok (.ireturn, 1) := by decide +kernel
theorem dX8_does_123 : decode cX8_does 123 = .ok (.aload_n 0, 1) := by decide +kernel
theorem dX8_does_124 : decode cX8_does 124 = .ok (.iload_n 2, 1) := by decide +kernel
theorem dX8_does_125 : decode cX8_does 125 = .ok (.iload_n 3, 1) := by decide +kernel
theorem dX8_does_126 : decode cX8_does 126 = .ok (.aload_n 0, 1) := by decide +kernel
theorem dX8_does_127 : decode cX8_does 127 = .ok (.getfield 36, 3) := by decide +kernel
theorem dX8_does_130 : decode cX8_does 130 = .ok (.iload_n 1, 1) := by decide +kernel
theorem dX8_does_131 : decode cX8_does 131 = .ok (.iconst 3, 1) := by decide +kernel
theorem dX8_does_132 : decode cX8_does 132 = .ok (.iadd, 1) := by decide +kernel
theorem dX8_does_133 : decode cX8_does 133 = .ok (.iaload, 1) := by decide +kernel
theorem dX8_does_134 : decode cX8_does 134 = .ok (.invokevirtual 126, 3) := by decide +kernel
theorem dX8_does_137 : decode cX8_does 137 = .ok (.ireturn, 1) := by decide +kernel
theorem dX8_does_138 : decode cX8_does 138 = .ok (.aload_n 0, 1) := by decide +kernel
theorem dX8_does_139 : decode cX8_does 139 = .ok (.iload_n 2, 1) := by decide +kernel
theorem dX8_does_140 : decode cX8_does 140 = .ok (.iload_n 3, 1) := by decide +kernel
theorem dX8_does_141 : decode cX8_does 141 = .ok (.invokevirtual 132, 3) := by decide +kernel
theorem dX8_does_144 : decode cX8_does 144 = .ok (.ireturn, 1) := by decide +kernel
theorem dX8_does_145 : decode cX8_does 145 = .ok (.aload_n 0, 1) := by decide +kernel
theorem dX8_does_146 : decode cX8_does 146 = .ok (.iload_n 2, 1) := by decide +kernel
theorem dX8_does_147 : decode cX8_does 147 = .ok (.iload_n 3, 1) := by decide +kernel
theorem dX8_does_148 : decode cX8_does 148 = .ok (.invokevirtual 135, 3) := by decide +kernel
theorem dX8_does_151 : decode cX8_does 151 = .ok (.ireturn, 1) := by decide +kernel
theorem dX8_does_152 : decode cX8_does 152 = .ok (.aload_n 0, 1) := by decide +kernel
theorem dX8_does_153 : decode cX8_does 153 = .ok (.iload_n 2, 1) := by decide +kernel
theorem dX8_does_154 : decode cX8_does 154 = .ok (.iload_n 3, 1) := by decide +kernel
theorem dX8_does_155 : decode cX8_does 155 = .ok (.invokevirtual 144, 3) := by decide +kernel
theorem dX8_does_158 : decode cX8_does 158 = .ok (.ireturn, 1) := by decide +kernel
theorem dX8_does_159 : decode cX8_does 159 = .ok (.aload_n 0, 1) := by decide +kernel
theorem dX8_does_160 : decode cX8_does 160 = .ok (.invokevirtual 153, 3) := by decide +kernel
theorem dX8_does_163 : decode cX8_does 163 = .ok (.ireturn, 1) := by decide +kernel
theorem dX8_run_0 : decode cX8_run 0 = .ok (.aload_n 0, 1) := by decide +kernel
theorem dX8_run_1 : decode cX8_run 1 = .ok (.invokevirtual 251, 3) := by decide +kernel
theorem dX8_run_4 : decode cX8_run 4 = .ok (.aload_n 0, 1) := by decide +kernel
theorem dX8_run_5 : decode cX8_run 5 = .ok (.iconst 0, 1) := by decide +kernel
theorem dX8_run_6 : decode cX8_run 6 = .ok (.putfield 221, 3) := by decide +kernel
theorem dX8_run_9 : decode cX8_run 9 = .ok (.aload_n 0, 1) := by decide +kernel
theorem dX8_run_10 : decode cX8_run 10 = .ok (.aload_n 0, 1) := by decide +kernel
theorem dX8_run_11 : decode cX8_run 11 = .ok (.getfield 227, 3) := by decide +kernel
theorem dX8_run_14 : decode cX8_run 14 = .ok (.putfield 32, 3) := by decide +kernel
theorem dX8_run_17 : decode cX8_run 17 = .ok (.aload_n 0, 1) := by decide +kernel
theorem dX8_run_18 : decode cX8_run 18 = .ok (.getfield 227, 3) := by decide +kernel
theorem dX8_run_21 : decode cX8_run 21 = .ok (.ifCond .lt 10, 3) := by decide +kernel
theorem dX8_run_24 : decode cX8_run 24 = .ok (.aload_n 0, 1) := by decide +kernel
theorem dX8_run_25 : decode cX8_run 25 = .ok (.iconst 1, 1) := by decide +kernel
theorem dX8_run_26 : decode cX8_run 26 = .ok (.putfield 42, 3) := by decide +kernel
theorem dX8_run_29 : decode cX8_run 29 = .ok (.iconst 0, 1) := by decide +kernel
theorem dX8_run_30 : decode cX8_run 30 = .ok (.ireturn, 1) := by decide +kernel
theorem dX8_run_31 : decode cX8_run 31 = .ok (.aload_n 0, 1) := by decide +kernel
theorem dX8_run_32 : decode cX8_run 32 = .ok (.invokevirtual 105, 3) := by decide +kernel
theorem dX8_run_35 : decode cX8_run 35 = .ok (.iconst 0, 1) := by decide +kernel
theorem dX8_run_36 : decode cX8_run 36 = .ok (.istore_n 1, 1) := by decide +kernel
theorem dX8_run_37 : decode cX8_run 37 = .ok (.iload_n 1, 1) := by decide +kernel
theorem dX8_run_38 : decode cX8_run 38 = .ok (.aload_n 0, 1) := by decide +kernel
theorem dX8_run_39 : decode cX8_run 39 = .ok (.getfield 239, 3) := by decide +kernel
theorem dX8_run_42 : decode cX8_run 42 = .ok (.if_icmp .ge 19, 3) := by decide +kernel
theorem dX8_run_45 : decode cX8_run 45 = .ok (.aload_n 0, 1) := by decide +kernel
theorem dX8_run_46 : decode cX8_run 46 = .ok (.iconst 4, 1) := by decide +kernel
theorem dX8_run_47 : decode cX8_run 47 = .ok (.iload_n 1, 1) := by decide +kernel
theorem dX8_run_48 : decode cX8_run 48 = .ok (.imul, 1) := by decide +kernel
theorem dX8_run_49 : decode cX8_run 49 = .ok (.invokevirtual 254, 3) := by decide +kernel
theorem dX8_run_52 : decode cX8_run 52 = .ok (.ifCond .eq 9, 3) := by decide +kernel
theorem dX8_run_55 : decode cX8_run 55 = .ok (.iinc 1 1, 3) := by decide +kernel
theorem dX8_run_58 : decode cX8_run 58 = .ok (.goto (-21), 3) := by decide +kernel
theorem dX8_run_61 : decode cX8_run 61 = .ok (.iload_n 1, 1) := by decide +kernel
theorem dX8_run_62 : decode cX8_run 62 = .ok (.aload_n 0, 1) := by decide +kernel
theorem dX8_run_63 : decode cX8_run 63 = .ok (.getfield 239, 3) := by decide +kernel
theorem dX8_run_66 : decode cX8_run 66 = .ok (.if_icmp .ge 30, 3) := by decide +kernel
theorem dX8_run_69 : decode cX8_run 69 = .ok (.aload_n 0, 1) := by decide +kernel
theorem dX8_run_70 : decode cX8_run 70 = .ok (.aload_n 0, 1) := by decide +kernel
theorem dX8_run_71 : decode cX8_run 71 = .ok (.getfield 55, 3) := by decide +kernel
theorem dX8_run_74 : decode cX8_run 74 = .ok (.putfield 61, 3) := by decide +kernel
theorem dX8_run_77 : decode cX8_run 77 = .ok (.aload_n 0, 1) := by decide +kernel
theorem dX8_run_78 : decode cX8_run 78 = .ok (.aload_n 0, 1) := by decide +kernel
theorem dX8_run_79 : decode cX8_run 79 = .ok (.getfield 58, 3) := by decide +kernel
theorem dX8_run_82 : decode cX8_run 82 = .ok (.putfield 68, 3) := by decide +kernel
theorem dX8_run_85 : decode cX8_run 85 = .ok (.aload_n 0, 1) := by decide +kernel
theorem dX8_run_86 : decode cX8_run 86 = .ok (.bipush 8, 2) := by decide +kernel
theorem dX8_run_88 : decode cX8_run 88 = .ok (.putfield 55, 3) := by decide +kernel
theorem dX8_run_91 : decode cX8_run 91 = .ok (.aload_n 0, 1) := by decide +kernel
theorem dX8_run_92 : decode cX8_run 92 = .ok (.iload_n 1, 1) := by decide +kernel
theorem dX8_run_93 : decode cX8_run 93 = .ok (.putfield 58, 3) := by decide +kernel
theorem dX8_run_96 : decode cX8_run 96 = .ok (.aload_n 0, 1) := by decide +kernel
theorem dX8_run_97 : decode cX8_run 97 = .ok (.aload_n 0, 1) := by decide +kernel
theorem dX8_run_98 : decode cX8_run 98 = .ok (.getfield 239, 3) := by decide +kernel
theorem dX8_run_101 : decode cX8_run 101 = .ok (.putfield 52, 3) := by decide +kernel
theorem dX8_run_104 : decode cX8_run 104 = .ok (.aload_n 0, 1) := by decide +kernel
theorem dX8_run_105 : decode cX8_run 105 = .ok (.iload_n 1, 1) := by decide +kernel
theorem dX8_run_106 : decode cX8_run 106 = .ok (.aload_n 0, 1) := by decide +kernel
theorem dX8_run_107 : decode cX8_run 107 = .ok (.getfield 239, 3) := by decide +kernel
theorem dX8_run_110 : decode cX8_run 110 = .ok (.if_icmp .ne 7, 3) := by decide +kernel
theorem dX8_run_113 : decode cX8_run 113 = .ok (.iconst 1, 1) := by decide +kernel
theorem dX8_run_114 : decode cX8_run 114 = .ok (.goto 4, 3) := by decide +kernel
theorem dX8_run_117 : decode cX8_run 117 = .ok (.iconst 0, 1) := by decide +kernel
theorem dX8_run_118 : decode cX8_run 118 = .ok (.iconst 2, 1) := by decide +kernel
theorem dX8_run_119 : decode cX8_run 119 = .ok (.invokevirtual 112, 3) := by decide +kernel
theorem dX8_run_122 : decode cX8_run 122 = .ok (.ireturn, 1) := by decide +kernel
theorem dX8_faultPosition_0 : decode cX8_faultPosition 0 = .ok (.aload_n 0, 1) := by decide +kernel
theorem dX8_faultPosition_1 : decode cX8_faultPosition 1 = .ok (.iconst 0, 1) := by decide +kernel
theorem dX8_faultPosition_2 : decode cX8_faultPosition 2 = .ok (.putfield 42, 3) := by decide +kernel
theorem dX8_faultPosition_5 : decode cX8_faultPosition 5 = .ok (.aload_n 0, 1) := by decide +kernel
theorem dX8_faultPosition_6 : decode cX8_faultPosition 6 = .ok (.getfield 32, 3) := by decide +kernel
theorem dX8_faultPosition_9 : decode cX8_faultPosition 9 = .ok (.ireturn, 1) := by decide +kernel
theorem dX8_writes_0 : decode cX8_writes 0 = .ok (.aload_n 0, 1) := by decide +kernel
theorem dX8_writes_1 : decode cX8_writes 1 = .ok (.getfield 39, 3) := by decide +kernel
theorem dX8_writes_4 : decode cX8_writes 4 = .ok (.aload_n 0, 1) := by decide +kernel
theorem dX8_writes_5 : decode cX8_writes 5 = .ok (.getfield 257, 3) := by decide +kernel
theorem dX8_writes_8 : decode cX8_writes 8 = .ok (.iload_n 1, 1) := by decide +kernel
theorem dX8_writes_9 : decode cX8_writes 9 = .ok (.i2c, 1) := by decide +kernel
theorem dX8_writes_10 : decode cX8_writes 10 = .ok (.castore, 1) := by decide +kernel
theorem dX8_writes_11 : decode cX8_writes 11 = .ok (.aload_n 0, 1) := by decide +kernel
theorem dX8_writes_12 : decode cX8_writes 12 = .ok (.dup, 1) := by decide +kernel
theorem dX8_writes_13 : decode cX8_writes 13 = .ok (.getfield 257, 3) := by decide +kernel
theorem dX8_writes_16 : decode cX8_writes 16 = .ok (.iconst 1, 1) := by decide +kernel
theorem dX8_writes_17 : decode cX8_writes 17 = .ok (.iadd, 1) := by decide +kernel
theorem dX8_writes_18 : decode cX8_writes 18 = .ok (.putfield 257, 3) := by decide +kernel
theorem dX8_writes_21 : decode cX8_writes 21 = .ok (.return_, 1) := by decide +kernel
theorem dX8_writesNumber_0 : decode cX8_writesNumber 0 = .ok (.iload_n 1, 1) := by decide +kernel
theorem dX8_writesNumber_1 : decode cX8_writesNumber 1 = .ok (.bipush 9, 2) := by decide +kernel
theorem dX8_writesNumber_3 : decode cX8_writesNumber 3 = .ok (.if_icmp .le 11, 3) := by decide +kernel
theorem dX8_writesNumber_6 : decode cX8_writesNumber 6 = .ok (.aload_n 0, 1) := by decide +kernel
theorem dX8_writesNumber_7 : decode cX8_writesNumber 7 = .ok (.iload_n 1, 1) := by decide +kernel
theorem dX8_writesNumber_8 : decode cX8_writesNumber 8 = .ok (.bipush 10, 2) := by decide +kernel
theorem dX8_writesNumber_10 : decode cX8_writesNumber 10 = .ok (.idiv, 1) := by decide +kernel
theorem dX8_writesNumber_11 : decode cX8_writesNumber 11 = .ok (.invokevirtual 260, 3) := by decide +kernel
theorem dX8_writesNumber_14 : decode cX8_writesNumber 14 = .ok (.aload_n 0, 1) := by decide +kernel
theorem dX8_writesNumber_15 : decode cX8_writesNumber 15 = .ok (.bipush 48, 2) := by decide +kernel
theorem dX8_writesNumber_17 : decode cX8_writesNumber 17 = .ok (.iload_n 1, 1) := by decide +kernel
theorem dX8_writesNumber_18 : decode cX8_writesNumber 18 = .ok (.bipush 10, 2) := by decide +kernel
theorem dX8_writesNumber_20 : decode cX8_writesNumber 20 = .ok (.irem, 1) := by decide +kernel
theorem dX8_writesNumber_21 : decode cX8_writesNumber 21 = .ok (.iadd, 1) := by decide +kernel
theorem dX8_writesNumber_22 : decode cX8_writesNumber 22 = .ok (.invokevirtual 263, 3) := by decide +kernel
theorem dX8_writesNumber_25 : decode cX8_writesNumber 25 = .ok (.return_, 1) := by decide +kernel
theorem dX8_writesSet_0 : decode cX8_writesSet 0 = .ok (.iconst 0, 1) := by decide +kernel
theorem dX8_writesSet_1 : decode cX8_writesSet 1 = .ok (.istore_n 2, 1) := by decide +kernel
theorem dX8_writesSet_2 : decode cX8_writesSet 2 = .ok (.iload_n 2, 1) := by decide +kernel
theorem dX8_writesSet_3 : decode cX8_writesSet 3 = .ok (.aload_n 0, 1) := by decide +kernel
theorem dX8_writesSet_4 : decode cX8_writesSet 4 = .ok (.getfield 9, 3) := by decide +kernel
theorem dX8_writesSet_7 : decode cX8_writesSet 7 = .ok (.iconst 0, 1) := by decide +kernel
theorem dX8_writesSet_8 : decode cX8_writesSet 8 = .ok (.iaload, 1) := by decide +kernel
theorem dX8_writesSet_9 : decode cX8_writesSet 9 = .ok (.if_icmp .ge 25, 3) := by decide +kernel
theorem dX8_writesSet_12 : decode cX8_writesSet 12 = .ok (.iload_n 1, 1) := by decide +kernel
theorem dX8_writesSet_13 : decode cX8_writesSet 13 = .ok (.iload_n 2, 1) := by decide +kernel
theorem dX8_writesSet_14 : decode cX8_writesSet 14 = .ok (.invokestatic 82, 3) := by decide +kernel
theorem dX8_writesSet_17 : decode cX8_writesSet 17 = .ok (.ifCond .eq 11, 3) := by decide +kernel
theorem dX8_writesSet_20 : decode cX8_writesSet 20 = .ok (.aload_n 0, 1) := by decide +kernel
theorem dX8_writesSet_21 : decode cX8_writesSet 21 = .ok (.bipush 48, 2) := by decide +kernel
theorem dX8_writesSet_23 : decode cX8_writesSet 23 = .ok (.iload_n 2, 1) := by decide +kernel
theorem dX8_writesSet_24 : decode cX8_writesSet 24 = .ok (.iadd, 1) := by decide +kernel
theorem dX8_writesSet_25 : decode cX8_writesSet 25 = .ok (.invokevirtual 263, 3) := by decide +kernel
theorem dX8_writesSet_28 : decode cX8_writesSet 28 = .ok (.iinc 2 1, 3) := by decide +kernel
theorem dX8_writesSet_31 : decode cX8_writesSet 31 = .ok (.goto (-29), 3) := by decide +kernel
theorem dX8_writesSet_34 : decode cX8_writesSet 34 = .ok (.return_, 1) := by decide +kernel
theorem dX8_tell_0 : decode cX8_tell 0 = .ok (.aload_n 0, 1) := by decide +kernel
theorem dX8_tell_1 : decode cX8_tell 1 = .ok (.iconst 0, 1) := by decide +kernel
theorem dX8_tell_2 : decode cX8_tell 2 = .ok (.putfield 42, 3) := by decide +kernel
theorem dX8_tell_5 : decode cX8_tell 5 = .ok (.aload_n 0, 1) := by decide +kernel
theorem dX8_tell_6 : decode cX8_tell 6 = .ok (.iconst 0, 1) := by decide +kernel
theorem dX8_tell_7 : decode cX8_tell 7 = .ok (.putfield 257, 3) := by decide +kernel
theorem dX8_tell_10 : decode cX8_tell 10 = .ok (.aload_n 0, 1) := by decide +kernel
theorem dX8_tell_11 : decode cX8_tell 11 = .ok (.invokevirtual 129, 3) := by decide +kernel
theorem dX8_tell_14 : decode cX8_tell 14 = .ok (.istore_n 1, 1) := by decide +kernel
theorem dX8_tell_15 : decode cX8_tell 15 = .ok (.iconst 0, 1) := by decide +kernel
theorem dX8_tell_16 : decode cX8_tell 16 = .ok (.istore_n 2, 1) := by decide +kernel
theorem dX8_tell_17 : decode cX8_tell 17 = .ok (.iload_n 2, 1) := by decide +kernel
theorem dX8_tell_18 : decode cX8_tell 18 = .ok (.iload_n 1, 1) := by decide +kernel
theorem dX8_tell_19 : decode cX8_tell 19 = .ok (.if_icmp .ge 69, 3) := by decide +kernel
theorem dX8_tell_22 : decode cX8_tell 22 = .ok (.aload_n 0, 1) := by decide +kernel
theorem dX8_tell_23 : decode cX8_tell 23 = .ok (.iload_n 2, 1) := by decide +kernel
theorem dX8_tell_24 : decode cX8_tell 24 = .ok (.invokevirtual 214, 3) := by decide +kernel
theorem dX8_tell_27 : decode cX8_tell 27 = .ok (.istore_n 3, 1) := by decide +kernel
theorem dX8_tell_28 : decode cX8_tell 28 = .ok (.iload_n 2, 1) := by decide +kernel
theorem dX8_tell_29 : decode cX8_tell 29 = .ok (.ifCond .le 9, 3) := by decide +kernel
theorem dX8_tell_32 : decode cX8_tell 32 = .ok (.aload_n 0, 1) := by decide +kernel
theorem dX8_tell_33 : decode cX8_tell 33 = .ok (.bipush 32, 2) := by decide +kernel
theorem dX8_tell_35 : decode cX8_tell 35 = .ok (.invokevirtual 263, 3) := by decide +kernel
theorem dX8_tell_38 : decode cX8_tell 38 = .ok (.aload_n 0, 1) := by decide +kernel
theorem dX8_tell_39 : decode cX8_tell 39 = .ok (.bipush 48, 2) := by decide +kernel
theorem dX8_tell_41 : decode cX8_tell 41 = .ok (.iload_n 3, 1) := by decide +kernel
theorem dX8_tell_42 : decode cX8_tell 42 = .ok (.bipush 10, 2) := by decide +kernel
theorem dX8_tell_44 : decode cX8_tell 44 = .ok (.idiv, 1) := by decide +kernel
theorem dX8_tell_45 : decode cX8_tell 45 = .ok (.iadd, 1) := by decide +kernel
theorem dX8_tell_46 : decode cX8_tell 46 = .ok (.invokevirtual 263, 3) := by decide +kernel
theorem dX8_tell_49 : decode cX8_tell 49 = .ok (.aload_n 0, 1) := by decide +kernel
theorem dX8_tell_50 : decode cX8_tell 50 = .ok (.bipush 48, 2) := by decide +kernel
theorem dX8_tell_52 : decode cX8_tell 52 = .ok (.iload_n 3, 1) := by decide +kernel
theorem dX8_tell_53 : decode cX8_tell 53 = .ok (.bipush 10, 2) := by decide +kernel
theorem dX8_tell_55 : decode cX8_tell 55 = .ok (.irem, 1) := by decide +kernel
theorem dX8_tell_56 : decode cX8_tell 56 = .ok (.iadd, 1) := by decide +kernel
theorem dX8_tell_57 : decode cX8_tell 57 = .ok (.invokevirtual 263, 3) := by decide +kernel
theorem dX8_tell_60 : decode cX8_tell 60 = .ok (.aload_n 0, 1) := by decide +kernel
theorem dX8_tell_61 : decode cX8_tell 61 = .ok (.bipush 61, 2) := by decide +kernel
theorem dX8_tell_63 : decode cX8_tell 63 = .ok (.invokevirtual 263, 3) := by decide +kernel
theorem dX8_tell_66 : decode cX8_tell 66 = .ok (.aload_n 0, 1) := by decide +kernel
theorem dX8_tell_67 : decode cX8_tell 67 = .ok (.aload_n 0, 1) := by decide +kernel
theorem dX8_tell_68 : decode cX8_tell 68 = .ok (.iload_n 3, 1) := by decide +kernel
theorem dX8_tell_69 : decode cX8_tell 69 = .ok (.bipush 10, 2) := by decide +kernel
theorem dX8_tell_71 : decode cX8_tell 71 = .ok (.idiv, 1) := by decide +kernel
theorem dX8_tell_72 : decode cX8_tell 72 = .ok (.iload_n 3, 1) := by decide +kernel
theorem dX8_tell_73 : decode cX8_tell 73 = .ok (.bipush 10, 2) := by decide +kernel
theorem dX8_tell_75 : decode cX8_tell 75 = .ok (.irem, 1) := by decide +kernel
theorem dX8_tell_76 : decode cX8_tell 76 = .ok (.invokevirtual 86, 3) := by decide +kernel
theorem dX8_tell_79 : decode cX8_tell 79 = .ok (.invokevirtual 260, 3) := by decide +kernel
theorem dX8_tell_82 : decode cX8_tell 82 = .ok (.iinc 2 1, 3) := by decide +kernel
theorem dX8_tell_85 : decode cX8_tell 85 = .ok (.goto (-68), 3) := by decide +kernel
theorem dX8_tell_88 : decode cX8_tell 88 = .ok (.aload_n 0, 1) := by decide +kernel
theorem dX8_tell_89 : decode cX8_tell 89 = .ok (.getfield 257, 3) := by decide +kernel
theorem dX8_tell_92 : decode cX8_tell 92 = .ok (.ireturn, 1) := by decide +kernel
theorem dX8_tellPhase_0 : decode cX8_tellPhase 0 = .ok (.aload_n 0, 1) := by decide +kernel
theorem dX8_tellPhase_1 : decode cX8_tellPhase 1 = .ok (.aload_n 0, 1) := by decide +kernel
theorem dX8_tellPhase_2 : decode cX8_tellPhase 2 = .ok (.iload_n 1, 1) := by decide +kernel
theorem dX8_tellPhase_3 : decode cX8_tellPhase 3 = .ok (.invokevirtual 169, 3) := by decide +kernel
theorem dX8_tellPhase_6 : decode cX8_tellPhase 6 = .ok (.invokevirtual 175, 3) := by decide +kernel
theorem dX8_tellPhase_9 : decode cX8_tellPhase 9 = .ok (.ifCond .ne 5, 3) := by decide +kernel
theorem dX8_tellPhase_12 : decode cX8_tellPhase 12 = .ok (.iconst 0, 1) := by decide +kernel
theorem dX8_tellPhase_13 : decode cX8_tellPhase 13 = .ok (.ireturn, 1) := by decide +kernel
theorem dX8_tellPhase_14 : decode cX8_tellPhase 14 = .ok (.aload_n 0, 1) := by decide +kernel
theorem dX8_tellPhase_15 : decode cX8_tellPhase 15 = .ok (.invokevirtual 147, 3) := by decide +kernel
theorem dX8_tellPhase_18 : decode cX8_tellPhase 18 = .ok (.aload_n 0, 1) := by decide +kernel
theorem dX8_tellPhase_19 : decode cX8_tellPhase 19 = .ok (.iconst 0, 1) := by decide +kernel
theorem dX8_tellPhase_20 : decode cX8_tellPhase 20 = .ok (.putfield 257, 3) := by decide +kernel
theorem dX8_tellPhase_23 : decode cX8_tellPhase 23 = .ok (.iconst 0, 1) := by decide +kernel
theorem dX8_tellPhase_24 : decode cX8_tellPhase 24 = .ok (.istore_n 2, 1) := by decide +kernel
theorem dX8_tellPhase_25 : decode cX8_tellPhase 25 = .ok (.iload_n 2, 1) := by decide +kernel
theorem dX8_tellPhase_26 : decode cX8_tellPhase 26 = .ok (.aload_n 0, 1) := by decide +kernel
theorem dX8_tellPhase_27 : decode cX8_tellPhase 27 = .ok (.getfield 9, 3) := by decide +kernel
theorem dX8_tellPhase_30 : decode cX8_tellPhase 30 = .ok (.iconst 0, 1) := by decide +kernel
theorem dX8_tellPhase_31 : decode cX8_tellPhase 31 = .ok (.iaload, 1) := by decide +kernel
theorem dX8_tellPhase_32 : decode cX8_tellPhase 32 = .ok (.iload_n 1, 1) := by decide +kernel
theorem dX8_tellPhase_33 : decode cX8_tellPhase 33 = .ok (.isub, 1) := by decide +kernel
theorem dX8_tellPhase_34 : decode cX8_tellPhase 34 = .ok (.if_icmp .ge 34, 3) := by decide +kernel
theorem dX8_tellPhase_37 : decode cX8_tellPhase 37 = .ok (.iload_n 2, 1) := by decide +kernel
theorem dX8_tellPhase_38 : decode cX8_tellPhase 38 = .ok (.ifCond .le 9, 3) := by decide +kernel
theorem dX8_tellPhase_41 : decode cX8_tellPhase 41 = .ok (.aload_n 0, 1) := by decide +kernel
theorem dX8_tellPhase_42 : decode cX8_tellPhase 42 = .ok (.bipush 60, 2) := by decide +kernel
theorem dX8_tellPhase_44 : decode cX8_tellPhase 44 = .ok (.invokevirtual 263, 3) := by decide +kernel
theorem dX8_tellPhase_47 : decode cX8_tellPhase 47 = .ok (.aload_n 0, 1) := by decide +kernel
theorem dX8_tellPhase_48 : decode cX8_tellPhase 48 = .ok (.aload_n 0, 1) := by decide +kernel
theorem dX8_tellPhase_49 : decode cX8_tellPhase 49 = .ok (.getfield 13, 3) := by decide +kernel
theorem dX8_tellPhase_52 : decode cX8_tellPhase 52 = .ok (.bipush 9, 2) := by decide +kernel
theorem dX8_tellPhase_54 : decode cX8_tellPhase 54 = .ok (.iload_n 1, 1) := by decide +kernel
theorem dX8_tellPhase_55 : decode cX8_tellPhase 55 = .ok (.imul, 1) := by decide +kernel
theorem dX8_tellPhase_56 : decode cX8_tellPhase 56 = .ok (.iload_n 2, 1) := by decide +kernel
theorem dX8_tellPhase_57 : decode cX8_tellPhase 57 = .ok (.iadd, 1) := by decide +kernel
theorem dX8_tellPhase_58 : decode cX8_tellPhase 58 = .ok (.iaload, 1) := by decide +kernel
theorem dX8_tellPhase_59 : decode cX8_tellPhase 59 = .ok (.invokevirtual 266, 3) := by decide +kernel
theorem dX8_tellPhase_62 : decode cX8_tellPhase 62 = .ok (.iinc 2 1, 3) := by decide +kernel
theorem dX8_tellPhase_65 : decode cX8_tellPhase 65 = .ok (.goto (-40), 3) := by decide +kernel
theorem dX8_tellPhase_68 : decode cX8_tellPhase 68 = .ok (.aload_n 0, 1) := by decide +kernel
theorem dX8_tellPhase_69 : decode cX8_tellPhase 69 = .ok (.bipush 61, 2) := by decide +kernel
theorem dX8_tellPhase_71 : decode cX8_tellPhase 71 = .ok (.invokevirtual 263, 3) := by decide +kernel
theorem dX8_tellPhase_74 : decode cX8_tellPhase 74 = .ok (.aload_n 0, 1) := by decide +kernel
theorem dX8_tellPhase_75 : decode cX8_tellPhase 75 = .ok (.aload_n 0, 1) := by decide +kernel
theorem dX8_tellPhase_76 : decode cX8_tellPhase 76 = .ok (.getfield 19, 3) := by decide +kernel
theorem dX8_tellPhase_79 : decode cX8_tellPhase 79 = .ok (.iload_n 1, 1) := by decide +kernel
theorem dX8_tellPhase_80 : decode cX8_tellPhase 80 = .ok (.iaload, 1) := by decide +kernel
theorem dX8_tellPhase_81 : decode cX8_tellPhase 81 = .ok (.invokevirtual 260, 3) := by decide +kernel
theorem dX8_tellPhase_84 : decode cX8_tellPhase 84 = .ok (.aload_n 0, 1) := by decide +kernel
theorem dX8_tellPhase_85 : decode cX8_tellPhase 85 = .ok (.getfield 257, 3) := by decide +kernel
theorem dX8_tellPhase_88 : decode cX8_tellPhase 88 = .ok (.ireturn, 1) := by decide +kernel
theorem dX8_tellSides_0 : decode cX8_tellSides 0 = .ok (.aload_n 0, 1) := by decide +kernel
theorem dX8_tellSides_1 : decode cX8_tellSides 1 = .ok (.iconst 0, 1) := by decide +kernel
theorem dX8_tellSides_2 : decode cX8_tellSides 2 = .ok (.putfield 42, 3) := by decide +kernel
theorem dX8_tellSides_5 : decode cX8_tellSides 5 = .ok (.aload_n 0, 1) := by decide +kernel
theorem dX8_tellSides_6 : decode cX8_tellSides 6 = .ok (.iconst 0, 1) := by decide +kernel
theorem dX8_tellSides_7 : decode cX8_tellSides 7 = .ok (.putfield 257, 3) := by decide +kernel
