theorem dX11_take_117 : decode cX11_take 117 = .ok (.getfield 27, 3) := by decide +kernel
theorem dX11_take_120 : decode cX11_take 120 = .ok (.getfield 109, 3) := by decide +kernel
theorem dX11_take_123 : decode cX11_take 123 = .ok (.putfield 13, 3) := by decide +kernel
theorem dX11_take_126 : decode cX11_take 126 = .ok (.iload_n 1, 1) := by decide +kernel
theorem dX11_take_127 : decode cX11_take 127 = .ok (.ireturn, 1) := by decide +kernel
theorem dX11_pass_0 : decode cX11_pass 0 = .ok (.iload_n 1, 1) := by decide +kernel
theorem dX11_pass_1 : decode cX11_pass 1 = .ok (.aload_n 0, 1) := by decide +kernel
theorem dX11_pass_2 : decode cX11_pass 2 = .ok (.getfield 38, 3) := by decide +kernel
theorem dX11_pass_5 : decode cX11_pass 5 = .ok (.getfield 89, 3) := by decide +kernel
theorem dX11_pass_8 : decode cX11_pass 8 = .ok (.if_icmp .lt 9, 3) := by decide +kernel
theorem dX11_pass_11 : decode cX11_pass 11 = .ok (.iload_n 1, 1) := by decide +kernel
theorem dX11_pass_12 : decode cX11_pass 12 = .ok (.ldc 110, 2) := by decide +kernel
theorem dX11_pass_14 : decode cX11_pass 14 = .ok (.if_icmp .le 5, 3) := by decide +kernel
theorem dX11_pass_17 : decode cX11_pass 17 = .ok (.iconst 0, 1) := by decide +kernel
theorem dX11_pass_18 : decode cX11_pass 18 = .ok (.ireturn, 1) := by decide +kernel
theorem dX11_pass_19 : decode cX11_pass 19 = .ok (.aload_n 0, 1) := by decide +kernel
theorem dX11_pass_20 : decode cX11_pass 20 = .ok (.getfield 38, 3) := by decide +kernel
theorem dX11_pass_23 : decode cX11_pass 23 = .ok (.iload_n 1, 1) := by decide +kernel
theorem dX11_pass_24 : decode cX11_pass 24 = .ok (.invokevirtual 101, 3) := by decide +kernel
theorem dX11_pass_27 : decode cX11_pass 27 = .ok (.iconst 1, 1) := by decide +kernel
theorem dX11_pass_28 : decode cX11_pass 28 = .ok (.ireturn, 1) := by decide +kernel
theorem dX11_count_0 : decode cX11_count 0 = .ok (.iload_n 1, 1) := by decide +kernel
theorem dX11_count_1 : decode cX11_count 1 = .ok (.tableswitch 108 0 7 #[47, 55, 63, 71, 79, 87, 95, 100], 47) := by decide +kernel
theorem dX11_count_48 : decode cX11_count 48 = .ok (.aload_n 0, 1) := by decide +kernel
theorem dX11_count_49 : decode cX11_count 49 = .ok (.getfield 38, 3) := by decide +kernel
theorem dX11_count_52 : decode cX11_count 52 = .ok (.getfield 77, 3) := by decide +kernel
theorem dX11_count_55 : decode cX11_count 55 = .ok (.ireturn, 1) := by decide +kernel
theorem dX11_count_56 : decode cX11_count 56 = .ok (.aload_n 0, 1) := by decide +kernel
theorem dX11_count_57 : decode cX11_count 57 = .ok (.getfield 38, 3) := by decide +kernel
theorem dX11_count_60 : decode cX11_count 60 = .ok (.getfield 111, 3) := by decide +kernel
theorem dX11_count_63 : decode cX11_count 63 = .ok (.ireturn, 1) := by decide +kernel
theorem dX11_count_64 : decode cX11_count 64 = .ok (.aload_n 0, 1) := by decide +kernel
theorem dX11_count_65 : decode cX11_count 65 = .ok (.getfield 38, 3) := by decide +kernel
theorem dX11_count_68 : decode cX11_count 68 = .ok (.getfield 114, 3) := by decide +kernel
theorem dX11_count_71 : decode cX11_count 71 = .ok (.ireturn, 1) := by decide +kernel
theorem dX11_count_72 : decode cX11_count 72 = .ok (.aload_n 0, 1) := by decide +kernel
theorem dX11_count_73 : decode cX11_count 73 = .ok (.getfield 38, 3) := by decide +kernel
theorem dX11_count_76 : decode cX11_count 76 = .ok (.getfield 117, 3) := by decide +kernel
theorem dX11_count_79 : decode cX11_count 79 = .ok (.ireturn, 1) := by decide +kernel
theorem dX11_count_80 : decode cX11_count 80 = .ok (.aload_n 0, 1) := by decide +kernel
theorem dX11_count_81 : decode cX11_count 81 = .ok (.getfield 38, 3) := by decide +kernel
theorem dX11_count_84 : decode cX11_count 84 = .ok (.getfield 120, 3) := by decide +kernel
theorem dX11_count_87 : decode cX11_count 87 = .ok (.ireturn, 1) := by decide +kernel
theorem dX11_count_88 : decode cX11_count 88 = .ok (.aload_n 0, 1) := by decide +kernel
theorem dX11_count_89 : decode cX11_count 89 = .ok (.getfield 38, 3) := by decide +kernel
theorem dX11_count_92 : decode cX11_count 92 = .ok (.getfield 89, 3) := by decide +kernel
theorem dX11_count_95 : decode cX11_count 95 = .ok (.ireturn, 1) := by decide +kernel
theorem dX11_count_96 : decode cX11_count 96 = .ok (.aload_n 0, 1) := by decide +kernel
theorem dX11_count_97 : decode cX11_count 97 = .ok (.getfield 42, 3) := by decide +kernel
theorem dX11_count_100 : decode cX11_count 100 = .ok (.ireturn, 1) := by decide +kernel
theorem dX11_count_101 : decode cX11_count 101 = .ok (.aload_n 0, 1) := by decide +kernel
theorem dX11_count_102 : decode cX11_count 102 = .ok (.getfield 27, 3) := by decide +kernel
theorem dX11_count_105 : decode cX11_count 105 = .ok (.getfield 123, 3) := by decide +kernel
theorem dX11_count_108 : decode cX11_count 108 = .ok (.ireturn, 1) := by decide +kernel
theorem dX11_count_109 : decode cX11_count 109 = .ok (.iconst (-1), 1) := by decide +kernel
theorem dX11_count_110 : decode cX11_count 110 = .ok (.ireturn, 1) := by decide +kernel
theorem dX11_alert_0 : decode cX11_alert 0 = .ok (.aload_n 0, 1) := by decide +kernel
theorem dX11_alert_1 : decode cX11_alert 1 = .ok (.getfield 38, 3) := by decide +kernel
theorem dX11_alert_4 : decode cX11_alert 4 = .ok (.iload_n 1, 1) := by decide +kernel
theorem dX11_alert_5 : decode cX11_alert 5 = .ok (.invokevirtual 126, 3) := by decide +kernel
theorem dX11_alert_8 : decode cX11_alert 8 = .ok (.astore_n 3, 1) := by decide +kernel
theorem dX11_alert_9 : decode cX11_alert 9 = .ok (.aload_n 3, 1) := by decide +kernel
theorem dX11_alert_10 : decode cX11_alert 10 = .ok (.ifnonnull 13, 3) := by decide +kernel
theorem dX11_alert_13 : decode cX11_alert 13 = .ok (.new 130, 3) := by decide +kernel
theorem dX11_alert_16 : decode cX11_alert 16 = .ok (.dup, 1) := by decide +kernel
theorem dX11_alert_17 : decode cX11_alert 17 = .ok (.ldc 132, 2) := by decide +kernel
theorem dX11_alert_19 : decode cX11_alert 19 = .ok (.invokespecial 134, 3) := by decide +kernel
theorem dX11_alert_22 : decode cX11_alert 22 = .ok (.athrow, 1) := by decide +kernel
theorem dX11_alert_23 : decode cX11_alert 23 = .ok (.iload_n 2, 1) := by decide +kernel
theorem dX11_alert_24 : decode cX11_alert 24 = .ok (.tableswitch 61 0 4 #[36, 41, 46, 51, 56], 36) := by decide +kernel
theorem dX11_alert_60 : decode cX11_alert 60 = .ok (.aload_n 3, 1) := by decide +kernel
theorem dX11_alert_61 : decode cX11_alert 61 = .ok (.getfield 137, 3) := by decide +kernel
theorem dX11_alert_64 : decode cX11_alert 64 = .ok (.ireturn, 1) := by decide +kernel
theorem dX11_alert_65 : decode cX11_alert 65 = .ok (.aload_n 3, 1) := by decide +kernel
theorem dX11_alert_66 : decode cX11_alert 66 = .ok (.getfield 142, 3) := by decide +kernel
theorem dX11_alert_69 : decode cX11_alert 69 = .ok (.ireturn, 1) := by decide +kernel
theorem dX11_alert_70 : decode cX11_alert 70 = .ok (.aload_n 3, 1) := by decide +kernel
theorem dX11_alert_71 : decode cX11_alert 71 = .ok (.getfield 143, 3) := by decide +kernel
theorem dX11_alert_74 : decode cX11_alert 74 = .ok (.ireturn, 1) := by decide +kernel
theorem dX11_alert_75 : decode cX11_alert 75 = .ok (.aload_n 3, 1) := by decide +kernel
theorem dX11_alert_76 : decode cX11_alert 76 = .ok (.getfield 146, 3) := by decide +kernel
theorem dX11_alert_79 : decode cX11_alert 79 = .ok (.ireturn, 1) := by decide +kernel
theorem dX11_alert_80 : decode cX11_alert 80 = .ok (.aload_n 3, 1) := by decide +kernel
theorem dX11_alert_81 : decode cX11_alert 81 = .ok (.getfield 149, 3) := by decide +kernel
theorem dX11_alert_84 : decode cX11_alert 84 = .ok (.ireturn, 1) := by decide +kernel
theorem dX11_alert_85 : decode cX11_alert 85 = .ok (.new 130, 3) := by decide +kernel
theorem dX11_alert_88 : decode cX11_alert 88 = .ok (.dup, 1) := by decide +kernel
theorem dX11_alert_89 : decode cX11_alert 89 = .ok (.ldc 150, 2) := by decide +kernel
theorem dX11_alert_91 : decode cX11_alert 91 = .ok (.invokespecial 134, 3) := by decide +kernel
theorem dX11_alert_94 : decode cX11_alert 94 = .ok (.athrow, 1) := by decide +kernel
theorem dX11_key_0 : decode cX11_key 0 = .ok (.aload_n 0, 1) := by decide +kernel
theorem dX11_key_1 : decode cX11_key 1 = .ok (.getfield 38, 3) := by decide +kernel
theorem dX11_key_4 : decode cX11_key 4 = .ok (.iload_n 1, 1) := by decide +kernel
theorem dX11_key_5 : decode cX11_key 5 = .ok (.invokevirtual 126, 3) := by decide +kernel
theorem dX11_key_8 : decode cX11_key 8 = .ok (.astore 4, 2) := by decide +kernel
theorem dX11_key_10 : decode cX11_key 10 = .ok (.aload 4, 2) := by decide +kernel
theorem dX11_key_12 : decode cX11_key 12 = .ok (.ifnonnull 7, 3) := by decide +kernel
theorem dX11_key_15 : decode cX11_key 15 = .ok (.aconst_null, 1) := by decide +kernel
theorem dX11_key_16 : decode cX11_key 16 = .ok (.goto 12, 3) := by decide +kernel
theorem dX11_key_19 : decode cX11_key 19 = .ok (.aload 4, 2) := by decide +kernel
theorem dX11_key_21 : decode cX11_key 21 = .ok (.getfield 152, 3) := by decide +kernel
theorem dX11_key_24 : decode cX11_key 24 = .ok (.iload_n 2, 1) := by decide +kernel
theorem dX11_key_25 : decode cX11_key 25 = .ok (.invokevirtual 156, 3) := by decide +kernel
theorem dX11_key_28 : decode cX11_key 28 = .ok (.astore 5, 2) := by decide +kernel
theorem dX11_key_30 : decode cX11_key 30 = .ok (.aload 5, 2) := by decide +kernel
theorem dX11_key_32 : decode cX11_key 32 = .ok (.ifnonnull 13, 3) := by decide +kernel
theorem dX11_key_35 : decode cX11_key 35 = .ok (.new 130, 3) := by decide +kernel
theorem dX11_key_38 : decode cX11_key 38 = .ok (.dup, 1) := by decide +kernel
theorem dX11_key_39 : decode cX11_key 39 = .ok (.ldc 162, 2) := by decide +kernel
theorem dX11_key_41 : decode cX11_key 41 = .ok (.invokespecial 134, 3) := by decide +kernel
theorem dX11_key_44 : decode cX11_key 44 = .ok (.athrow, 1) := by decide +kernel
theorem dX11_key_45 : decode cX11_key 45 = .ok (.iload_n 3, 1) := by decide +kernel
theorem dX11_key_46 : decode cX11_key 46 = .ok (.ifCond .ne 9, 3) := by decide +kernel
theorem dX11_key_49 : decode cX11_key 49 = .ok (.aload 5, 2) := by decide +kernel
theorem dX11_key_51 : decode cX11_key 51 = .ok (.getfield 164, 3) := by decide +kernel
theorem dX11_key_54 : decode cX11_key 54 = .ok (.ireturn, 1) := by decide +kernel
theorem dX11_key_55 : decode cX11_key 55 = .ok (.iload_n 3, 1) := by decide +kernel
theorem dX11_key_56 : decode cX11_key 56 = .ok (.iconst 1, 1) := by decide +kernel
theorem dX11_key_57 : decode cX11_key 57 = .ok (.if_icmp .ne 9, 3) := by decide +kernel
theorem dX11_key_60 : decode cX11_key 60 = .ok (.aload 5, 2) := by decide +kernel
theorem dX11_key_62 : decode cX11_key 62 = .ok (.getfield 169, 3) := by decide +kernel
theorem dX11_key_65 : decode cX11_key 65 = .ok (.ireturn, 1) := by decide +kernel
theorem dX11_key_66 : decode cX11_key 66 = .ok (.iload_n 3, 1) := by decide +kernel
theorem dX11_key_67 : decode cX11_key 67 = .ok (.iconst 2, 1) := by decide +kernel
theorem dX11_key_68 : decode cX11_key 68 = .ok (.isub, 1) := by decide +kernel
theorem dX11_key_69 : decode cX11_key 69 = .ok (.istore 6, 2) := by decide +kernel
theorem dX11_key_71 : decode cX11_key 71 = .ok (.iload_n 3, 1) := by decide +kernel
theorem dX11_key_72 : decode cX11_key 72 = .ok (.iconst 2, 1) := by decide +kernel
theorem dX11_key_73 : decode cX11_key 73 = .ok (.if_icmp .lt 14, 3) := by decide +kernel
theorem dX11_key_76 : decode cX11_key 76 = .ok (.iload 6, 2) := by decide +kernel
theorem dX11_key_78 : decode cX11_key 78 = .ok (.aload 5, 2) := by decide +kernel
theorem dX11_key_80 : decode cX11_key 80 = .ok (.getfield 172, 3) := by decide +kernel
theorem dX11_key_83 : decode cX11_key 83 = .ok (.arraylength, 1) := by decide +kernel
theorem dX11_key_84 : decode cX11_key 84 = .ok (.if_icmp .lt 13, 3) := by decide +kernel
theorem dX11_key_87 : decode cX11_key 87 = .ok (.new 130, 3) := by decide +kernel
theorem dX11_key_90 : decode cX11_key 90 = .ok (.dup, 1) := by decide +kernel
theorem dX11_key_91 : decode cX11_key 91 = .ok (.ldc 175, 2) := by decide +kernel
theorem dX11_key_93 : decode cX11_key 93 = .ok (.invokespecial 134, 3) := by decide +kernel
theorem dX11_key_96 : decode cX11_key 96 = .ok (.athrow, 1) := by decide +kernel
theorem dX11_key_97 : decode cX11_key 97 = .ok (.aload 5, 2) := by decide +kernel
theorem dX11_key_99 : decode cX11_key 99 = .ok (.getfield 172, 3) := by decide +kernel
theorem dX11_key_102 : decode cX11_key 102 = .ok (.iload 6, 2) := by decide +kernel
theorem dX11_key_104 : decode cX11_key 104 = .ok (.iaload, 1) := by decide +kernel
theorem dX11_key_105 : decode cX11_key 105 = .ok (.ireturn, 1) := by decide +kernel
theorem dX11_rule_0 : decode cX11_rule 0 = .ok (.iload_n 1, 1) := by decide +kernel
theorem dX11_rule_1 : decode cX11_rule 1 = .ok (.ifCond .lt 23, 3) := by decide +kernel
theorem dX11_rule_4 : decode cX11_rule 4 = .ok (.iload_n 1, 1) := by decide +kernel
theorem dX11_rule_5 : decode cX11_rule 5 = .ok (.aload_n 0, 1) := by decide +kernel
theorem dX11_rule_6 : decode cX11_rule 6 = .ok (.getfield 38, 3) := by decide +kernel
theorem dX11_rule_9 : decode cX11_rule 9 = .ok (.getfield 77, 3) := by decide +kernel
theorem dX11_rule_12 : decode cX11_rule 12 = .ok (.if_icmp .ge 12, 3) := by decide +kernel
theorem dX11_rule_15 : decode cX11_rule 15 = .ok (.iload_n 2, 1) := by decide +kernel
theorem dX11_rule_16 : decode cX11_rule 16 = .ok (.ifCond .lt 8, 3) := by decide +kernel
theorem dX11_rule_19 : decode cX11_rule 19 = .ok (.iload_n 2, 1) := by decide +kernel
theorem dX11_rule_20 : decode cX11_rule 20 = .ok (.iconst 1, 1) := by decide +kernel
theorem dX11_rule_21 : decode cX11_rule 21 = .ok (.if_icmp .le 13, 3) := by decide +kernel
theorem dX11_rule_24 : decode cX11_rule 24 = .ok (.new 130, 3) := by decide +kernel
theorem dX11_rule_27 : decode cX11_rule 27 = .ok (.dup, 1) := by decide +kernel
theorem dX11_rule_28 : decode cX11_rule 28 = .ok (.ldc 177, 2) := by decide +kernel
theorem dX11_rule_30 : decode cX11_rule 30 = .ok (.invokespecial 134, 3) := by decide +kernel
theorem dX11_rule_33 : decode cX11_rule 33 = .ok (.athrow, 1) := by decide +kernel
theorem dX11_rule_34 : decode cX11_rule 34 = .ok (.aload_n 0, 1) := by decide +kernel
theorem dX11_rule_35 : decode cX11_rule 35 = .ok (.getfield 38, 3) := by decide +kernel
theorem dX11_rule_38 : decode cX11_rule 38 = .ok (.getfield 179, 3) := by decide +kernel
theorem dX11_rule_41 : decode cX11_rule 41 = .ok (.iload_n 1, 1) := by decide +kernel
theorem dX11_rule_42 : decode cX11_rule 42 = .ok (.aaload, 1) := by decide +kernel
theorem dX11_rule_43 : decode cX11_rule 43 = .ok (.astore_n 3, 1) := by decide +kernel
theorem dX11_rule_44 : decode cX11_rule 44 = .ok (.iload_n 2, 1) := by decide +kernel
theorem dX11_rule_45 : decode cX11_rule 45 = .ok (.ifCond .ne 17, 3) := by decide +kernel
theorem dX11_rule_48 : decode cX11_rule 48 = .ok (.aload_n 3, 1) := by decide +kernel
theorem dX11_rule_49 : decode cX11_rule 49 = .ok (.aload_n 0, 1) := by decide +kernel
theorem dX11_rule_50 : decode cX11_rule 50 = .ok (.getfield 38, 3) := by decide +kernel
theorem dX11_rule_53 : decode cX11_rule 53 = .ok (.getfield 89, 3) := by decide +kernel
theorem dX11_rule_56 : decode cX11_rule 56 = .ok (.invokevirtual 182, 3) := by decide +kernel
theorem dX11_rule_59 : decode cX11_rule 59 = .ok (.goto 7, 3) := by decide +kernel
theorem dX11_rule_62 : decode cX11_rule 62 = .ok (.aload_n 3, 1) := by decide +kernel
theorem dX11_rule_63 : decode cX11_rule 63 = .ok (.getfield 186, 3) := by decide +kernel
theorem dX11_rule_66 : decode cX11_rule 66 = .ok (.ireturn, 1) := by decide +kernel
theorem dX11_event_0 : decode cX11_event 0 = .ok (.aload_n 0, 1) := by decide +kernel
theorem dX11_event_1 : decode cX11_event 1 = .ok (.getfield 38, 3) := by decide +kernel
theorem dX11_event_4 : decode cX11_event 4 = .ok (.iload_n 1, 1) := by decide +kernel
theorem dX11_event_5 : decode cX11_event 5 = .ok (.invokevirtual 189, 3) := by decide +kernel
theorem dX11_event_8 : decode cX11_event 8 = .ok (.astore_n 3, 1) := by decide +kernel
theorem dX11_event_9 : decode cX11_event 9 = .ok (.aload_n 3, 1) := by decide +kernel
theorem dX11_event_10 : decode cX11_event 10 = .ok (.ifnonnull 13, 3) := by decide +kernel
theorem dX11_event_13 : decode cX11_event 13 = .ok (.new 130, 3) := by decide +kernel
theorem dX11_event_16 : decode cX11_event 16 = .ok (.dup, 1) := by decide +kernel
theorem dX11_event_17 : decode cX11_event 17 = .ok (.ldc 193, 2) := by decide +kernel
theorem dX11_event_19 : decode cX11_event 19 = .ok (.invokespecial 134, 3) := by decide +kernel
theorem dX11_event_22 : decode cX11_event 22 = .ok (.athrow, 1) := by decide +kernel
theorem dX11_event_23 : decode cX11_event 23 = .ok (.iload_n 2, 1) := by decide +kernel
theorem dX11_event_24 : decode cX11_event 24 = .ok (.tableswitch 56 0 3 #[32, 37, 45, 51], 32) := by decide +kernel
theorem dX11_event_56 : decode cX11_event 56 = .ok (.aload_n 3, 1) := by decide +kernel
theorem dX11_event_57 : decode cX11_event 57 = .ok (.getfield 96, 3) := by decide +kernel
theorem dX11_event_60 : decode cX11_event 60 = .ok (.ireturn, 1) := by decide +kernel
theorem dX11_event_61 : decode cX11_event 61 = .ok (.aload_n 3, 1) := by decide +kernel
theorem dX11_event_62 : decode cX11_event 62 = .ok (.getfield 195, 3) := by decide +kernel
theorem dX11_event_65 : decode cX11_event 65 = .ok (.invokestatic 199, 3) := by decide +kernel
theorem dX11_event_68 : decode cX11_event 68 = .ok (.ireturn, 1) := by decide +kernel
theorem dX11_event_69 : decode cX11_event 69 = .ok (.aload_n 3, 1) := by decide +kernel
theorem dX11_event_70 : decode cX11_event 70 = .ok (.getfield 203, 3) := by decide +kernel
theorem dX11_event_73 : decode cX11_event 73 = .ok (.arraylength, 1) := by decide +kernel
theorem dX11_event_74 : decode cX11_event 74 = .ok (.ireturn, 1) := by decide +kernel
theorem dX11_event_75 : decode cX11_event 75 = .ok (.aload_n 3, 1) := by decide +kernel
theorem dX11_event_76 : decode cX11_event 76 = .ok (.getfield 207, 3) := by decide +kernel
theorem dX11_event_79 : decode cX11_event 79 = .ok (.ireturn, 1) := by decide +kernel
theorem dX11_event_80 : decode cX11_event 80 = .ok (.new 130, 3) := by decide +kernel
theorem dX11_event_83 : decode cX11_event 83 = .ok (.dup, 1) := by decide +kernel
theorem dX11_event_84 : decode cX11_event 84 = .ok (.ldc 210, 2) := by decide +kernel
theorem dX11_event_86 : decode cX11_event 86 = .ok (.invokespecial 134, 3) := by decide +kernel
theorem dX11_event_89 : decode cX11_event 89 = .ok (.athrow, 1) := by decide +kernel
theorem dX11_pack_0 : decode cX11_pack 0 = .ok (.aload_n 0, 1) := by decide +kernel
theorem dX11_pack_1 : decode cX11_pack 1 = .ok (.getfield 38, 3) := by decide +kernel
theorem dX11_pack_4 : decode cX11_pack 4 = .ok (.iload_n 1, 1) := by decide +kernel
theorem dX11_pack_5 : decode cX11_pack 5 = .ok (.invokevirtual 189, 3) := by decide +kernel
theorem dX11_pack_8 : decode cX11_pack 8 = .ok (.astore_n 2, 1) := by decide +kernel
theorem dX11_pack_9 : decode cX11_pack 9 = .ok (.iload_n 1, 1) := by decide +kernel
theorem dX11_pack_10 : decode cX11_pack 10 = .ok (.ifCond .ne 7, 3) := by decide +kernel
theorem dX11_pack_13 : decode cX11_pack 13 = .ok (.aconst_null, 1) := by decide +kernel
theorem dX11_pack_14 : decode cX11_pack 14 = .ok (.goto 13, 3) := by decide +kernel
theorem dX11_pack_17 : decode cX11_pack 17 = .ok (.aload_n 0, 1) := by decide +kernel
theorem dX11_pack_18 : decode cX11_pack 18 = .ok (.getfield 38, 3) := by decide +kernel
theorem dX11_pack_21 : decode cX11_pack 21 = .ok (.iload_n 1, 1) := by decide +kernel
theorem dX11_pack_22 : decode cX11_pack 22 = .ok (.iconst 1, 1) := by decide +kernel
theorem dX11_pack_23 : decode cX11_pack 23 = .ok (.isub, 1) := by decide +kernel
theorem dX11_pack_24 : decode cX11_pack 24 = .ok (.invokevirtual 189, 3) := by decide +kernel
theorem dX11_pack_27 : decode cX11_pack 27 = .ok (.astore_n 3, 1) := by decide +kernel
theorem dX11_pack_28 : decode cX11_pack 28 = .ok (.aload_n 2, 1) := by decide +kernel
theorem dX11_pack_29 : decode cX11_pack 29 = .ok (.ifnull 11, 3) := by decide +kernel
theorem dX11_pack_32 : decode cX11_pack 32 = .ok (.iload_n 1, 1) := by decide +kernel
theorem dX11_pack_33 : decode cX11_pack 33 = .ok (.ifCond .eq 17, 3) := by decide +kernel
theorem dX11_pack_36 : decode cX11_pack 36 = .ok (.aload_n 3, 1) := by decide +kernel
theorem dX11_pack_37 : decode cX11_pack 37 = .ok (.ifnonnull 13, 3) := by decide +kernel
theorem dX11_pack_40 : decode cX11_pack 40 = .ok (.new 130, 3) := by decide +kernel
theorem dX11_pack_43 : decode cX11_pack 43 = .ok (.dup, 1) := by decide +kernel
theorem dX11_pack_44 : decode cX11_pack 44 = .ok (.ldc 212, 2) := by decide +kernel
theorem dX11_pack_46 : decode cX11_pack 46 = .ok (.invokespecial 134, 3) := by decide +kernel
theorem dX11_pack_49 : decode cX11_pack 49 = .ok (.athrow, 1) := by decide +kernel
theorem dX11_pack_50 : decode cX11_pack 50 = .ok (.aload_n 0, 1) := by decide +kernel
theorem dX11_pack_51 : decode cX11_pack 51 = .ok (.getfield 27, 3) := by decide +kernel
theorem dX11_pack_54 : decode cX11_pack 54 = .ok (.aload_n 2, 1) := by decide +kernel
theorem dX11_pack_55 : decode cX11_pack 55 = .ok (.aload_n 3, 1) := by decide +kernel
theorem dX11_pack_56 : decode cX11_pack 56 = .ok (.ifnonnull 7, 3) := by decide +kernel
theorem dX11_pack_59 : decode cX11_pack 59 = .ok (.iconst 0, 1) := by decide +kernel
theorem dX11_pack_60 : decode cX11_pack 60 = .ok (.goto 7, 3) := by decide +kernel
theorem dX11_pack_63 : decode cX11_pack 63 = .ok (.aload_n 3, 1) := by decide +kernel
theorem dX11_pack_64 : decode cX11_pack 64 = .ok (.getfield 96, 3) := by decide +kernel
theorem dX11_pack_67 : decode cX11_pack 67 = .ok (.invokevirtual 214, 3) := by decide +kernel
theorem dX11_pack_70 : decode cX11_pack 70 = .ok (.aload_n 0, 1) := by decide +kernel
theorem dX11_pack_71 : decode cX11_pack 71 = .ok (.getfield 27, 3) := by decide +kernel
theorem dX11_pack_74 : decode cX11_pack 74 = .ok (.getfield 123, 3) := by decide +kernel
theorem dX11_pack_77 : decode cX11_pack 77 = .ok (.ireturn, 1) := by decide +kernel
theorem dX11_octet_0 : decode cX11_octet 0 = .ok (.iload_n 1, 1) := by decide +kernel
theorem dX11_octet_1 : decode cX11_octet 1 = .ok (.ifCond .lt 14, 3) := by decide +kernel
theorem dX11_octet_4 : decode cX11_octet 4 = .ok (.iload_n 1, 1) := by decide +kernel
theorem dX11_octet_5 : decode cX11_octet 5 = .ok (.aload_n 0, 1) := by decide +kernel
theorem dX11_octet_6 : decode cX11_octet 6 = .ok (.getfield 27, 3) := by decide +kernel
theorem dX11_octet_9 : decode cX11_octet 9 = .ok (.getfield 123, 3) := by decide +kernel
theorem dX11_octet_12 : decode cX11_octet 12 = .ok (.if_icmp .lt 13, 3) := by decide +kernel
theorem dX11_octet_15 : decode cX11_octet 15 = .ok (.new 130, 3) := by decide +kernel
theorem dX11_octet_18 : decode cX11_octet 18 = .ok (.dup, 1) := by decide +kernel
theorem dX11_octet_19 : decode cX11_octet 19 = .ok (.ldc 218, 2) := by decide +kernel
theorem dX11_octet_21 : decode cX11_octet 21 = .ok (.invokespecial 134, 3) := by decide +kernel
theorem dX11_octet_24 : decode cX11_octet 24 = .ok (.athrow, 1) := by decide +kernel
theorem dX11_octet_25 : decode cX11_octet 25 = .ok (.aload_n 0, 1) := by decide +kernel
theorem dX11_octet_26 : decode cX11_octet 26 = .ok (.getfield 27, 3) := by decide +kernel
theorem dX11_octet_29 : decode cX11_octet 29 = .ok (.getfield 220, 3) := by decide +kernel
theorem dX11_octet_32 : decode cX11_octet 32 = .ok (.iload_n 1, 1) := by decide +kernel
theorem dX11_octet_33 : decode cX11_octet 33 = .ok (.iaload, 1) := by decide +kernel
theorem dX11_octet_34 : decode cX11_octet 34 = .ok (.ireturn, 1) := by decide +kernel
theorem dX11_withLetter_0 : decode cX11_withLetter 0 = .ok (.lload_n 0, 1) := by decide +kernel
theorem dX11_withLetter_1 : decode cX11_withLetter 1 = .ok (.iload_n 3, 1) := by decide +kernel
theorem dX11_withLetter_2 : decode cX11_withLetter 2 = .ok (.bipush 97, 2) := by decide +kernel
theorem dX11_withLetter_4 : decode cX11_withLetter 4 = .ok (.isub, 1) := by decide +kernel
theorem dX11_withLetter_5 : decode cX11_withLetter 5 = .ok (.iconst 1, 1) := by decide +kernel
theorem dX11_withLetter_6 : decode cX11_withLetter 6 = .ok (.iadd, 1) := by decide +kernel
theorem dX11_withLetter_7 : decode cX11_withLetter 7 = .ok (.i2l, 1) := by decide +kernel
theorem dX11_withLetter_8 : decode cX11_withLetter 8 = .ok (.iconst 5, 1) := by decide +kernel
theorem dX11_withLetter_9 : decode cX11_withLetter 9 = .ok (.bipush 11, 2) := by decide +kernel
theorem dX11_withLetter_11 : decode cX11_withLetter 11 = .ok (.iload_n 2, 1) := by decide +kernel
theorem dX11_withLetter_12 : decode cX11_withLetter 12 = .ok (.isub, 1) := by decide +kernel
theorem dX11_withLetter_13 : decode cX11_withLetter 13 = .ok (.imul, 1) := by decide +kernel
theorem dX11_withLetter_14 : decode cX11_withLetter 14 = .ok (.lshl, 1) := by decide +kernel
theorem dX11_withLetter_15 : decode cX11_withLetter 15 = .ok (.lor, 1) := by decide +kernel
theorem dX11_withLetter_16 : decode cX11_withLetter 16 = .ok (.lreturn, 1) := by decide +kernel
theorem dX11_letterAt_0 : decode cX11_letterAt 0 = .ok (.lload_n 0, 1) := by decide +kernel
theorem dX11_letterAt_1 : decode cX11_letterAt 1 = .ok (.iconst 5, 1) := by decide +kernel
theorem dX11_letterAt_2 : decode cX11_letterAt 2 = .ok (.bipush 11, 2) := by decide +kernel
theorem dX11_letterAt_4 : decode cX11_letterAt 4 = .ok (.iload_n 2, 1) := by decide +kernel
theorem dX11_letterAt_5 : decode cX11_letterAt 5 = .ok (.isub, 1) := by decide +kernel
theorem dX11_letterAt_6 : decode cX11_letterAt 6 = .ok (.imul, 1) := by decide +kernel
theorem dX11_letterAt_7 : decode cX11_letterAt 7 = .ok (.lushr, 1) := by decide +kernel
theorem dX11_letterAt_8 : decode cX11_letterAt 8 = .ok (.ldc2_w 223, 3) := by decide +kernel
theorem dX11_letterAt_11 : decode cX11_letterAt 11 = .ok (.land, 1) := by decide +kernel
theorem dX11_letterAt_12 : decode cX11_letterAt 12 = .ok (.l2i, 1) := by decide +kernel
theorem dX11_letterAt_13 : decode cX11_letterAt 13 = .ok (.bipush 97, 2) := by decide +kernel
theorem dX11_letterAt_15 : decode cX11_letterAt 15 = .ok (.iadd, 1) := by decide +kernel
theorem dX11_letterAt_16 : decode cX11_letterAt 16 = .ok (.iconst 1, 1) := by decide +kernel
theorem dX11_letterAt_17 : decode cX11_letterAt 17 = .ok (.isub, 1) := by decide +kernel
theorem dX11_letterAt_18 : decode cX11_letterAt 18 = .ok (.ireturn, 1) := by decide +kernel
theorem dX11_lettersOf_0 : decode cX11_lettersOf 0 = .ok (.iconst 0, 1) := by decide +kernel
theorem dX11_lettersOf_1 : decode cX11_lettersOf 1 = .ok (.istore_n 2, 1) := by decide +kernel
theorem dX11_lettersOf_2 : decode cX11_lettersOf 2 = .ok (.iload_n 2, 1) := by decide +kernel
theorem dX11_lettersOf_3 : decode cX11_lettersOf 3 = .ok (.bipush 12, 2) := by decide +kernel
theorem dX11_lettersOf_5 : decode cX11_lettersOf 5 = .ok (.if_icmp .ge 19, 3) := by decide +kernel
theorem dX11_lettersOf_8 : decode cX11_lettersOf 8 = .ok (.lload_n 0, 1) := by decide +kernel
theorem dX11_lettersOf_9 : decode cX11_lettersOf 9 = .ok (.iload_n 2, 1) := by decide +kernel
theorem dX11_lettersOf_10 : decode cX11_lettersOf 10 = .ok (.invokestatic 225, 3) := by decide +kernel
theorem dX11_lettersOf_13 : decode cX11_lettersOf 13 = .ok (.bipush 97, 2) := by decide +kernel
theorem dX11_lettersOf_15 : decode cX11_lettersOf 15 = .ok (.if_icmp .lt 9, 3) := by decide +kernel
theorem dX11_lettersOf_18 : decode cX11_lettersOf 18 = .ok (.iinc 2 1, 3) := by decide +kernel
theorem dX11_lettersOf_21 : decode cX11_lettersOf 21 = .ok (.goto (-19), 3) := by decide +kernel
theorem dX11_lettersOf_24 : decode cX11_lettersOf 24 = .ok (.iload_n 2, 1) := by decide +kernel
theorem dX11_lettersOf_25 : decode cX11_lettersOf 25 = .ok (.ireturn, 1) := by decide +kernel
theorem dX11_isLetter_0 : decode cX11_isLetter 0 = .ok (.iload_n 0, 1) := by decide +kernel
theorem dX11_isLetter_1 : decode cX11_isLetter 1 = .ok (.bipush 97, 2) := by decide +kernel
theorem dX11_isLetter_3 : decode cX11_isLetter 3 = .ok (.if_icmp .lt 13, 3) := by decide +kernel
theorem dX11_isLetter_6 : decode cX11_isLetter 6 = .ok (.iload_n 0, 1) := by decide +kernel
theorem dX11_isLetter_7 : decode cX11_isLetter 7 = .ok (.bipush 122, 2) := by decide +kernel
theorem dX11_isLetter_9 : decode cX11_isLetter 9 = .ok (.if_icmp .gt 7, 3) := by decide +kernel
theorem dX11_isLetter_12 : decode cX11_isLetter 12 = .ok (.iconst 1, 1) := by decide +kernel
theorem dX11_isLetter_13 : decode cX11_isLetter 13 = .ok (.goto 4, 3) := by decide +kernel
theorem dX11_isLetter_16 : decode cX11_isLetter 16 = .ok (.iconst 0, 1) := by decide +kernel
theorem dX11_isLetter_17 : decode cX11_isLetter 17 = .ok (.ireturn, 1) := by decide +kernel
theorem dX11_isDigit_0 : decode cX11_isDigit 0 = .ok (.iload_n 0, 1) := by decide +kernel
theorem dX11_isDigit_1 : decode cX11_isDigit 1 = .ok (.bipush 48, 2) := by decide +kernel
theorem dX11_isDigit_3 : decode cX11_isDigit 3 = .ok (.if_icmp .lt 13, 3) := by decide +kernel
theorem dX11_isDigit_6 : decode cX11_isDigit 6 = .ok (.iload_n 0, 1) := by decide +kernel
theorem dX11_isDigit_7 : decode cX11_isDigit 7 = .ok (.bipush 57, 2) := by decide +kernel
theorem dX11_isDigit_9 : decode cX11_isDigit 9 = .ok (.if_icmp .gt 7, 3) := by decide +kernel
theorem dX11_isDigit_12 : decode cX11_isDigit 12 = .ok (.iconst 1, 1) := by decide +kernel
theorem dX11_isDigit_13 : decode cX11_isDigit 13 = .ok (.goto 4, 3) := by decide +kernel
theorem dX11_isDigit_16 : decode cX11_isDigit 16 = .ok (.iconst 0, 1) := by decide +kernel
theorem dX11_isDigit_17 : decode cX11_isDigit 17 = .ok (.ireturn, 1) := by decide +kernel
theorem dX11_isPlain_0 : decode cX11_isPlain 0 = .ok (.iload_n 0, 1) := by decide +kernel
theorem dX11_isPlain_1 : decode cX11_isPlain 1 = .ok (.bipush 32, 2) := by decide +kernel
theorem dX11_isPlain_3 : decode cX11_isPlain 3 = .ok (.if_icmp .lt 13, 3) := by decide +kernel
theorem dX11_isPlain_6 : decode cX11_isPlain 6 = .ok (.iload_n 0, 1) := by decide +kernel
theorem dX11_isPlain_7 : decode cX11_isPlain 7 = .ok (.bipush 126, 2) := by decide +kernel
theorem dX11_isPlain_9 : decode cX11_isPlain 9 = .ok (.if_icmp .gt 7, 3) := by decide +kernel
theorem dX11_isPlain_12 : decode cX11_isPlain 12 = .ok (.iconst 1, 1) := by decide +kernel
theorem dX11_isPlain_13 : decode cX11_isPlain 13 = .ok (.goto 4, 3) := by decide +kernel
theorem dX11_isPlain_16 : decode cX11_isPlain 16 = .ok (.iconst 0, 1) := by decide +kernel
theorem dX11_isPlain_17 : decode cX11_isPlain 17 = .ok (.ireturn, 1) := by decide +kernel
theorem dX12_thrown_0 : decode cX12_thrown 0 = .ok (.aload_n 0, 1) := by decide +kernel
theorem dX12_thrown_1 : decode cX12_thrown 1 = .ok (.getfield 3, 3) := by decide +kernel
theorem dX12_thrown_4 : decode cX12_thrown 4 = .ok (.ireturn, 1) := by decide +kernel
theorem dX12_throwsIf_0 : decode cX12_throwsIf 0 = .ok (.aload_n 0, 1) := by decide +kernel
theorem dX12_throwsIf_1 : decode cX12_throwsIf 1 = .ok (.iload_n 1, 1) := by decide +kernel
theorem dX12_throwsIf_2 : decode cX12_throwsIf 2 = .ok (.ifCond .eq 7, 3) := by decide +kernel
theorem dX12_throwsIf_5 : decode cX12_throwsIf 5 = .ok (.iconst 1, 1) := by decide +kernel
theorem dX12_throwsIf_6 : decode cX12_throwsIf 6 = .ok (.goto 4, 3) := by decide +kernel
theorem dX12_throwsIf_9 : decode cX12_throwsIf 9 = .ok (.iconst 0, 1) := by decide +kernel
theorem dX12_throwsIf_10 : decode cX12_throwsIf 10 = .ok (.putfield 3, 3) := by decide +kernel
theorem dX12_throwsIf_13 : decode cX12_throwsIf 13 = .ok (.iload_n 1, 1) := by decide +kernel
theorem dX12_throwsIf_14 : decode cX12_throwsIf 14 = .ok (.ireturn, 1) := by decide +kernel
theorem dX12_feed_0 : decode cX12_feed 0 = .ok (.aload_n 0, 1) := by decide +kernel
theorem dX12_feed_1 : decode cX12_feed 1 = .ok (.iconst 0, 1) := by decide +kernel
theorem dX12_feed_2 : decode cX12_feed 2 = .ok (.putfield 3, 3) := by decide +kernel
theorem dX12_feed_5 : decode cX12_feed 5 = .ok (.aload_n 0, 1) := by decide +kernel
theorem dX12_feed_6 : decode cX12_feed 6 = .ok (.getfield 7, 3) := by decide +kernel
theorem dX12_feed_9 : decode cX12_feed 9 = .ok (.bipush 20, 2) := by decide +kernel
theorem dX12_feed_11 : decode cX12_feed 11 = .ok (.iadd, 1) := by decide +kernel
theorem dX12_feed_12 : decode cX12_feed 12 = .ok (.sipush 2100, 3) := by decide +kernel
theorem dX12_feed_15 : decode cX12_feed 15 = .ok (.if_icmp .le 5, 3) := by decide +kernel
theorem dX12_feed_18 : decode cX12_feed 18 = .ok (.iconst (-1), 1) := by decide +kernel
theorem dX12_feed_19 : decode cX12_feed 19 = .ok (.ireturn, 1) := by decide +kernel
theorem dX12_feed_20 : decode cX12_feed 20 = .ok (.aload_n 0, 1) := by decide +kernel
theorem dX12_feed_21 : decode cX12_feed 21 = .ok (.iload_n 1, 1) := by decide +kernel
theorem dX12_feed_22 : decode cX12_feed 22 = .ok (.invokevirtual 10, 3) := by decide +kernel
theorem dX12_feed_25 : decode cX12_feed 25 = .ok (.aload_n 0, 1) := by decide +kernel
theorem dX12_feed_26 : decode cX12_feed 26 = .ok (.iload_n 2, 1) := by decide +kernel
theorem dX12_feed_27 : decode cX12_feed 27 = .ok (.invokevirtual 10, 3) := by decide +kernel
theorem dX12_feed_30 : decode cX12_feed 30 = .ok (.aload_n 0, 1) := by decide +kernel
theorem dX12_feed_31 : decode cX12_feed 31 = .ok (.iload_n 3, 1) := by decide +kernel
theorem dX12_feed_32 : decode cX12_feed 32 = .ok (.invokevirtual 10, 3) := by decide +kernel
theorem dX12_feed_35 : decode cX12_feed 35 = .ok (.aload_n 0, 1) := by decide +kernel
theorem dX12_feed_36 : decode cX12_feed 36 = .ok (.iload 4, 2) := by decide +kernel
theorem dX12_feed_38 : decode cX12_feed 38 = .ok (.invokevirtual 10, 3) := by decide +kernel
theorem dX12_feed_41 : decode cX12_feed 41 = .ok (.aload_n 0, 1) := by decide +kernel
theorem dX12_feed_42 : decode cX12_feed 42 = .ok (.iload 5, 2) := by decide +kernel
theorem dX12_feed_44 : decode cX12_feed 44 = .ok (.invokevirtual 10, 3) := by decide +kernel
theorem dX12_feed_47 : decode cX12_feed 47 = .ok (.aload_n 0, 1) := by decide +kernel
theorem dX12_feed_48 : decode cX12_feed 48 = .ok (.getfield 7, 3) := by decide +kernel
theorem dX12_feed_51 : decode cX12_feed 51 = .ok (.ireturn, 1) := by decide +kernel
theorem dX12_four_0 : decode cX12_four 0 = .ok (.bipush 24, 2) := by decide +kernel
theorem dX12_four_2 : decode cX12_four 2 = .ok (.istore_n 2, 1) := by decide +kernel
theorem dX12_four_3 : decode cX12_four 3 = .ok (.iload_n 2, 1) := by decide +kernel
theorem dX12_four_4 : decode cX12_four 4 = .ok (.ifCond .lt 32, 3) := by decide +kernel
theorem dX12_four_7 : decode cX12_four 7 = .ok (.aload_n 0, 1) := by decide +kernel
theorem dX12_four_8 : decode cX12_four 8 = .ok (.getfield 14, 3) := by decide +kernel
theorem dX12_four_11 : decode cX12_four 11 = .ok (.aload_n 0, 1) := by decide +kernel
theorem dX12_four_12 : decode cX12_four 12 = .ok (.getfield 7, 3) := by decide +kernel
theorem dX12_four_15 : decode cX12_four 15 = .ok (.iload_n 1, 1) := by decide +kernel
theorem dX12_four_16 : decode cX12_four 16 = .ok (.iload_n 2, 1) := by decide +kernel
theorem dX12_four_17 : decode cX12_four 17 = .ok (.ishr, 1) := by decide +kernel
theorem dX12_four_18 : decode cX12_four 18 = .ok (.i2b, 1) := by decide +kernel
theorem dX12_four_19 : decode cX12_four 19 = .ok (.bastore, 1) := by decide +kernel
theorem dX12_four_20 : decode cX12_four 20 = .ok (.aload_n 0, 1) := by decide +kernel
theorem dX12_four_21 : decode cX12_four 21 = .ok (.dup, 1) := by decide +kernel
theorem dX12_four_22 : decode cX12_four 22 = .ok (.getfield 7, 3) := by decide +kernel
theorem dX12_four_25 : decode cX12_four 25 = .ok (.iconst 1, 1) := by decide +kernel
theorem dX12_four_26 : decode cX12_four 26 = .ok (.iadd, 1) := by decide +kernel
theorem dX12_four_27 : decode cX12_four 27 = .ok (.putfield 7, 3) := by decide +kernel
theorem dX12_four_30 : decode cX12_four 30 = .ok (.iinc 2 (-8), 3) := by decide +kernel
theorem dX12_four_33 : decode cX12_four 33 = .ok (.goto (-30), 3) := by decide +kernel
theorem dX12_four_36 : decode cX12_four 36 = .ok (.return_, 1) := by decide +kernel
theorem dX12_end_0 : decode cX12_end 0 = .ok (.aload_n 0, 1) := by decide +kernel
theorem dX12_end_1 : decode cX12_end 1 = .ok (.iconst 0, 1) := by decide +kernel
theorem dX12_end_2 : decode cX12_end 2 = .ok (.putfield 3, 3) := by decide +kernel
theorem dX12_end_5 : decode cX12_end 5 = .ok (.iload_n 1, 1) := by decide +kernel
theorem dX12_end_6 : decode cX12_end 6 = .ok (.ifCond .lt 11, 3) := by decide +kernel
theorem dX12_end_9 : decode cX12_end 9 = .ok (.iload_n 1, 1) := by decide +kernel
theorem dX12_end_10 : decode cX12_end 10 = .ok (.aload_n 0, 1) := by decide +kernel
theorem dX12_end_11 : decode cX12_end 11 = .ok (.getfield 7, 3) := by decide +kernel
theorem dX12_end_14 : decode cX12_end 14 = .ok (.if_icmp .le 5, 3) := by decide +kernel
theorem dX12_end_17 : decode cX12_end 17 = .ok (.iconst 0, 1) := by decide +kernel
theorem dX12_end_18 : decode cX12_end 18 = .ok (.ireturn, 1) := by decide +kernel
theorem dX12_end_19 : decode cX12_end 19 = .ok (.aload_n 0, 1) := by decide +kernel
theorem dX12_end_20 : decode cX12_end 20 = .ok (.iload_n 1, 1) := by decide +kernel
theorem dX12_end_21 : decode cX12_end 21 = .ok (.putfield 7, 3) := by decide +kernel
theorem dX12_end_24 : decode cX12_end 24 = .ok (.iconst 1, 1) := by decide +kernel
theorem dX12_end_25 : decode cX12_end 25 = .ok (.ireturn, 1) := by decide +kernel
theorem dX12_wrong_0 : decode cX12_wrong 0 = .ok (.aload_n 0, 1) := by decide +kernel
theorem dX12_wrong_1 : decode cX12_wrong 1 = .ok (.iload_n 1, 1) := by decide +kernel
theorem dX12_wrong_2 : decode cX12_wrong 2 = .ok (.putfield 18, 3) := by decide +kernel
theorem dX12_wrong_5 : decode cX12_wrong 5 = .ok (.aload_n 0, 1) := by decide +kernel
theorem dX12_wrong_6 : decode cX12_wrong 6 = .ok (.iload_n 2, 1) := by decide +kernel
theorem dX12_wrong_7 : decode cX12_wrong 7 = .ok (.putfield 21, 3) := by decide +kernel
theorem dX12_wrong_10 : decode cX12_wrong 10 = .ok (.iconst 0, 1) := by decide +kernel
theorem dX12_wrong_11 : decode cX12_wrong 11 = .ok (.ireturn, 1) := by decide +kernel
theorem dX12_byteAt_0 : decode cX12_byteAt 0 = .ok (.iload_n 1, 1) := by decide +kernel
theorem dX12_byteAt_1 : decode cX12_byteAt 1 = .ok (.aload_n 0, 1) := by decide +kernel
theorem dX12_byteAt_2 : decode cX12_byteAt 2 = .ok (.getfield 24, 3) := by decide +kernel
theorem dX12_byteAt_5 : decode cX12_byteAt 5 = .ok (.if_icmp .ge 16, 3) := by decide +kernel
theorem dX12_byteAt_8 : decode cX12_byteAt 8 = .ok (.aload_n 0, 1) := by decide +kernel
theorem dX12_byteAt_9 : decode cX12_byteAt 9 = .ok (.getfield 14, 3) := by decide +kernel
theorem dX12_byteAt_12 : decode cX12_byteAt 12 = .ok (.iload_n 1, 1) := by decide +kernel
theorem dX12_byteAt_13 : decode cX12_byteAt 13 = .ok (.baload, 1) := by decide +kernel
theorem dX12_byteAt_14 : decode cX12_byteAt 14 = .ok (.sipush 255, 3) := by decide +kernel
theorem dX12_byteAt_17 : decode cX12_byteAt 17 = .ok (.iand, 1) := by decide +kernel
theorem dX12_byteAt_18 : decode cX12_byteAt 18 = .ok (.goto 4, 3) := by decide +kernel
theorem dX12_byteAt_21 : decode cX12_byteAt 21 = .ok (.iconst (-1), 1) := by decide +kernel
theorem dX12_byteAt_22 : decode cX12_byteAt 22 = .ok (.ireturn, 1) := by decide +kernel
theorem dX12_alike_0 : decode cX12_alike 0 = .ok (.aload_n 0, 1) := by decide +kernel
theorem dX12_alike_1 : decode cX12_alike 1 = .ok (.getfield 27, 3) := by decide +kernel
theorem dX12_alike_4 : decode cX12_alike 4 = .ok (.iload_n 1, 1) := by decide +kernel
theorem dX12_alike_5 : decode cX12_alike 5 = .ok (.baload, 1) := by decide +kernel
theorem dX12_alike_6 : decode cX12_alike 6 = .ok (.aload_n 0, 1) := by decide +kernel
theorem dX12_alike_7 : decode cX12_alike 7 = .ok (.getfield 27, 3) := by decide +kernel
theorem dX12_alike_10 : decode cX12_alike 10 = .ok (.iload_n 2, 1) := by decide +kernel
theorem dX12_alike_11 : decode cX12_alike 11 = .ok (.baload, 1) := by decide +kernel
theorem dX12_alike_12 : decode cX12_alike 12 = .ok (.if_icmp .ne 18, 3) := by decide +kernel
theorem dX12_alike_15 : decode cX12_alike 15 = .ok (.aload_n 0, 1) := by decide +kernel
theorem dX12_alike_16 : decode cX12_alike 16 = .ok (.getfield 30, 3) := by decide +kernel
theorem dX12_alike_19 : decode cX12_alike 19 = .ok (.iload_n 1, 1) := by decide +kernel
theorem dX12_alike_20 : decode cX12_alike 20 = .ok (.iaload, 1) := by decide +kernel
theorem dX12_alike_21 : decode cX12_alike 21 = .ok (.aload_n 0, 1) := by decide +kernel
theorem dX12_alike_22 : decode cX12_alike 22 = .ok (.getfield 30, 3) := by decide +kernel
theorem dX12_alike_25 : decode cX12_alike 25 = .ok (.iload_n 2, 1) := by decide +kernel
theorem dX12_alike_26 : decode cX12_alike 26 = .ok (.iaload, 1) := by decide +kernel
theorem dX12_alike_27 : decode cX12_alike 27 = .ok (.if_icmp .eq 5, 3) := by decide +kernel
theorem dX12_alike_30 : decode cX12_alike 30 = .ok (.iconst 0, 1) := by decide +kernel
theorem dX12_alike_31 : decode cX12_alike 31 = .ok (.ireturn, 1) := by decide +kernel
theorem dX12_alike_32 : decode cX12_alike 32 = .ok (.aload_n 0, 1) := by decide +kernel
theorem dX12_alike_33 : decode cX12_alike 33 = .ok (.getfield 27, 3) := by decide +kernel
theorem dX12_alike_36 : decode cX12_alike 36 = .ok (.iload_n 1, 1) := by decide +kernel
theorem dX12_alike_37 : decode cX12_alike 37 = .ok (.baload, 1) := by decide +kernel
theorem dX12_alike_38 : decode cX12_alike 38 = .ok (.iconst 1, 1) := by decide +kernel
theorem dX12_alike_39 : decode cX12_alike 39 = .ok (.if_icmp .eq 5, 3) := by decide +kernel
theorem dX12_alike_42 : decode cX12_alike 42 = .ok (.iconst 1, 1) := by decide +kernel
theorem dX12_alike_43 : decode cX12_alike 43 = .ok (.ireturn, 1) := by decide +kernel
theorem dX12_alike_44 : decode cX12_alike 44 = .ok (.iconst 0, 1) := by decide +kernel
theorem dX12_alike_45 : decode cX12_alike 45 = .ok (.istore_n 3, 1) := by decide +kernel
theorem dX12_alike_46 : decode cX12_alike 46 = .ok (.iload_n 3, 1) := by decide +kernel
theorem dX12_alike_47 : decode cX12_alike 47 = .ok (.aload_n 0, 1) := by decide +kernel
theorem dX12_alike_48 : decode cX12_alike 48 = .ok (.getfield 30, 3) := by decide +kernel
theorem dX12_alike_51 : decode cX12_alike 51 = .ok (.iload_n 1, 1) := by decide +kernel
theorem dX12_alike_52 : decode cX12_alike 52 = .ok (.iaload, 1) := by decide +kernel
theorem dX12_alike_53 : decode cX12_alike 53 = .ok (.if_icmp .ge 40, 3) := by decide +kernel
theorem dX12_alike_56 : decode cX12_alike 56 = .ok (.aload_n 0, 1) := by decide +kernel
theorem dX12_alike_57 : decode cX12_alike 57 = .ok (.getfield 34, 3) := by decide +kernel
theorem dX12_alike_60 : decode cX12_alike 60 = .ok (.aload_n 0, 1) := by decide +kernel
theorem dX12_alike_61 : decode cX12_alike 61 = .ok (.getfield 37, 3) := by decide +kernel
theorem dX12_alike_64 : decode cX12_alike 64 = .ok (.iload_n 1, 1) := by decide +kernel
theorem dX12_alike_65 : decode cX12_alike 65 = .ok (.iaload, 1) := by decide +kernel
theorem dX12_alike_66 : decode cX12_alike 66 = .ok (.iload_n 3, 1) := by decide +kernel
theorem dX12_alike_67 : decode cX12_alike 67 = .ok (.iadd, 1) := by decide +kernel
theorem dX12_alike_68 : decode cX12_alike 68 = .ok (.baload, 1) := by decide +kernel
theorem dX12_alike_69 : decode cX12_alike 69 = .ok (.aload_n 0, 1) := by decide +kernel
theorem dX12_alike_70 : decode cX12_alike 70 = .ok (.getfield 34, 3) := by decide +kernel
theorem dX12_alike_73 : decode cX12_alike 73 = .ok (.aload_n 0, 1) := by decide +kernel
theorem dX12_alike_74 : decode cX12_alike 74 = .ok (.getfield 37, 3) := by decide +kernel
theorem dX12_alike_77 : decode cX12_alike 77 = .ok (.iload_n 2, 1) := by decide +kernel
theorem dX12_alike_78 : decode cX12_alike 78 = .ok (.iaload, 1) := by decide +kernel
theorem dX12_alike_79 : decode cX12_alike 79 = .ok (.iload_n 3, 1) := by decide +kernel
theorem dX12_alike_80 : decode cX12_alike 80 = .ok (.iadd, 1) := by decide +kernel
theorem dX12_alike_81 : decode cX12_alike 81 = .ok (.baload, 1) := by decide +kernel
theorem dX12_alike_82 : decode cX12_alike 82 = .ok (.if_icmp .eq 5, 3) := by decide +kernel
theorem dX12_alike_85 : decode cX12_alike 85 = .ok (.iconst 0, 1) := by decide +kernel
theorem dX12_alike_86 : decode cX12_alike 86 = .ok (.ireturn, 1) := by decide +kernel
theorem dX12_alike_87 : decode cX12_alike 87 = .ok (.iinc 3 1, 3) := by decide +kernel
theorem dX12_alike_90 : decode cX12_alike 90 = .ok (.goto (-44), 3) := by decide +kernel
theorem dX12_alike_93 : decode cX12_alike 93 = .ok (.iconst 1, 1) := by decide +kernel
theorem dX12_alike_94 : decode cX12_alike 94 = .ok (.ireturn, 1) := by decide +kernel
theorem dX12_numbered_0 : decode cX12_numbered 0 = .ok (.aload_n 0, 1) := by decide +kernel
theorem dX12_numbered_1 : decode cX12_numbered 1 = .ok (.getfield 27, 3) := by decide +kernel
theorem dX12_numbered_4 : decode cX12_numbered 4 = .ok (.iload_n 1, 1) := by decide +kernel
theorem dX12_numbered_5 : decode cX12_numbered 5 = .ok (.baload, 1) := by decide +kernel
theorem dX12_numbered_6 : decode cX12_numbered 6 = .ok (.ldc 40, 2) := by decide +kernel
theorem dX12_numbered_8 : decode cX12_numbered 8 = .ok (.imul, 1) := by decide +kernel
theorem dX12_numbered_9 : decode cX12_numbered 9 = .ok (.aload_n 0, 1) := by decide +kernel
theorem dX12_numbered_10 : decode cX12_numbered 10 = .ok (.getfield 30, 3) := by decide +kernel
theorem dX12_numbered_13 : decode cX12_numbered 13 = .ok (.iload_n 1, 1) := by decide +kernel
theorem dX12_numbered_14 : decode cX12_numbered 14 = .ok (.iaload, 1) := by decide +kernel
theorem dX12_numbered_15 : decode cX12_numbered 15 = .ok (.bipush 31, 2) := by decide +kernel
theorem dX12_numbered_17 : decode cX12_numbered 17 = .ok (.imul, 1) := by decide +kernel
theorem dX12_numbered_18 : decode cX12_numbered 18 = .ok (.iadd, 1) := by decide +kernel
theorem dX12_numbered_19 : decode cX12_numbered 19 = .ok (.istore_n 2, 1) := by decide +kernel
theorem dX12_numbered_20 : decode cX12_numbered 20 = .ok (.aload_n 0, 1) := by decide +kernel
theorem dX12_numbered_21 : decode cX12_numbered 21 = .ok (.getfield 27, 3) := by decide +kernel
theorem dX12_numbered_24 : decode cX12_numbered 24 = .ok (.iload_n 1, 1) := by decide +kernel
theorem dX12_numbered_25 : decode cX12_numbered 25 = .ok (.baload, 1) := by decide +kernel
theorem dX12_numbered_26 : decode cX12_numbered 26 = .ok (.iconst 1, 1) := by decide +kernel
theorem dX12_numbered_27 : decode cX12_numbered 27 = .ok (.if_icmp .ne 40, 3) := by decide +kernel
theorem dX12_numbered_30 : decode cX12_numbered 30 = .ok (.iconst 0, 1) := by decide +kernel
theorem dX12_numbered_31 : decode cX12_numbered 31 = .ok (.istore_n 3, 1) := by decide +kernel
theorem dX12_numbered_32 : decode cX12_numbered 32 = .ok (.iload_n 3, 1) := by decide +kernel
theorem dX12_numbered_33 : decode cX12_numbered 33 = .ok (.aload_n 0, 1) := by decide +kernel
theorem dX12_numbered_34 : decode cX12_numbered 34 = .ok (.getfield 30, 3) := by decide +kernel
theorem dX12_numbered_37 : decode cX12_numbered 37 = .ok (.iload_n 1, 1) := by decide +kernel
theorem dX12_numbered_38 : decode cX12_numbered 38 = .ok (.iaload, 1) := by decide +kernel
theorem dX12_numbered_39 : decode cX12_numbered 39 = .ok (.if_icmp .ge 28, 3) := by decide +kernel
theorem dX12_numbered_42 : decode cX12_numbered 42 = .ok (.bipush 31, 2) := by decide +kernel
theorem dX12_numbered_44 : decode cX12_numbered 44 = .ok (.iload_n 2, 1) := by decide +kernel
theorem dX12_numbered_45 : decode cX12_numbered 45 = .ok (.imul, 1) := by decide +kernel
theorem dX12_numbered_46 : decode cX12_numbered 46 = .ok (.aload_n 0, 1) := by decide +kernel
theorem dX12_numbered_47 : decode cX12_numbered 47 = .ok (.getfield 34, 3) := by decide +kernel
theorem dX12_numbered_50 : decode cX12_numbered 50 = .ok (.aload_n 0, 1) := by decide +kernel
theorem dX12_numbered_51 : decode cX12_numbered 51 = .ok (.getfield 37, 3) := by decide +kernel
theorem dX12_numbered_54 : decode cX12_numbered 54 = .ok (.iload_n 1, 1) := by decide +kernel
theorem dX12_numbered_55 : decode cX12_numbered 55 = .ok (.iaload, 1) := by decide +kernel
theorem dX12_numbered_56 : decode cX12_numbered 56 = .ok (.iload_n 3, 1) := by decide +kernel
theorem dX12_numbered_57 : decode cX12_numbered 57 = .ok (.iadd, 1) := by decide +kernel
theorem dX12_numbered_58 : decode cX12_numbered 58 = .ok (.baload, 1) := by decide +kernel
theorem dX12_numbered_59 : decode cX12_numbered 59 = .ok (.iadd, 1) := by decide +kernel
theorem dX12_numbered_60 : decode cX12_numbered 60 = .ok (.istore_n 2, 1) := by decide +kernel
theorem dX12_numbered_61 : decode cX12_numbered 61 = .ok (.iinc 3 1, 3) := by decide +kernel
theorem dX12_numbered_64 : decode cX12_numbered 64 = .ok (.goto (-32), 3) := by decide +kernel
theorem dX12_numbered_67 : decode cX12_numbered 67 = .ok (.iload_n 2, 1) := by decide +kernel
theorem dX12_numbered_68 : decode cX12_numbered 68 = .ok (.iload_n 2, 1) := by decide +kernel
theorem dX12_numbered_69 : decode cX12_numbered 69 = .ok (.bipush 16, 2) := by decide +kernel
theorem dX12_numbered_71 : decode cX12_numbered 71 = .ok (.iushr, 1) := by decide +kernel
theorem dX12_numbered_72 : decode cX12_numbered 72 = .ok (.ixor, 1) := by decide +kernel
theorem dX12_numbered_73 : decode cX12_numbered 73 = .ok (.ldc 41, 2) := by decide +kernel
theorem dX12_numbered_75 : decode cX12_numbered 75 = .ok (.iand, 1) := by decide +kernel
theorem dX12_numbered_76 : decode cX12_numbered 76 = .ok (.istore_n 3, 1) := by decide +kernel
theorem dX12_numbered_77 : decode cX12_numbered 77 = .ok (.aload_n 0, 1) := by decide +kernel
theorem dX12_numbered_78 : decode cX12_numbered 78 = .ok (.getfield 42, 3) := by decide +kernel
theorem dX12_numbered_81 : decode cX12_numbered 81 = .ok (.iload_n 3, 1) := by decide +kernel
theorem dX12_numbered_82 : decode cX12_numbered 82 = .ok (.iaload, 1) := by decide +kernel
theorem dX12_numbered_83 : decode cX12_numbered 83 = .ok (.ifCond .le 34, 3) := by decide +kernel
theorem dX12_numbered_86 : decode cX12_numbered 86 = .ok (.aload_n 0, 1) := by decide +kernel
theorem dX12_numbered_87 : decode cX12_numbered 87 = .ok (.iload_n 1, 1) := by decide +kernel
theorem dX12_numbered_88 : decode cX12_numbered 88 = .ok (.aload_n 0, 1) := by decide +kernel
theorem dX12_numbered_89 : decode cX12_numbered 89 = .ok (.getfield 45, 3) := by decide +kernel
theorem dX12_numbered_92 : decode cX12_numbered 92 = .ok (.aload_n 0, 1) := by decide +kernel
theorem dX12_numbered_93 : decode cX12_numbered 93 = .ok (.getfield 42, 3) := by decide +kernel
theorem dX12_numbered_96 : decode cX12_numbered 96 = .ok (.iload_n 3, 1) := by decide +kernel
theorem dX12_numbered_97 : decode cX12_numbered 97 = .ok (.iaload, 1) := by decide +kernel
theorem dX12_numbered_98 : decode cX12_numbered 98 = .ok (.iconst 1, 1) := by decide +kernel
theorem dX12_numbered_99 : decode cX12_numbered 99 = .ok (.isub, 1) := by decide +kernel
theorem dX12_numbered_100 : decode cX12_numbered 100 = .ok (.iaload, 1) := by decide +kernel
theorem dX12_numbered_101 : decode cX12_numbered 101 = .ok (.invokevirtual 48, 3) := by decide +kernel
theorem dX12_numbered_104 : decode cX12_numbered 104 = .ok (.ifCond .ne 13, 3) := by decide +kernel
theorem dX12_numbered_107 : decode cX12_numbered 107 = .ok (.iload_n 3, 1) := by decide +kernel
theorem dX12_numbered_108 : decode cX12_numbered 108 = .ok (.iconst 1, 1) := by decide +kernel
theorem dX12_numbered_109 : decode cX12_numbered 109 = .ok (.iadd, 1) := by decide +kernel
theorem dX12_numbered_110 : decode cX12_numbered 110 = .ok (.ldc 41, 2) := by decide +kernel
theorem dX12_numbered_112 : decode cX12_numbered 112 = .ok (.iand, 1) := by decide +kernel
theorem dX12_numbered_113 : decode cX12_numbered 113 = .ok (.istore_n 3, 1) := by decide +kernel
theorem dX12_numbered_114 : decode cX12_numbered 114 = .ok (.goto (-37), 3) := by decide +kernel
theorem dX12_numbered_117 : decode cX12_numbered 117 = .ok (.aload_n 0, 1) := by decide +kernel
theorem dX12_numbered_118 : decode cX12_numbered 118 = .ok (.getfield 42, 3) := by decide +kernel
theorem dX12_numbered_121 : decode cX12_numbered 121 = .ok (.iload_n 3, 1) := by decide +kernel
theorem dX12_numbered_122 : decode cX12_numbered 122 = .ok (.iaload, 1) := by decide +kernel
theorem dX12_numbered_123 : decode cX12_numbered 123 = .ok (.ifCond .ne 33, 3) := by decide +kernel
theorem dX12_numbered_126 : decode cX12_numbered 126 = .ok (.aload_n 0, 1) := by decide +kernel
theorem dX12_numbered_127 : decode cX12_numbered 127 = .ok (.getfield 45, 3) := by decide +kernel
theorem dX12_numbered_130 : decode cX12_numbered 130 = .ok (.aload_n 0, 1) := by decide +kernel
theorem dX12_numbered_131 : decode cX12_numbered 131 = .ok (.getfield 52, 3) := by decide +kernel
theorem dX12_numbered_134 : decode cX12_numbered 134 = .ok (.iload_n 1, 1) := by decide +kernel
theorem dX12_numbered_135 : decode cX12_numbered 135 = .ok (.iastore, 1) := by decide +kernel
theorem dX12_numbered_136 : decode cX12_numbered 136 = .ok (.aload_n 0, 1) := by decide +kernel
theorem dX12_numbered_137 : decode cX12_numbered 137 = .ok (.dup, 1) := by decide +kernel
theorem dX12_numbered_138 : decode cX12_numbered 138 = .ok (.getfield 52, 3) := by decide +kernel
theorem dX12_numbered_141 : decode cX12_numbered 141 = .ok (.iconst 1, 1) := by decide +kernel
theorem dX12_numbered_142 : decode cX12_numbered 142 = .ok (.iadd, 1) := by decide +kernel
theorem dX12_numbered_143 : decode cX12_numbered 143 = .ok (.putfield 52, 3) := by decide +kernel
theorem dX12_numbered_146 : decode cX12_numbered 146 = .ok (.aload_n 0, 1) := by decide +kernel
theorem dX12_numbered_147 : decode cX12_numbered 147 = .ok (.getfield 42, 3) := by decide +kernel
theorem dX12_numbered_150 : decode cX12_numbered 150 = .ok (.iload_n 3, 1) := by decide +kernel
theorem dX12_numbered_151 : decode cX12_numbered 151 = .ok (.aload_n 0, 1) := by decide +kernel
theorem dX12_numbered_152 : decode cX12_numbered 152 = .ok (.getfield 52, 3) := by decide +kernel
theorem dX12_numbered_155 : decode cX12_numbered 155 = .ok (.iastore, 1) := by decide +kernel
theorem dX12_numbered_156 : decode cX12_numbered 156 = .ok (.aload_n 0, 1) := by decide +kernel
theorem dX12_numbered_157 : decode cX12_numbered 157 = .ok (.getfield 55, 3) := by decide +kernel
theorem dX12_numbered_160 : decode cX12_numbered 160 = .ok (.iload_n 1, 1) := by decide +kernel
theorem dX12_numbered_161 : decode cX12_numbered 161 = .ok (.aload_n 0, 1) := by decide +kernel
theorem dX12_numbered_162 : decode cX12_numbered 162 = .ok (.getfield 42, 3) := by decide +kernel
theorem dX12_numbered_165 : decode cX12_numbered 165 = .ok (.iload_n 3, 1) := by decide +kernel
theorem dX12_numbered_166 : decode cX12_numbered 166 = .ok (.iaload, 1) := by decide +kernel
theorem dX12_numbered_167 : decode cX12_numbered 167 = .ok (.iconst 1, 1) := by decide +kernel
theorem dX12_numbered_168 : decode cX12_numbered 168 = .ok (.isub, 1) := by decide +kernel
theorem dX12_numbered_169 : decode cX12_numbered 169 = .ok (.iastore, 1) := by decide +kernel
theorem dX12_numbered_170 : decode cX12_numbered 170 = .ok (.return_, 1) := by decide +kernel
theorem dX12_emptyLog_0 : decode cX12_emptyLog 0 = .ok (.aload_n 0, 1) := by decide +kernel
theorem dX12_emptyLog_1 : decode cX12_emptyLog 1 = .ok (.iconst 0, 1) := by decide +kernel
theorem dX12_emptyLog_2 : decode cX12_emptyLog 2 = .ok (.putfield 58, 3) := by decide +kernel
theorem dX12_emptyLog_5 : decode cX12_emptyLog 5 = .ok (.aload_n 0, 1) := by decide +kernel
theorem dX12_emptyLog_6 : decode cX12_emptyLog 6 = .ok (.iconst 0, 1) := by decide +kernel
theorem dX12_emptyLog_7 : decode cX12_emptyLog 7 = .ok (.putfield 61, 3) := by decide +kernel
theorem dX12_emptyLog_10 : decode cX12_emptyLog 10 = .ok (.aload_n 0, 1) := by decide +kernel
theorem dX12_emptyLog_11 : decode cX12_emptyLog 11 = .ok (.iconst 0, 1) := by decide +kernel
theorem dX12_emptyLog_12 : decode cX12_emptyLog 12 = .ok (.putfield 64, 3) := by decide +kernel
theorem dX12_emptyLog_15 : decode cX12_emptyLog 15 = .ok (.aload_n 0, 1) := by decide +kernel
theorem dX12_emptyLog_16 : decode cX12_emptyLog 16 = .ok (.iconst 0, 1) := by decide +kernel
theorem dX12_emptyLog_17 : decode cX12_emptyLog 17 = .ok (.putfield 67, 3) := by decide +kernel
theorem dX12_emptyLog_20 : decode cX12_emptyLog 20 = .ok (.aload_n 0, 1) := by decide +kernel
theorem dX12_emptyLog_21 : decode cX12_emptyLog 21 = .ok (.iconst 0, 1) := by decide +kernel
theorem dX12_emptyLog_22 : decode cX12_emptyLog 22 = .ok (.putfield 70, 3) := by decide +kernel
theorem dX12_emptyLog_25 : decode cX12_emptyLog 25 = .ok (.aload_n 0, 1) := by decide +kernel
theorem dX12_emptyLog_26 : decode cX12_emptyLog 26 = .ok (.iconst 0, 1) := by decide +kernel
theorem dX12_emptyLog_27 : decode cX12_emptyLog 27 = .ok (.putfield 52, 3) := by decide +kernel
theorem dX12_emptyLog_30 : decode cX12_emptyLog 30 = .ok (.iconst 0, 1) := by decide +kernel
theorem dX12_emptyLog_31 : decode cX12_emptyLog 31 = .ok (.istore_n 1, 1) := by decide +kernel
theorem dX12_emptyLog_32 : decode cX12_emptyLog 32 = .ok (.iload_n 1, 1) := by decide +kernel
theorem dX12_emptyLog_33 : decode cX12_emptyLog 33 = .ok (.ldc 73, 2) := by decide +kernel
theorem dX12_emptyLog_35 : decode cX12_emptyLog 35 = .ok (.if_icmp .ge 16, 3) := by decide +kernel
theorem dX12_emptyLog_38 : decode cX12_emptyLog 38 = .ok (.aload_n 0, 1) := by decide +kernel
theorem dX12_emptyLog_39 : decode cX12_emptyLog 39 = .ok (.getfield 42, 3) := by decide +kernel
theorem dX12_emptyLog_42 : decode cX12_emptyLog 42 = .ok (.iload_n 1, 1) := by decide +kernel
theorem dX12_emptyLog_43 : decode cX12_emptyLog 43 = .ok (.iconst 0, 1) := by decide +kernel
theorem dX12_emptyLog_44 : decode cX12_emptyLog 44 = .ok (.iastore, 1) := by decide +kernel
theorem dX12_emptyLog_45 : decode cX12_emptyLog 45 = .ok (.iinc 1 1, 3) := by decide +kernel
theorem dX12_emptyLog_48 : decode cX12_emptyLog 48 = .ok (.goto (-16), 3) := by decide +kernel
theorem dX12_emptyLog_51 : decode cX12_emptyLog 51 = .ok (.aload_n 0, 1) := by decide +kernel
theorem dX12_emptyLog_52 : decode cX12_emptyLog 52 = .ok (.iconst 0, 1) := by decide +kernel
theorem dX12_emptyLog_53 : decode cX12_emptyLog 53 = .ok (.putfield 74, 3) := by decide +kernel
theorem dX12_emptyLog_56 : decode cX12_emptyLog 56 = .ok (.aload_n 0, 1) := by decide +kernel
theorem dX12_emptyLog_57 : decode cX12_emptyLog 57 = .ok (.iconst 0, 1) := by decide +kernel
theorem dX12_emptyLog_58 : decode cX12_emptyLog 58 = .ok (.putfield 77, 3) := by decide +kernel
theorem dX12_emptyLog_61 : decode cX12_emptyLog 61 = .ok (.aload_n 0, 1) := by decide +kernel
theorem dX12_emptyLog_62 : decode cX12_emptyLog 62 = .ok (.iconst 0, 1) := by decide +kernel
theorem dX12_emptyLog_63 : decode cX12_emptyLog 63 = .ok (.putfield 80, 3) := by decide +kernel
theorem dX12_emptyLog_66 : decode cX12_emptyLog 66 = .ok (.iconst 0, 1) := by decide +kernel
theorem dX12_emptyLog_67 : decode cX12_emptyLog 67 = .ok (.istore_n 1, 1) := by decide +kernel
theorem dX12_emptyLog_68 : decode cX12_emptyLog 68 = .ok (.iload_n 1, 1) := by decide +kernel
theorem dX12_emptyLog_69 : decode cX12_emptyLog 69 = .ok (.bipush 12, 2) := by decide +kernel
theorem dX12_emptyLog_71 : decode cX12_emptyLog 71 = .ok (.if_icmp .ge 16, 3) := by decide +kernel
theorem dX12_emptyLog_74 : decode cX12_emptyLog 74 = .ok (.aload_n 0, 1) := by decide +kernel
theorem dX12_emptyLog_75 : decode cX12_emptyLog 75 = .ok (.getfield 83, 3) := by decide +kernel
theorem dX12_emptyLog_78 : decode cX12_emptyLog 78 = .ok (.iload_n 1, 1) := by decide +kernel
theorem dX12_emptyLog_79 : decode cX12_emptyLog 79 = .ok (.iconst 0, 1) := by decide +kernel
theorem dX12_emptyLog_80 : decode cX12_emptyLog 80 = .ok (.iastore, 1) := by decide +kernel
theorem dX12_emptyLog_81 : decode cX12_emptyLog 81 = .ok (.iinc 1 1, 3) := by decide +kernel
theorem dX12_emptyLog_84 : decode cX12_emptyLog 84 = .ok (.goto (-16), 3) := by decide +kernel
theorem dX12_emptyLog_87 : decode cX12_emptyLog 87 = .ok (.iconst 0, 1) := by decide +kernel
theorem dX12_emptyLog_88 : decode cX12_emptyLog 88 = .ok (.istore_n 1, 1) := by decide +kernel
theorem dX12_emptyLog_89 : decode cX12_emptyLog 89 = .ok (.iload_n 1, 1) := by decide +kernel
theorem dX12_emptyLog_90 : decode cX12_emptyLog 90 = .ok (.ldc 86, 2) := by decide +kernel
theorem dX12_emptyLog_92 : decode cX12_emptyLog 92 = .ok (.if_icmp .ge 30, 3) := by decide +kernel
theorem dX12_emptyLog_95 : decode cX12_emptyLog 95 = .ok (.aload_n 0, 1) := by decide +kernel
theorem dX12_emptyLog_96 : decode cX12_emptyLog 96 = .ok (.getfield 87, 3) := by decide +kernel
theorem dX12_emptyLog_99 : decode cX12_emptyLog 99 = .ok (.iload_n 1, 1) := by decide +kernel
theorem dX12_emptyLog_100 : decode cX12_emptyLog 100 = .ok (.iconst (-1), 1) := by decide +kernel
theorem dX12_emptyLog_101 : decode cX12_emptyLog 101 = .ok (.sastore, 1) := by decide +kernel
theorem dX12_emptyLog_102 : decode cX12_emptyLog 102 = .ok (.aload_n 0, 1) := by decide +kernel
theorem dX12_emptyLog_103 : decode cX12_emptyLog 103 = .ok (.getfield 91, 3) := by decide +kernel
theorem dX12_emptyLog_106 : decode cX12_emptyLog 106 = .ok (.iload_n 1, 1) := by decide +kernel
theorem dX12_emptyLog_107 : decode cX12_emptyLog 107 = .ok (.iconst (-1), 1) := by decide +kernel
theorem dX12_emptyLog_108 : decode cX12_emptyLog 108 = .ok (.iastore, 1) := by decide +kernel
theorem dX12_emptyLog_109 : decode cX12_emptyLog 109 = .ok (.aload_n 0, 1) := by decide +kernel
theorem dX12_emptyLog_110 : decode cX12_emptyLog 110 = .ok (.getfield 94, 3) := by decide +kernel
theorem dX12_emptyLog_113 : decode cX12_emptyLog 113 = .ok (.iload_n 1, 1) := by decide +kernel
theorem dX12_emptyLog_114 : decode cX12_emptyLog 114 = .ok (.iconst 0, 1) := by decide +kernel
theorem dX12_emptyLog_115 : decode cX12_emptyLog 115 = .ok (.sastore, 1) := by decide +kernel
theorem dX12_emptyLog_116 : decode cX12_emptyLog 116 = .ok (.iinc 1 1, 3) := by decide +kernel
theorem dX12_emptyLog_119 : decode cX12_emptyLog 119 = .ok (.goto (-30), 3) := by decide +kernel
theorem dX12_emptyLog_122 : decode cX12_emptyLog 122 = .ok (.return_, 1) := by decide +kernel
theorem dX12_fieldOf_0 : decode cX12_fieldOf 0 = .ok (.iconst 0, 1) := by decide +kernel
theorem dX12_fieldOf_1 : decode cX12_fieldOf 1 = .ok (.istore 4, 2) := by decide +kernel
theorem dX12_fieldOf_3 : decode cX12_fieldOf 3 = .ok (.iload 4, 2) := by decide +kernel
theorem dX12_fieldOf_5 : decode cX12_fieldOf 5 = .ok (.aload_n 0, 1) := by decide +kernel
theorem dX12_fieldOf_6 : decode cX12_fieldOf 6 = .ok (.getfield 97, 3) := by decide +kernel
theorem dX12_fieldOf_9 : decode cX12_fieldOf 9 = .ok (.iload_n 1, 1) := by decide +kernel
theorem dX12_fieldOf_10 : decode cX12_fieldOf 10 = .ok (.iaload, 1) := by decide +kernel
theorem dX12_fieldOf_11 : decode cX12_fieldOf 11 = .ok (.if_icmp .ge 34, 3) := by decide +kernel
theorem dX12_fieldOf_14 : decode cX12_fieldOf 14 = .ok (.aload_n 0, 1) := by decide +kernel
theorem dX12_fieldOf_15 : decode cX12_fieldOf 15 = .ok (.getfield 100, 3) := by decide +kernel
