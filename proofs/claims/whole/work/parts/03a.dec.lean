theorem dX0_init_0 : decode cX0_init 0 = .ok (.aload_n 0, 1) := by decide +kernel
theorem dX0_init_1 : decode cX0_init 1 = .ok (.invokespecial 3, 3) := by decide +kernel
theorem dX0_init_4 : decode cX0_init 4 = .ok (.aload_n 0, 1) := by decide +kernel
theorem dX0_init_5 : decode cX0_init 5 = .ok (.bipush 60, 2) := by decide +kernel
theorem dX0_init_7 : decode cX0_init 7 = .ok (.newarray .int, 2) := by decide +kernel
theorem dX0_init_9 : decode cX0_init 9 = .ok (.putfield 9, 3) := by decide +kernel
theorem dX0_init_12 : decode cX0_init 12 = .ok (.aload_n 0, 1) := by decide +kernel
theorem dX0_init_13 : decode cX0_init 13 = .ok (.bipush 60, 2) := by decide +kernel
theorem dX0_init_15 : decode cX0_init 15 = .ok (.newarray .int, 2) := by decide +kernel
theorem dX0_init_17 : decode cX0_init 17 = .ok (.putfield 15, 3) := by decide +kernel
theorem dX0_init_20 : decode cX0_init 20 = .ok (.aload_n 0, 1) := by decide +kernel
theorem dX0_init_21 : decode cX0_init 21 = .ok (.bipush 60, 2) := by decide +kernel
theorem dX0_init_23 : decode cX0_init 23 = .ok (.newarray .int, 2) := by decide +kernel
theorem dX0_init_25 : decode cX0_init 25 = .ok (.putfield 18, 3) := by decide +kernel
theorem dX0_init_28 : decode cX0_init 28 = .ok (.aload_n 0, 1) := by decide +kernel
theorem dX0_init_29 : decode cX0_init 29 = .ok (.sipush 1152, 3) := by decide +kernel
theorem dX0_init_32 : decode cX0_init 32 = .ok (.newarray .int, 2) := by decide +kernel
theorem dX0_init_34 : decode cX0_init 34 = .ok (.putfield 21, 3) := by decide +kernel
theorem dX0_init_37 : decode cX0_init 37 = .ok (.aload_n 0, 1) := by decide +kernel
theorem dX0_init_38 : decode cX0_init 38 = .ok (.sipush 144, 3) := by decide +kernel
theorem dX0_init_41 : decode cX0_init 41 = .ok (.newarray .long, 2) := by decide +kernel
theorem dX0_init_43 : decode cX0_init 43 = .ok (.putfield 24, 3) := by decide +kernel
theorem dX0_init_46 : decode cX0_init 46 = .ok (.aload_n 0, 1) := by decide +kernel
theorem dX0_init_47 : decode cX0_init 47 = .ok (.iconst 4, 1) := by decide +kernel
theorem dX0_init_48 : decode cX0_init 48 = .ok (.newarray .long, 2) := by decide +kernel
theorem dX0_init_50 : decode cX0_init 50 = .ok (.putfield 28, 3) := by decide +kernel
theorem dX0_init_53 : decode cX0_init 53 = .ok (.aload_n 0, 1) := by decide +kernel
theorem dX0_init_54 : decode cX0_init 54 = .ok (.sipush 144, 3) := by decide +kernel
theorem dX0_init_57 : decode cX0_init 57 = .ok (.newarray .int, 2) := by decide +kernel
theorem dX0_init_59 : decode cX0_init 59 = .ok (.putfield 31, 3) := by decide +kernel
theorem dX0_init_62 : decode cX0_init 62 = .ok (.return_, 1) := by decide +kernel
theorem dX0_clear_0 : decode cX0_clear 0 = .ok (.aload_n 0, 1) := by decide +kernel
theorem dX0_clear_1 : decode cX0_clear 1 = .ok (.iconst 0, 1) := by decide +kernel
theorem dX0_clear_2 : decode cX0_clear 2 = .ok (.putfield 34, 3) := by decide +kernel
theorem dX0_clear_5 : decode cX0_clear 5 = .ok (.aload_n 0, 1) := by decide +kernel
theorem dX0_clear_6 : decode cX0_clear 6 = .ok (.iconst 0, 1) := by decide +kernel
theorem dX0_clear_7 : decode cX0_clear 7 = .ok (.putfield 38, 3) := by decide +kernel
theorem dX0_clear_10 : decode cX0_clear 10 = .ok (.aload_n 0, 1) := by decide +kernel
theorem dX0_clear_11 : decode cX0_clear 11 = .ok (.getfield 21, 3) := by decide +kernel
theorem dX0_clear_14 : decode cX0_clear 14 = .ok (.iconst 0, 1) := by decide +kernel
theorem dX0_clear_15 : decode cX0_clear 15 = .ok (.invokestatic 41, 3) := by decide +kernel
theorem dX0_clear_18 : decode cX0_clear 18 = .ok (.aload_n 0, 1) := by decide +kernel
theorem dX0_clear_19 : decode cX0_clear 19 = .ok (.getfield 24, 3) := by decide +kernel
theorem dX0_clear_22 : decode cX0_clear 22 = .ok (.lconst 0, 1) := by decide +kernel
theorem dX0_clear_23 : decode cX0_clear 23 = .ok (.invokestatic 47, 3) := by decide +kernel
theorem dX0_clear_26 : decode cX0_clear 26 = .ok (.aload_n 0, 1) := by decide +kernel
theorem dX0_clear_27 : decode cX0_clear 27 = .ok (.getfield 28, 3) := by decide +kernel
theorem dX0_clear_30 : decode cX0_clear 30 = .ok (.lconst 0, 1) := by decide +kernel
theorem dX0_clear_31 : decode cX0_clear 31 = .ok (.invokestatic 47, 3) := by decide +kernel
theorem dX0_clear_34 : decode cX0_clear 34 = .ok (.aload_n 0, 1) := by decide +kernel
theorem dX0_clear_35 : decode cX0_clear 35 = .ok (.getfield 31, 3) := by decide +kernel
theorem dX0_clear_38 : decode cX0_clear 38 = .ok (.iconst 0, 1) := by decide +kernel
theorem dX0_clear_39 : decode cX0_clear 39 = .ok (.invokestatic 41, 3) := by decide +kernel
theorem dX0_clear_42 : decode cX0_clear 42 = .ok (.return_, 1) := by decide +kernel
theorem dX0_copy_0 : decode cX0_copy 0 = .ok (.aload_n 0, 1) := by decide +kernel
theorem dX0_copy_1 : decode cX0_copy 1 = .ok (.aload_n 1, 1) := by decide +kernel
theorem dX0_copy_2 : decode cX0_copy 2 = .ok (.getfield 34, 3) := by decide +kernel
theorem dX0_copy_5 : decode cX0_copy 5 = .ok (.putfield 34, 3) := by decide +kernel
theorem dX0_copy_8 : decode cX0_copy 8 = .ok (.aload_n 0, 1) := by decide +kernel
theorem dX0_copy_9 : decode cX0_copy 9 = .ok (.aload_n 1, 1) := by decide +kernel
theorem dX0_copy_10 : decode cX0_copy 10 = .ok (.getfield 38, 3) := by decide +kernel
theorem dX0_copy_13 : decode cX0_copy 13 = .ok (.putfield 38, 3) := by decide +kernel
theorem dX0_copy_16 : decode cX0_copy 16 = .ok (.aload_n 1, 1) := by decide +kernel
theorem dX0_copy_17 : decode cX0_copy 17 = .ok (.getfield 9, 3) := by decide +kernel
theorem dX0_copy_20 : decode cX0_copy 20 = .ok (.iconst 0, 1) := by decide +kernel
theorem dX0_copy_21 : decode cX0_copy 21 = .ok (.aload_n 0, 1) := by decide +kernel
theorem dX0_copy_22 : decode cX0_copy 22 = .ok (.getfield 9, 3) := by decide +kernel
theorem dX0_copy_25 : decode cX0_copy 25 = .ok (.iconst 0, 1) := by decide +kernel
theorem dX0_copy_26 : decode cX0_copy 26 = .ok (.bipush 60, 2) := by decide +kernel
theorem dX0_copy_28 : decode cX0_copy 28 = .ok (.invokestatic 50, 3) := by decide +kernel
theorem dX0_copy_31 : decode cX0_copy 31 = .ok (.aload_n 1, 1) := by decide +kernel
theorem dX0_copy_32 : decode cX0_copy 32 = .ok (.getfield 15, 3) := by decide +kernel
theorem dX0_copy_35 : decode cX0_copy 35 = .ok (.iconst 0, 1) := by decide +kernel
theorem dX0_copy_36 : decode cX0_copy 36 = .ok (.aload_n 0, 1) := by decide +kernel
theorem dX0_copy_37 : decode cX0_copy 37 = .ok (.getfield 15, 3) := by decide +kernel
theorem dX0_copy_40 : decode cX0_copy 40 = .ok (.iconst 0, 1) := by decide +kernel
theorem dX0_copy_41 : decode cX0_copy 41 = .ok (.bipush 60, 2) := by decide +kernel
theorem dX0_copy_43 : decode cX0_copy 43 = .ok (.invokestatic 50, 3) := by decide +kernel
theorem dX0_copy_46 : decode cX0_copy 46 = .ok (.aload_n 1, 1) := by decide +kernel
theorem dX0_copy_47 : decode cX0_copy 47 = .ok (.getfield 18, 3) := by decide +kernel
theorem dX0_copy_50 : decode cX0_copy 50 = .ok (.iconst 0, 1) := by decide +kernel
theorem dX0_copy_51 : decode cX0_copy 51 = .ok (.aload_n 0, 1) := by decide +kernel
theorem dX0_copy_52 : decode cX0_copy 52 = .ok (.getfield 18, 3) := by decide +kernel
theorem dX0_copy_55 : decode cX0_copy 55 = .ok (.iconst 0, 1) := by decide +kernel
theorem dX0_copy_56 : decode cX0_copy 56 = .ok (.bipush 60, 2) := by decide +kernel
theorem dX0_copy_58 : decode cX0_copy 58 = .ok (.invokestatic 50, 3) := by decide +kernel
theorem dX0_copy_61 : decode cX0_copy 61 = .ok (.aload_n 1, 1) := by decide +kernel
theorem dX0_copy_62 : decode cX0_copy 62 = .ok (.getfield 21, 3) := by decide +kernel
theorem dX0_copy_65 : decode cX0_copy 65 = .ok (.iconst 0, 1) := by decide +kernel
theorem dX0_copy_66 : decode cX0_copy 66 = .ok (.aload_n 0, 1) := by decide +kernel
theorem dX0_copy_67 : decode cX0_copy 67 = .ok (.getfield 21, 3) := by decide +kernel
theorem dX0_copy_70 : decode cX0_copy 70 = .ok (.iconst 0, 1) := by decide +kernel
theorem dX0_copy_71 : decode cX0_copy 71 = .ok (.sipush 1152, 3) := by decide +kernel
theorem dX0_copy_74 : decode cX0_copy 74 = .ok (.invokestatic 50, 3) := by decide +kernel
theorem dX0_copy_77 : decode cX0_copy 77 = .ok (.aload_n 1, 1) := by decide +kernel
theorem dX0_copy_78 : decode cX0_copy 78 = .ok (.getfield 24, 3) := by decide +kernel
theorem dX0_copy_81 : decode cX0_copy 81 = .ok (.iconst 0, 1) := by decide +kernel
theorem dX0_copy_82 : decode cX0_copy 82 = .ok (.aload_n 0, 1) := by decide +kernel
theorem dX0_copy_83 : decode cX0_copy 83 = .ok (.getfield 24, 3) := by decide +kernel
theorem dX0_copy_86 : decode cX0_copy 86 = .ok (.iconst 0, 1) := by decide +kernel
theorem dX0_copy_87 : decode cX0_copy 87 = .ok (.sipush 144, 3) := by decide +kernel
theorem dX0_copy_90 : decode cX0_copy 90 = .ok (.invokestatic 50, 3) := by decide +kernel
theorem dX0_copy_93 : decode cX0_copy 93 = .ok (.aload_n 1, 1) := by decide +kernel
theorem dX0_copy_94 : decode cX0_copy 94 = .ok (.getfield 28, 3) := by decide +kernel
theorem dX0_copy_97 : decode cX0_copy 97 = .ok (.iconst 0, 1) := by decide +kernel
theorem dX0_copy_98 : decode cX0_copy 98 = .ok (.aload_n 0, 1) := by decide +kernel
theorem dX0_copy_99 : decode cX0_copy 99 = .ok (.getfield 28, 3) := by decide +kernel
theorem dX0_copy_102 : decode cX0_copy 102 = .ok (.iconst 0, 1) := by decide +kernel
theorem dX0_copy_103 : decode cX0_copy 103 = .ok (.iconst 4, 1) := by decide +kernel
theorem dX0_copy_104 : decode cX0_copy 104 = .ok (.invokestatic 50, 3) := by decide +kernel
theorem dX0_copy_107 : decode cX0_copy 107 = .ok (.aload_n 1, 1) := by decide +kernel
theorem dX0_copy_108 : decode cX0_copy 108 = .ok (.getfield 31, 3) := by decide +kernel
theorem dX0_copy_111 : decode cX0_copy 111 = .ok (.iconst 0, 1) := by decide +kernel
theorem dX0_copy_112 : decode cX0_copy 112 = .ok (.aload_n 0, 1) := by decide +kernel
theorem dX0_copy_113 : decode cX0_copy 113 = .ok (.getfield 31, 3) := by decide +kernel
theorem dX0_copy_116 : decode cX0_copy 116 = .ok (.iconst 0, 1) := by decide +kernel
theorem dX0_copy_117 : decode cX0_copy 117 = .ok (.sipush 144, 3) := by decide +kernel
theorem dX0_copy_120 : decode cX0_copy 120 = .ok (.invokestatic 50, 3) := by decide +kernel
theorem dX0_copy_123 : decode cX0_copy 123 = .ok (.return_, 1) := by decide +kernel
theorem dX0_draw_0 : decode cX0_draw 0 = .ok (.iload 4, 2) := by decide +kernel
theorem dX0_draw_2 : decode cX0_draw 2 = .ok (.ifCond .lt 29, 3) := by decide +kernel
theorem dX0_draw_5 : decode cX0_draw 5 = .ok (.iload 4, 2) := by decide +kernel
theorem dX0_draw_7 : decode cX0_draw 7 = .ok (.aload_n 0, 1) := by decide +kernel
theorem dX0_draw_8 : decode cX0_draw 8 = .ok (.getfield 28, 3) := by decide +kernel
theorem dX0_draw_11 : decode cX0_draw 11 = .ok (.arraylength, 1) := by decide +kernel
theorem dX0_draw_12 : decode cX0_draw 12 = .ok (.if_icmp .ge 19, 3) := by decide +kernel
theorem dX0_draw_15 : decode cX0_draw 15 = .ok (.aload_n 0, 1) := by decide +kernel
theorem dX0_draw_16 : decode cX0_draw 16 = .ok (.getfield 34, 3) := by decide +kernel
theorem dX0_draw_19 : decode cX0_draw 19 = .ok (.ifCond .lt 12, 3) := by decide +kernel
theorem dX0_draw_22 : decode cX0_draw 22 = .ok (.aload_n 0, 1) := by decide +kernel
theorem dX0_draw_23 : decode cX0_draw 23 = .ok (.getfield 34, 3) := by decide +kernel
theorem dX0_draw_26 : decode cX0_draw 26 = .ok (.bipush 60, 2) := by decide +kernel
theorem dX0_draw_28 : decode cX0_draw 28 = .ok (.if_icmp .lt 4, 3) := by decide +kernel
theorem dX0_draw_31 : decode cX0_draw 31 = .ok (.return_, 1) := by decide +kernel
theorem dX0_draw_32 : decode cX0_draw 32 = .ok (.aload_n 0, 1) := by decide +kernel
theorem dX0_draw_33 : decode cX0_draw 33 = .ok (.getfield 9, 3) := by decide +kernel
theorem dX0_draw_36 : decode cX0_draw 36 = .ok (.aload_n 0, 1) := by decide +kernel
theorem dX0_draw_37 : decode cX0_draw 37 = .ok (.getfield 34, 3) := by decide +kernel
theorem dX0_draw_40 : decode cX0_draw 40 = .ok (.iload_n 1, 1) := by decide +kernel
theorem dX0_draw_41 : decode cX0_draw 41 = .ok (.iastore, 1) := by decide +kernel
theorem dX0_draw_42 : decode cX0_draw 42 = .ok (.aload_n 0, 1) := by decide +kernel
theorem dX0_draw_43 : decode cX0_draw 43 = .ok (.getfield 15, 3) := by decide +kernel
theorem dX0_draw_46 : decode cX0_draw 46 = .ok (.aload_n 0, 1) := by decide +kernel
theorem dX0_draw_47 : decode cX0_draw 47 = .ok (.getfield 34, 3) := by decide +kernel
theorem dX0_draw_50 : decode cX0_draw 50 = .ok (.iload_n 3, 1) := by decide +kernel
theorem dX0_draw_51 : decode cX0_draw 51 = .ok (.iastore, 1) := by decide +kernel
theorem dX0_draw_52 : decode cX0_draw 52 = .ok (.aload_n 0, 1) := by decide +kernel
theorem dX0_draw_53 : decode cX0_draw 53 = .ok (.getfield 18, 3) := by decide +kernel
theorem dX0_draw_56 : decode cX0_draw 56 = .ok (.aload_n 0, 1) := by decide +kernel
theorem dX0_draw_57 : decode cX0_draw 57 = .ok (.getfield 34, 3) := by decide +kernel
theorem dX0_draw_60 : decode cX0_draw 60 = .ok (.iload 4, 2) := by decide +kernel
theorem dX0_draw_62 : decode cX0_draw 62 = .ok (.iastore, 1) := by decide +kernel
theorem dX0_draw_63 : decode cX0_draw 63 = .ok (.aload_n 0, 1) := by decide +kernel
theorem dX0_draw_64 : decode cX0_draw 64 = .ok (.getfield 28, 3) := by decide +kernel
theorem dX0_draw_67 : decode cX0_draw 67 = .ok (.iload 4, 2) := by decide +kernel
theorem dX0_draw_69 : decode cX0_draw 69 = .ok (.dup2, 1) := by decide +kernel
theorem dX0_draw_70 : decode cX0_draw 70 = .ok (.laload, 1) := by decide +kernel
theorem dX0_draw_71 : decode cX0_draw 71 = .ok (.lconst 1, 1) := by decide +kernel
theorem dX0_draw_72 : decode cX0_draw 72 = .ok (.aload_n 0, 1) := by decide +kernel
theorem dX0_draw_73 : decode cX0_draw 73 = .ok (.getfield 34, 3) := by decide +kernel
theorem dX0_draw_76 : decode cX0_draw 76 = .ok (.lshl, 1) := by decide +kernel
theorem dX0_draw_77 : decode cX0_draw 77 = .ok (.lor, 1) := by decide +kernel
theorem dX0_draw_78 : decode cX0_draw 78 = .ok (.lastore, 1) := by decide +kernel
theorem dX0_draw_79 : decode cX0_draw 79 = .ok (.aload_n 0, 1) := by decide +kernel
theorem dX0_draw_80 : decode cX0_draw 80 = .ok (.iload_n 1, 1) := by decide +kernel
theorem dX0_draw_81 : decode cX0_draw 81 = .ok (.iload_n 2, 1) := by decide +kernel
theorem dX0_draw_82 : decode cX0_draw 82 = .ok (.invokevirtual 56, 3) := by decide +kernel
theorem dX0_draw_85 : decode cX0_draw 85 = .ok (.aload_n 0, 1) := by decide +kernel
theorem dX0_draw_86 : decode cX0_draw 86 = .ok (.iload_n 3, 1) := by decide +kernel
theorem dX0_draw_87 : decode cX0_draw 87 = .ok (.iload_n 2, 1) := by decide +kernel
theorem dX0_draw_88 : decode cX0_draw 88 = .ok (.iconst 4, 1) := by decide +kernel
theorem dX0_draw_89 : decode cX0_draw 89 = .ok (.iadd, 1) := by decide +kernel
theorem dX0_draw_90 : decode cX0_draw 90 = .ok (.bipush 7, 2) := by decide +kernel
theorem dX0_draw_92 : decode cX0_draw 92 = .ok (.iand, 1) := by decide +kernel
theorem dX0_draw_93 : decode cX0_draw 93 = .ok (.invokevirtual 56, 3) := by decide +kernel
theorem dX0_draw_96 : decode cX0_draw 96 = .ok (.aload_n 0, 1) := by decide +kernel
theorem dX0_draw_97 : decode cX0_draw 97 = .ok (.dup, 1) := by decide +kernel
theorem dX0_draw_98 : decode cX0_draw 98 = .ok (.getfield 34, 3) := by decide +kernel
theorem dX0_draw_101 : decode cX0_draw 101 = .ok (.iconst 1, 1) := by decide +kernel
theorem dX0_draw_102 : decode cX0_draw 102 = .ok (.iadd, 1) := by decide +kernel
theorem dX0_draw_103 : decode cX0_draw 103 = .ok (.putfield 34, 3) := by decide +kernel
theorem dX0_draw_106 : decode cX0_draw 106 = .ok (.return_, 1) := by decide +kernel
theorem dX0_lead_0 : decode cX0_lead 0 = .ok (.iload_n 1, 1) := by decide +kernel
theorem dX0_lead_1 : decode cX0_lead 1 = .ok (.bipush 8, 2) := by decide +kernel
theorem dX0_lead_3 : decode cX0_lead 3 = .ok (.imul, 1) := by decide +kernel
theorem dX0_lead_4 : decode cX0_lead 4 = .ok (.iload_n 2, 1) := by decide +kernel
theorem dX0_lead_5 : decode cX0_lead 5 = .ok (.iadd, 1) := by decide +kernel
theorem dX0_lead_6 : decode cX0_lead 6 = .ok (.istore_n 3, 1) := by decide +kernel
theorem dX0_lead_7 : decode cX0_lead 7 = .ok (.iload_n 1, 1) := by decide +kernel
theorem dX0_lead_8 : decode cX0_lead 8 = .ok (.ifCond .lt 52, 3) := by decide +kernel
theorem dX0_lead_11 : decode cX0_lead 11 = .ok (.iload_n 1, 1) := by decide +kernel
theorem dX0_lead_12 : decode cX0_lead 12 = .ok (.aload_n 0, 1) := by decide +kernel
theorem dX0_lead_13 : decode cX0_lead 13 = .ok (.getfield 24, 3) := by decide +kernel
theorem dX0_lead_16 : decode cX0_lead 16 = .ok (.arraylength, 1) := by decide +kernel
theorem dX0_lead_17 : decode cX0_lead 17 = .ok (.if_icmp .ge 43, 3) := by decide +kernel
theorem dX0_lead_20 : decode cX0_lead 20 = .ok (.iload_n 3, 1) := by decide +kernel
theorem dX0_lead_21 : decode cX0_lead 21 = .ok (.ifCond .lt 39, 3) := by decide +kernel
theorem dX0_lead_24 : decode cX0_lead 24 = .ok (.iload_n 3, 1) := by decide +kernel
theorem dX0_lead_25 : decode cX0_lead 25 = .ok (.aload_n 0, 1) := by decide +kernel
theorem dX0_lead_26 : decode cX0_lead 26 = .ok (.getfield 21, 3) := by decide +kernel
theorem dX0_lead_29 : decode cX0_lead 29 = .ok (.arraylength, 1) := by decide +kernel
theorem dX0_lead_30 : decode cX0_lead 30 = .ok (.if_icmp .ge 30, 3) := by decide +kernel
theorem dX0_lead_33 : decode cX0_lead 33 = .ok (.aload_n 0, 1) := by decide +kernel
theorem dX0_lead_34 : decode cX0_lead 34 = .ok (.getfield 21, 3) := by decide +kernel
theorem dX0_lead_37 : decode cX0_lead 37 = .ok (.iload_n 3, 1) := by decide +kernel
theorem dX0_lead_38 : decode cX0_lead 38 = .ok (.aload_n 0, 1) := by decide +kernel
theorem dX0_lead_39 : decode cX0_lead 39 = .ok (.getfield 34, 3) := by decide +kernel
theorem dX0_lead_42 : decode cX0_lead 42 = .ok (.iconst 1, 1) := by decide +kernel
theorem dX0_lead_43 : decode cX0_lead 43 = .ok (.iadd, 1) := by decide +kernel
theorem dX0_lead_44 : decode cX0_lead 44 = .ok (.iastore, 1) := by decide +kernel
theorem dX0_lead_45 : decode cX0_lead 45 = .ok (.aload_n 0, 1) := by decide +kernel
theorem dX0_lead_46 : decode cX0_lead 46 = .ok (.getfield 24, 3) := by decide +kernel
theorem dX0_lead_49 : decode cX0_lead 49 = .ok (.iload_n 1, 1) := by decide +kernel
theorem dX0_lead_50 : decode cX0_lead 50 = .ok (.dup2, 1) := by decide +kernel
theorem dX0_lead_51 : decode cX0_lead 51 = .ok (.laload, 1) := by decide +kernel
theorem dX0_lead_52 : decode cX0_lead 52 = .ok (.lconst 1, 1) := by decide +kernel
theorem dX0_lead_53 : decode cX0_lead 53 = .ok (.aload_n 0, 1) := by decide +kernel
theorem dX0_lead_54 : decode cX0_lead 54 = .ok (.getfield 34, 3) := by decide +kernel
theorem dX0_lead_57 : decode cX0_lead 57 = .ok (.lshl, 1) := by decide +kernel
theorem dX0_lead_58 : decode cX0_lead 58 = .ok (.lor, 1) := by decide +kernel
theorem dX0_lead_59 : decode cX0_lead 59 = .ok (.lastore, 1) := by decide +kernel
theorem dX0_lead_60 : decode cX0_lead 60 = .ok (.return_, 1) := by decide +kernel
theorem dX0_tie_0 : decode cX0_tie 0 = .ok (.iload_n 1, 1) := by decide +kernel
theorem dX0_tie_1 : decode cX0_tie 1 = .ok (.ifCond .lt 38, 3) := by decide +kernel
theorem dX0_tie_4 : decode cX0_tie 4 = .ok (.iload_n 1, 1) := by decide +kernel
theorem dX0_tie_5 : decode cX0_tie 5 = .ok (.aload_n 0, 1) := by decide +kernel
theorem dX0_tie_6 : decode cX0_tie 6 = .ok (.getfield 31, 3) := by decide +kernel
theorem dX0_tie_9 : decode cX0_tie 9 = .ok (.arraylength, 1) := by decide +kernel
theorem dX0_tie_10 : decode cX0_tie 10 = .ok (.if_icmp .ge 29, 3) := by decide +kernel
theorem dX0_tie_13 : decode cX0_tie 13 = .ok (.aload_n 0, 1) := by decide +kernel
theorem dX0_tie_14 : decode cX0_tie 14 = .ok (.getfield 31, 3) := by decide +kernel
theorem dX0_tie_17 : decode cX0_tie 17 = .ok (.iload_n 1, 1) := by decide +kernel
theorem dX0_tie_18 : decode cX0_tie 18 = .ok (.iaload, 1) := by decide +kernel
theorem dX0_tie_19 : decode cX0_tie 19 = .ok (.ifCond .ne 20, 3) := by decide +kernel
theorem dX0_tie_22 : decode cX0_tie 22 = .ok (.aload_n 0, 1) := by decide +kernel
theorem dX0_tie_23 : decode cX0_tie 23 = .ok (.getfield 31, 3) := by decide +kernel
theorem dX0_tie_26 : decode cX0_tie 26 = .ok (.iload_n 1, 1) := by decide +kernel
theorem dX0_tie_27 : decode cX0_tie 27 = .ok (.iconst 1, 1) := by decide +kernel
theorem dX0_tie_28 : decode cX0_tie 28 = .ok (.iastore, 1) := by decide +kernel
theorem dX0_tie_29 : decode cX0_tie 29 = .ok (.aload_n 0, 1) := by decide +kernel
theorem dX0_tie_30 : decode cX0_tie 30 = .ok (.dup, 1) := by decide +kernel
theorem dX0_tie_31 : decode cX0_tie 31 = .ok (.getfield 38, 3) := by decide +kernel
theorem dX0_tie_34 : decode cX0_tie 34 = .ok (.iconst 1, 1) := by decide +kernel
theorem dX0_tie_35 : decode cX0_tie 35 = .ok (.iadd, 1) := by decide +kernel
theorem dX0_tie_36 : decode cX0_tie 36 = .ok (.putfield 38, 3) := by decide +kernel
theorem dX0_tie_39 : decode cX0_tie 39 = .ok (.return_, 1) := by decide +kernel
theorem dX0_fromOf_0 : decode cX0_fromOf 0 = .ok (.iload_n 1, 1) := by decide +kernel
theorem dX0_fromOf_1 : decode cX0_fromOf 1 = .ok (.ifCond .lt 21, 3) := by decide +kernel
theorem dX0_fromOf_4 : decode cX0_fromOf 4 = .ok (.iload_n 1, 1) := by decide +kernel
theorem dX0_fromOf_5 : decode cX0_fromOf 5 = .ok (.aload_n 0, 1) := by decide +kernel
theorem dX0_fromOf_6 : decode cX0_fromOf 6 = .ok (.getfield 9, 3) := by decide +kernel
theorem dX0_fromOf_9 : decode cX0_fromOf 9 = .ok (.arraylength, 1) := by decide +kernel
theorem dX0_fromOf_10 : decode cX0_fromOf 10 = .ok (.if_icmp .ge 12, 3) := by decide +kernel
theorem dX0_fromOf_13 : decode cX0_fromOf 13 = .ok (.aload_n 0, 1) := by decide +kernel
theorem dX0_fromOf_14 : decode cX0_fromOf 14 = .ok (.getfield 9, 3) := by decide +kernel
theorem dX0_fromOf_17 : decode cX0_fromOf 17 = .ok (.iload_n 1, 1) := by decide +kernel
theorem dX0_fromOf_18 : decode cX0_fromOf 18 = .ok (.iaload, 1) := by decide +kernel
theorem dX0_fromOf_19 : decode cX0_fromOf 19 = .ok (.goto 4, 3) := by decide +kernel
theorem dX0_fromOf_22 : decode cX0_fromOf 22 = .ok (.iconst 0, 1) := by decide +kernel
theorem dX0_fromOf_23 : decode cX0_fromOf 23 = .ok (.ireturn, 1) := by decide +kernel
theorem dX0_toOf_0 : decode cX0_toOf 0 = .ok (.iload_n 1, 1) := by decide +kernel
theorem dX0_toOf_1 : decode cX0_toOf 1 = .ok (.ifCond .lt 21, 3) := by decide +kernel
theorem dX0_toOf_4 : decode cX0_toOf 4 = .ok (.iload_n 1, 1) := by decide +kernel
theorem dX0_toOf_5 : decode cX0_toOf 5 = .ok (.aload_n 0, 1) := by decide +kernel
theorem dX0_toOf_6 : decode cX0_toOf 6 = .ok (.getfield 15, 3) := by decide +kernel
theorem dX0_toOf_9 : decode cX0_toOf 9 = .ok (.arraylength, 1) := by decide +kernel
theorem dX0_toOf_10 : decode cX0_toOf 10 = .ok (.if_icmp .ge 12, 3) := by decide +kernel
theorem dX0_toOf_13 : decode cX0_toOf 13 = .ok (.aload_n 0, 1) := by decide +kernel
theorem dX0_toOf_14 : decode cX0_toOf 14 = .ok (.getfield 15, 3) := by decide +kernel
theorem dX0_toOf_17 : decode cX0_toOf 17 = .ok (.iload_n 1, 1) := by decide +kernel
theorem dX0_toOf_18 : decode cX0_toOf 18 = .ok (.iaload, 1) := by decide +kernel
theorem dX0_toOf_19 : decode cX0_toOf 19 = .ok (.goto 4, 3) := by decide +kernel
theorem dX0_toOf_22 : decode cX0_toOf 22 = .ok (.iconst 0, 1) := by decide +kernel
theorem dX0_toOf_23 : decode cX0_toOf 23 = .ok (.ireturn, 1) := by decide +kernel
theorem dX0_inkOf_0 : decode cX0_inkOf 0 = .ok (.iload_n 1, 1) := by decide +kernel
theorem dX0_inkOf_1 : decode cX0_inkOf 1 = .ok (.ifCond .lt 21, 3) := by decide +kernel
theorem dX0_inkOf_4 : decode cX0_inkOf 4 = .ok (.iload_n 1, 1) := by decide +kernel
theorem dX0_inkOf_5 : decode cX0_inkOf 5 = .ok (.aload_n 0, 1) := by decide +kernel
theorem dX0_inkOf_6 : decode cX0_inkOf 6 = .ok (.getfield 18, 3) := by decide +kernel
theorem dX0_inkOf_9 : decode cX0_inkOf 9 = .ok (.arraylength, 1) := by decide +kernel
theorem dX0_inkOf_10 : decode cX0_inkOf 10 = .ok (.if_icmp .ge 12, 3) := by decide +kernel
theorem dX0_inkOf_13 : decode cX0_inkOf 13 = .ok (.aload_n 0, 1) := by decide +kernel
theorem dX0_inkOf_14 : decode cX0_inkOf 14 = .ok (.getfield 18, 3) := by decide +kernel
theorem dX0_inkOf_17 : decode cX0_inkOf 17 = .ok (.iload_n 1, 1) := by decide +kernel
theorem dX0_inkOf_18 : decode cX0_inkOf 18 = .ok (.iaload, 1) := by decide +kernel
theorem dX0_inkOf_19 : decode cX0_inkOf 19 = .ok (.goto 4, 3) := by decide +kernel
theorem dX0_inkOf_22 : decode cX0_inkOf 22 = .ok (.iconst 0, 1) := by decide +kernel
theorem dX0_inkOf_23 : decode cX0_inkOf 23 = .ok (.ireturn, 1) := by decide +kernel
theorem dX0_otherEnd_0 : decode cX0_otherEnd 0 = .ok (.aload_n 0, 1) := by decide +kernel
theorem dX0_otherEnd_1 : decode cX0_otherEnd 1 = .ok (.iload_n 1, 1) := by decide +kernel
theorem dX0_otherEnd_2 : decode cX0_otherEnd 2 = .ok (.invokevirtual 60, 3) := by decide +kernel
theorem dX0_otherEnd_5 : decode cX0_otherEnd 5 = .ok (.iload_n 2, 1) := by decide +kernel
theorem dX0_otherEnd_6 : decode cX0_otherEnd 6 = .ok (.if_icmp .ne 11, 3) := by decide +kernel
theorem dX0_otherEnd_9 : decode cX0_otherEnd 9 = .ok (.aload_n 0, 1) := by decide +kernel
theorem dX0_otherEnd_10 : decode cX0_otherEnd 10 = .ok (.iload_n 1, 1) := by decide +kernel
theorem dX0_otherEnd_11 : decode cX0_otherEnd 11 = .ok (.invokevirtual 64, 3) := by decide +kernel
theorem dX0_otherEnd_14 : decode cX0_otherEnd 14 = .ok (.goto 8, 3) := by decide +kernel
theorem dX0_otherEnd_17 : decode cX0_otherEnd 17 = .ok (.aload_n 0, 1) := by decide +kernel
theorem dX0_otherEnd_18 : decode cX0_otherEnd 18 = .ok (.iload_n 1, 1) := by decide +kernel
theorem dX0_otherEnd_19 : decode cX0_otherEnd 19 = .ok (.invokevirtual 60, 3) := by decide +kernel
theorem dX0_otherEnd_22 : decode cX0_otherEnd 22 = .ok (.ireturn, 1) := by decide +kernel
theorem dX0_lineBy_0 : decode cX0_lineBy 0 = .ok (.iload_n 1, 1) := by decide +kernel
theorem dX0_lineBy_1 : decode cX0_lineBy 1 = .ok (.ifCond .lt 20, 3) := by decide +kernel
theorem dX0_lineBy_4 : decode cX0_lineBy 4 = .ok (.iload_n 1, 1) := by decide +kernel
theorem dX0_lineBy_5 : decode cX0_lineBy 5 = .ok (.sipush 144, 3) := by decide +kernel
theorem dX0_lineBy_8 : decode cX0_lineBy 8 = .ok (.if_icmp .ge 13, 3) := by decide +kernel
theorem dX0_lineBy_11 : decode cX0_lineBy 11 = .ok (.iload_n 2, 1) := by decide +kernel
theorem dX0_lineBy_12 : decode cX0_lineBy 12 = .ok (.ifCond .lt 9, 3) := by decide +kernel
theorem dX0_lineBy_15 : decode cX0_lineBy 15 = .ok (.iload_n 2, 1) := by decide +kernel
theorem dX0_lineBy_16 : decode cX0_lineBy 16 = .ok (.bipush 8, 2) := by decide +kernel
theorem dX0_lineBy_18 : decode cX0_lineBy 18 = .ok (.if_icmp .lt 5, 3) := by decide +kernel
theorem dX0_lineBy_21 : decode cX0_lineBy 21 = .ok (.iconst (-1), 1) := by decide +kernel
theorem dX0_lineBy_22 : decode cX0_lineBy 22 = .ok (.ireturn, 1) := by decide +kernel
theorem dX0_lineBy_23 : decode cX0_lineBy 23 = .ok (.aload_n 0, 1) := by decide +kernel
theorem dX0_lineBy_24 : decode cX0_lineBy 24 = .ok (.getfield 21, 3) := by decide +kernel
theorem dX0_lineBy_27 : decode cX0_lineBy 27 = .ok (.iload_n 1, 1) := by decide +kernel
theorem dX0_lineBy_28 : decode cX0_lineBy 28 = .ok (.bipush 8, 2) := by decide +kernel
theorem dX0_lineBy_30 : decode cX0_lineBy 30 = .ok (.imul, 1) := by decide +kernel
theorem dX0_lineBy_31 : decode cX0_lineBy 31 = .ok (.iload_n 2, 1) := by decide +kernel
theorem dX0_lineBy_32 : decode cX0_lineBy 32 = .ok (.iadd, 1) := by decide +kernel
theorem dX0_lineBy_33 : decode cX0_lineBy 33 = .ok (.iaload, 1) := by decide +kernel
theorem dX0_lineBy_34 : decode cX0_lineBy 34 = .ok (.iconst 1, 1) := by decide +kernel
theorem dX0_lineBy_35 : decode cX0_lineBy 35 = .ok (.isub, 1) := by decide +kernel
theorem dX0_lineBy_36 : decode cX0_lineBy 36 = .ok (.ireturn, 1) := by decide +kernel
theorem dX0_linesAt_0 : decode cX0_linesAt 0 = .ok (.iload_n 1, 1) := by decide +kernel
theorem dX0_linesAt_1 : decode cX0_linesAt 1 = .ok (.ifCond .lt 21, 3) := by decide +kernel
theorem dX0_linesAt_4 : decode cX0_linesAt 4 = .ok (.iload_n 1, 1) := by decide +kernel
theorem dX0_linesAt_5 : decode cX0_linesAt 5 = .ok (.aload_n 0, 1) := by decide +kernel
theorem dX0_linesAt_6 : decode cX0_linesAt 6 = .ok (.getfield 24, 3) := by decide +kernel
theorem dX0_linesAt_9 : decode cX0_linesAt 9 = .ok (.arraylength, 1) := by decide +kernel
theorem dX0_linesAt_10 : decode cX0_linesAt 10 = .ok (.if_icmp .ge 12, 3) := by decide +kernel
theorem dX0_linesAt_13 : decode cX0_linesAt 13 = .ok (.aload_n 0, 1) := by decide +kernel
theorem dX0_linesAt_14 : decode cX0_linesAt 14 = .ok (.getfield 24, 3) := by decide +kernel
theorem dX0_linesAt_17 : decode cX0_linesAt 17 = .ok (.iload_n 1, 1) := by decide +kernel
theorem dX0_linesAt_18 : decode cX0_linesAt 18 = .ok (.laload, 1) := by decide +kernel
theorem dX0_linesAt_19 : decode cX0_linesAt 19 = .ok (.goto 4, 3) := by decide +kernel
theorem dX0_linesAt_22 : decode cX0_linesAt 22 = .ok (.lconst 0, 1) := by decide +kernel
theorem dX0_linesAt_23 : decode cX0_linesAt 23 = .ok (.lreturn, 1) := by decide +kernel
theorem dX0_linesOf_0 : decode cX0_linesOf 0 = .ok (.iload_n 1, 1) := by decide +kernel
theorem dX0_linesOf_1 : decode cX0_linesOf 1 = .ok (.iconst (-1), 1) := by decide +kernel
theorem dX0_linesOf_2 : decode cX0_linesOf 2 = .ok (.if_icmp .ne 12, 3) := by decide +kernel
theorem dX0_linesOf_5 : decode cX0_linesOf 5 = .ok (.lconst 1, 1) := by decide +kernel
theorem dX0_linesOf_6 : decode cX0_linesOf 6 = .ok (.aload_n 0, 1) := by decide +kernel
theorem dX0_linesOf_7 : decode cX0_linesOf 7 = .ok (.getfield 34, 3) := by decide +kernel
theorem dX0_linesOf_10 : decode cX0_linesOf 10 = .ok (.lshl, 1) := by decide +kernel
theorem dX0_linesOf_11 : decode cX0_linesOf 11 = .ok (.lconst 1, 1) := by decide +kernel
theorem dX0_linesOf_12 : decode cX0_linesOf 12 = .ok (.lsub, 1) := by decide +kernel
theorem dX0_linesOf_13 : decode cX0_linesOf 13 = .ok (.lreturn, 1) := by decide +kernel
theorem dX0_linesOf_14 : decode cX0_linesOf 14 = .ok (.iload_n 1, 1) := by decide +kernel
theorem dX0_linesOf_15 : decode cX0_linesOf 15 = .ok (.ifCond .lt 21, 3) := by decide +kernel
theorem dX0_linesOf_18 : decode cX0_linesOf 18 = .ok (.iload_n 1, 1) := by decide +kernel
theorem dX0_linesOf_19 : decode cX0_linesOf 19 = .ok (.aload_n 0, 1) := by decide +kernel
theorem dX0_linesOf_20 : decode cX0_linesOf 20 = .ok (.getfield 28, 3) := by decide +kernel
theorem dX0_linesOf_23 : decode cX0_linesOf 23 = .ok (.arraylength, 1) := by decide +kernel
theorem dX0_linesOf_24 : decode cX0_linesOf 24 = .ok (.if_icmp .ge 12, 3) := by decide +kernel
theorem dX0_linesOf_27 : decode cX0_linesOf 27 = .ok (.aload_n 0, 1) := by decide +kernel
theorem dX0_linesOf_28 : decode cX0_linesOf 28 = .ok (.getfield 28, 3) := by decide +kernel
theorem dX0_linesOf_31 : decode cX0_linesOf 31 = .ok (.iload_n 1, 1) := by decide +kernel
theorem dX0_linesOf_32 : decode cX0_linesOf 32 = .ok (.laload, 1) := by decide +kernel
theorem dX0_linesOf_33 : decode cX0_linesOf 33 = .ok (.goto 4, 3) := by decide +kernel
theorem dX0_linesOf_36 : decode cX0_linesOf 36 = .ok (.lconst 0, 1) := by decide +kernel
theorem dX0_linesOf_37 : decode cX0_linesOf 37 = .ok (.lreturn, 1) := by decide +kernel
theorem dX0_isKnot_0 : decode cX0_isKnot 0 = .ok (.iload_n 1, 1) := by decide +kernel
theorem dX0_isKnot_1 : decode cX0_isKnot 1 = .ok (.ifCond .lt 25, 3) := by decide +kernel
theorem dX0_isKnot_4 : decode cX0_isKnot 4 = .ok (.iload_n 1, 1) := by decide +kernel
theorem dX0_isKnot_5 : decode cX0_isKnot 5 = .ok (.aload_n 0, 1) := by decide +kernel
theorem dX0_isKnot_6 : decode cX0_isKnot 6 = .ok (.getfield 31, 3) := by decide +kernel
theorem dX0_isKnot_9 : decode cX0_isKnot 9 = .ok (.arraylength, 1) := by decide +kernel
theorem dX0_isKnot_10 : decode cX0_isKnot 10 = .ok (.if_icmp .ge 16, 3) := by decide +kernel
theorem dX0_isKnot_13 : decode cX0_isKnot 13 = .ok (.aload_n 0, 1) := by decide +kernel
theorem dX0_isKnot_14 : decode cX0_isKnot 14 = .ok (.getfield 31, 3) := by decide +kernel
theorem dX0_isKnot_17 : decode cX0_isKnot 17 = .ok (.iload_n 1, 1) := by decide +kernel
theorem dX0_isKnot_18 : decode cX0_isKnot 18 = .ok (.iaload, 1) := by decide +kernel
theorem dX0_isKnot_19 : decode cX0_isKnot 19 = .ok (.ifCond .eq 7, 3) := by decide +kernel
theorem dX0_isKnot_22 : decode cX0_isKnot 22 = .ok (.iconst 1, 1) := by decide +kernel
theorem dX0_isKnot_23 : decode cX0_isKnot 23 = .ok (.goto 4, 3) := by decide +kernel
theorem dX0_isKnot_26 : decode cX0_isKnot 26 = .ok (.iconst 0, 1) := by decide +kernel
theorem dX0_isKnot_27 : decode cX0_isKnot 27 = .ok (.ireturn, 1) := by decide +kernel
theorem dX0_knotAt_0 : decode cX0_knotAt 0 = .ok (.iconst 0, 1) := by decide +kernel
theorem dX0_knotAt_1 : decode cX0_knotAt 1 = .ok (.istore_n 2, 1) := by decide +kernel
theorem dX0_knotAt_2 : decode cX0_knotAt 2 = .ok (.iconst 0, 1) := by decide +kernel
theorem dX0_knotAt_3 : decode cX0_knotAt 3 = .ok (.istore_n 3, 1) := by decide +kernel
theorem dX0_knotAt_4 : decode cX0_knotAt 4 = .ok (.iload_n 3, 1) := by decide +kernel
theorem dX0_knotAt_5 : decode cX0_knotAt 5 = .ok (.aload_n 0, 1) := by decide +kernel
theorem dX0_knotAt_6 : decode cX0_knotAt 6 = .ok (.getfield 31, 3) := by decide +kernel
theorem dX0_knotAt_9 : decode cX0_knotAt 9 = .ok (.arraylength, 1) := by decide +kernel
theorem dX0_knotAt_10 : decode cX0_knotAt 10 = .ok (.if_icmp .ge 28, 3) := by decide +kernel
theorem dX0_knotAt_13 : decode cX0_knotAt 13 = .ok (.aload_n 0, 1) := by decide +kernel
theorem dX0_knotAt_14 : decode cX0_knotAt 14 = .ok (.getfield 31, 3) := by decide +kernel
theorem dX0_knotAt_17 : decode cX0_knotAt 17 = .ok (.iload_n 3, 1) := by decide +kernel
theorem dX0_knotAt_18 : decode cX0_knotAt 18 = .ok (.iaload, 1) := by decide +kernel
theorem dX0_knotAt_19 : decode cX0_knotAt 19 = .ok (.ifCond .eq 13, 3) := by decide +kernel
theorem dX0_knotAt_22 : decode cX0_knotAt 22 = .ok (.iload_n 2, 1) := by decide +kernel
theorem dX0_knotAt_23 : decode cX0_knotAt 23 = .ok (.iload_n 1, 1) := by decide +kernel
theorem dX0_knotAt_24 : decode cX0_knotAt 24 = .ok (.if_icmp .ne 5, 3) := by decide +kernel
theorem dX0_knotAt_27 : decode cX0_knotAt 27 = .ok (.iload_n 3, 1) := by decide +kernel
theorem dX0_knotAt_28 : decode cX0_knotAt 28 = .ok (.ireturn, 1) := by decide +kernel
theorem dX0_knotAt_29 : decode cX0_knotAt 29 = .ok (.iinc 2 1, 3) := by decide +kernel
theorem dX0_knotAt_32 : decode cX0_knotAt 32 = .ok (.iinc 3 1, 3) := by decide +kernel
theorem dX0_knotAt_35 : decode cX0_knotAt 35 = .ok (.goto (-31), 3) := by decide +kernel
theorem dX0_knotAt_38 : decode cX0_knotAt 38 = .ok (.iconst (-1), 1) := by decide +kernel
theorem dX0_knotAt_39 : decode cX0_knotAt 39 = .ok (.ireturn, 1) := by decide +kernel
theorem dX0_together_0 : decode cX0_together 0 = .ok (.aload_n 0, 1) := by decide +kernel
theorem dX0_together_1 : decode cX0_together 1 = .ok (.iload_n 3, 1) := by decide +kernel
theorem dX0_together_2 : decode cX0_together 2 = .ok (.invokevirtual 67, 3) := by decide +kernel
theorem dX0_together_5 : decode cX0_together 5 = .ok (.lload_n 1, 1) := by decide +kernel
theorem dX0_together_6 : decode cX0_together 6 = .ok (.land, 1) := by decide +kernel
theorem dX0_together_7 : decode cX0_together 7 = .ok (.lstore 4, 2) := by decide +kernel
theorem dX0_together_9 : decode cX0_together 9 = .ok (.lload 4, 2) := by decide +kernel
theorem dX0_together_11 : decode cX0_together 11 = .ok (.lstore 6, 2) := by decide +kernel
theorem dX0_together_13 : decode cX0_together 13 = .ok (.iconst 0, 1) := by decide +kernel
theorem dX0_together_14 : decode cX0_together 14 = .ok (.istore 8, 2) := by decide +kernel
theorem dX0_together_16 : decode cX0_together 16 = .ok (.iload 8, 2) := by decide +kernel
theorem dX0_together_18 : decode cX0_together 18 = .ok (.bipush 60, 2) := by decide +kernel
theorem dX0_together_20 : decode cX0_together 20 = .ok (.if_icmp .ge 74, 3) := by decide +kernel
theorem dX0_together_23 : decode cX0_together 23 = .ok (.lload 6, 2) := by decide +kernel
theorem dX0_together_25 : decode cX0_together 25 = .ok (.lconst 0, 1) := by decide +kernel
theorem dX0_together_26 : decode cX0_together 26 = .ok (.lcmp, 1) := by decide +kernel
theorem dX0_together_27 : decode cX0_together 27 = .ok (.ifCond .eq 67, 3) := by decide +kernel
theorem dX0_together_30 : decode cX0_together 30 = .ok (.lload 6, 2) := by decide +kernel
theorem dX0_together_32 : decode cX0_together 32 = .ok (.invokestatic 71, 3) := by decide +kernel
theorem dX0_together_35 : decode cX0_together 35 = .ok (.istore 9, 2) := by decide +kernel
theorem dX0_together_37 : decode cX0_together 37 = .ok (.aload_n 0, 1) := by decide +kernel
theorem dX0_together_38 : decode cX0_together 38 = .ok (.aload_n 0, 1) := by decide +kernel
theorem dX0_together_39 : decode cX0_together 39 = .ok (.iload 9, 2) := by decide +kernel
theorem dX0_together_41 : decode cX0_together 41 = .ok (.invokevirtual 60, 3) := by decide +kernel
theorem dX0_together_44 : decode cX0_together 44 = .ok (.invokevirtual 67, 3) := by decide +kernel
theorem dX0_together_47 : decode cX0_together 47 = .ok (.aload_n 0, 1) := by decide +kernel
theorem dX0_together_48 : decode cX0_together 48 = .ok (.aload_n 0, 1) := by decide +kernel
theorem dX0_together_49 : decode cX0_together 49 = .ok (.iload 9, 2) := by decide +kernel
theorem dX0_together_51 : decode cX0_together 51 = .ok (.invokevirtual 64, 3) := by decide +kernel
theorem dX0_together_54 : decode cX0_together 54 = .ok (.invokevirtual 67, 3) := by decide +kernel
theorem dX0_together_57 : decode cX0_together 57 = .ok (.lor, 1) := by decide +kernel
theorem dX0_together_58 : decode cX0_together 58 = .ok (.lload_n 1, 1) := by decide +kernel
theorem dX0_together_59 : decode cX0_together 59 = .ok (.land, 1) := by decide +kernel
theorem dX0_together_60 : decode cX0_together 60 = .ok (.lload 4, 2) := by decide +kernel
theorem dX0_together_62 : decode cX0_together 62 = .ok (.ldc2_w 75, 3) := by decide +kernel
theorem dX0_together_65 : decode cX0_together 65 = .ok (.lxor, 1) := by decide +kernel
theorem dX0_together_66 : decode cX0_together 66 = .ok (.land, 1) := by decide +kernel
theorem dX0_together_67 : decode cX0_together 67 = .ok (.lstore 10, 2) := by decide +kernel
theorem dX0_together_69 : decode cX0_together 69 = .ok (.lload 4, 2) := by decide +kernel
theorem dX0_together_71 : decode cX0_together 71 = .ok (.lload 10, 2) := by decide +kernel
theorem dX0_together_73 : decode cX0_together 73 = .ok (.lor, 1) := by decide +kernel
theorem dX0_together_74 : decode cX0_together 74 = .ok (.lstore 4, 2) := by decide +kernel
theorem dX0_together_76 : decode cX0_together 76 = .ok (.lload 6, 2) := by decide +kernel
theorem dX0_together_78 : decode cX0_together 78 = .ok (.lload 6, 2) := by decide +kernel
theorem dX0_together_80 : decode cX0_together 80 = .ok (.lconst 1, 1) := by decide +kernel
theorem dX0_together_81 : decode cX0_together 81 = .ok (.lsub, 1) := by decide +kernel
theorem dX0_together_82 : decode cX0_together 82 = .ok (.land, 1) := by decide +kernel
theorem dX0_together_83 : decode cX0_together 83 = .ok (.lload 10, 2) := by decide +kernel
theorem dX0_together_85 : decode cX0_together 85 = .ok (.lor, 1) := by decide +kernel
theorem dX0_together_86 : decode cX0_together 86 = .ok (.lstore 6, 2) := by decide +kernel
theorem dX0_together_88 : decode cX0_together 88 = .ok (.iinc 8 1, 3) := by decide +kernel
theorem dX0_together_91 : decode cX0_together 91 = .ok (.goto (-75), 3) := by decide +kernel
theorem dX0_together_94 : decode cX0_together 94 = .ok (.lload 4, 2) := by decide +kernel
theorem dX0_together_96 : decode cX0_together 96 = .ok (.lreturn, 1) := by decide +kernel
theorem dX0_partsOf_0 : decode cX0_partsOf 0 = .ok (.aload_n 0, 1) := by decide +kernel
theorem dX0_partsOf_1 : decode cX0_partsOf 1 = .ok (.iload_n 1, 1) := by decide +kernel
theorem dX0_partsOf_2 : decode cX0_partsOf 2 = .ok (.invokevirtual 77, 3) := by decide +kernel
theorem dX0_partsOf_5 : decode cX0_partsOf 5 = .ok (.lstore_n 2, 1) := by decide +kernel
theorem dX0_partsOf_6 : decode cX0_partsOf 6 = .ok (.iconst 0, 1) := by decide +kernel
theorem dX0_partsOf_7 : decode cX0_partsOf 7 = .ok (.istore 4, 2) := by decide +kernel
theorem dX0_partsOf_9 : decode cX0_partsOf 9 = .ok (.iconst 0, 1) := by decide +kernel
theorem dX0_partsOf_10 : decode cX0_partsOf 10 = .ok (.istore 5, 2) := by decide +kernel
theorem dX0_partsOf_12 : decode cX0_partsOf 12 = .ok (.iload 5, 2) := by decide +kernel
theorem dX0_partsOf_14 : decode cX0_partsOf 14 = .ok (.bipush 60, 2) := by decide +kernel
theorem dX0_partsOf_16 : decode cX0_partsOf 16 = .ok (.if_icmp .ge 38, 3) := by decide +kernel
theorem dX0_partsOf_19 : decode cX0_partsOf 19 = .ok (.lload_n 2, 1) := by decide +kernel
theorem dX0_partsOf_20 : decode cX0_partsOf 20 = .ok (.lconst 0, 1) := by decide +kernel
theorem dX0_partsOf_21 : decode cX0_partsOf 21 = .ok (.lcmp, 1) := by decide +kernel
theorem dX0_partsOf_22 : decode cX0_partsOf 22 = .ok (.ifCond .eq 32, 3) := by decide +kernel
theorem dX0_partsOf_25 : decode cX0_partsOf 25 = .ok (.lload_n 2, 1) := by decide +kernel
theorem dX0_partsOf_26 : decode cX0_partsOf 26 = .ok (.aload_n 0, 1) := by decide +kernel
theorem dX0_partsOf_27 : decode cX0_partsOf 27 = .ok (.lload_n 2, 1) := by decide +kernel
theorem dX0_partsOf_28 : decode cX0_partsOf 28 = .ok (.aload_n 0, 1) := by decide +kernel
theorem dX0_partsOf_29 : decode cX0_partsOf 29 = .ok (.lload_n 2, 1) := by decide +kernel
theorem dX0_partsOf_30 : decode cX0_partsOf 30 = .ok (.invokestatic 71, 3) := by decide +kernel
theorem dX0_partsOf_33 : decode cX0_partsOf 33 = .ok (.invokevirtual 60, 3) := by decide +kernel
theorem dX0_partsOf_36 : decode cX0_partsOf 36 = .ok (.invokevirtual 80, 3) := by decide +kernel
theorem dX0_partsOf_39 : decode cX0_partsOf 39 = .ok (.ldc2_w 75, 3) := by decide +kernel
theorem dX0_partsOf_42 : decode cX0_partsOf 42 = .ok (.lxor, 1) := by decide +kernel
theorem dX0_partsOf_43 : decode cX0_partsOf 43 = .ok (.land, 1) := by decide +kernel
theorem dX0_partsOf_44 : decode cX0_partsOf 44 = .ok (.lstore_n 2, 1) := by decide +kernel
theorem dX0_partsOf_45 : decode cX0_partsOf 45 = .ok (.iinc 4 1, 3) := by decide +kernel
theorem dX0_partsOf_48 : decode cX0_partsOf 48 = .ok (.iinc 5 1, 3) := by decide +kernel
theorem dX0_partsOf_51 : decode cX0_partsOf 51 = .ok (.goto (-39), 3) := by decide +kernel
theorem dX0_partsOf_54 : decode cX0_partsOf 54 = .ok (.iload 4, 2) := by decide +kernel
theorem dX0_partsOf_56 : decode cX0_partsOf 56 = .ok (.ireturn, 1) := by decide +kernel
theorem dX0_threadFor_0 : decode cX0_threadFor 0 = .ok (.iconst 0, 1) := by decide +kernel
theorem dX0_threadFor_1 : decode cX0_threadFor 1 = .ok (.istore_n 2, 1) := by decide +kernel
theorem dX0_threadFor_2 : decode cX0_threadFor 2 = .ok (.iconst 0, 1) := by decide +kernel
theorem dX0_threadFor_3 : decode cX0_threadFor 3 = .ok (.istore_n 3, 1) := by decide +kernel
theorem dX0_threadFor_4 : decode cX0_threadFor 4 = .ok (.iload_n 3, 1) := by decide +kernel
theorem dX0_threadFor_5 : decode cX0_threadFor 5 = .ok (.aload_n 0, 1) := by decide +kernel
theorem dX0_threadFor_6 : decode cX0_threadFor 6 = .ok (.getfield 34, 3) := by decide +kernel
theorem dX0_threadFor_9 : decode cX0_threadFor 9 = .ok (.if_icmp .ge 62, 3) := by decide +kernel
theorem dX0_threadFor_12 : decode cX0_threadFor 12 = .ok (.iload_n 1, 1) := by decide +kernel
theorem dX0_threadFor_13 : decode cX0_threadFor 13 = .ok (.iconst (-1), 1) := by decide +kernel
theorem dX0_threadFor_14 : decode cX0_threadFor 14 = .ok (.if_icmp .eq 12, 3) := by decide +kernel
theorem dX0_threadFor_17 : decode cX0_threadFor 17 = .ok (.aload_n 0, 1) := by decide +kernel
theorem dX0_threadFor_18 : decode cX0_threadFor 18 = .ok (.iload_n 3, 1) := by decide +kernel
theorem dX0_threadFor_19 : decode cX0_threadFor 19 = .ok (.invokevirtual 84, 3) := by decide +kernel
theorem dX0_threadFor_22 : decode cX0_threadFor 22 = .ok (.iload_n 1, 1) := by decide +kernel
theorem dX0_threadFor_23 : decode cX0_threadFor 23 = .ok (.if_icmp .ne 42, 3) := by decide +kernel
theorem dX0_threadFor_26 : decode cX0_threadFor 26 = .ok (.aload_n 0, 1) := by decide +kernel
theorem dX0_threadFor_27 : decode cX0_threadFor 27 = .ok (.iload_n 3, 1) := by decide +kernel
theorem dX0_threadFor_28 : decode cX0_threadFor 28 = .ok (.invokevirtual 64, 3) := by decide +kernel
theorem dX0_threadFor_31 : decode cX0_threadFor 31 = .ok (.aload_n 0, 1) := by decide +kernel
theorem dX0_threadFor_32 : decode cX0_threadFor 32 = .ok (.iload_n 3, 1) := by decide +kernel
theorem dX0_threadFor_33 : decode cX0_threadFor 33 = .ok (.invokevirtual 60, 3) := by decide +kernel
theorem dX0_threadFor_36 : decode cX0_threadFor 36 = .ok (.isub, 1) := by decide +kernel
theorem dX0_threadFor_37 : decode cX0_threadFor 37 = .ok (.invokestatic 87, 3) := by decide +kernel
theorem dX0_threadFor_40 : decode cX0_threadFor 40 = .ok (.istore 4, 2) := by decide +kernel
theorem dX0_threadFor_42 : decode cX0_threadFor 42 = .ok (.iload_n 2, 1) := by decide +kernel
theorem dX0_threadFor_43 : decode cX0_threadFor 43 = .ok (.iload 4, 2) := by decide +kernel
theorem dX0_threadFor_45 : decode cX0_threadFor 45 = .ok (.iconst 1, 1) := by decide +kernel
theorem dX0_threadFor_46 : decode cX0_threadFor 46 = .ok (.if_icmp .eq 10, 3) := by decide +kernel
theorem dX0_threadFor_49 : decode cX0_threadFor 49 = .ok (.iload 4, 2) := by decide +kernel
theorem dX0_threadFor_51 : decode cX0_threadFor 51 = .ok (.bipush 12, 2) := by decide +kernel
theorem dX0_threadFor_53 : decode cX0_threadFor 53 = .ok (.if_icmp .ne 8, 3) := by decide +kernel
theorem dX0_threadFor_56 : decode cX0_threadFor 56 = .ok (.bipush 20, 2) := by decide +kernel
theorem dX0_threadFor_58 : decode cX0_threadFor 58 = .ok (.goto 5, 3) := by decide +kernel
theorem dX0_threadFor_61 : decode cX0_threadFor 61 = .ok (.bipush 28, 2) := by decide +kernel
theorem dX0_threadFor_63 : decode cX0_threadFor 63 = .ok (.iadd, 1) := by decide +kernel
theorem dX0_threadFor_64 : decode cX0_threadFor 64 = .ok (.istore_n 2, 1) := by decide +kernel
theorem dX0_threadFor_65 : decode cX0_threadFor 65 = .ok (.iinc 3 1, 3) := by decide +kernel
theorem dX0_threadFor_68 : decode cX0_threadFor 68 = .ok (.goto (-64), 3) := by decide +kernel
theorem dX0_threadFor_71 : decode cX0_threadFor 71 = .ok (.iload_n 2, 1) := by decide +kernel
theorem dX0_threadFor_72 : decode cX0_threadFor 72 = .ok (.ireturn, 1) := by decide +kernel
theorem dX0_crossed_0 : decode cX0_crossed 0 = .ok (.iconst 0, 1) := by decide +kernel
theorem dX0_crossed_1 : decode cX0_crossed 1 = .ok (.istore_n 2, 1) := by decide +kernel
theorem dX0_crossed_2 : decode cX0_crossed 2 = .ok (.iconst 0, 1) := by decide +kernel
theorem dX0_crossed_3 : decode cX0_crossed 3 = .ok (.istore_n 3, 1) := by decide +kernel
theorem dX0_crossed_4 : decode cX0_crossed 4 = .ok (.iload_n 3, 1) := by decide +kernel
theorem dX0_crossed_5 : decode cX0_crossed 5 = .ok (.sipush 144, 3) := by decide +kernel
theorem dX0_crossed_8 : decode cX0_crossed 8 = .ok (.if_icmp .ge 63, 3) := by decide +kernel
theorem dX0_crossed_11 : decode cX0_crossed 11 = .ok (.aload_n 0, 1) := by decide +kernel
theorem dX0_crossed_12 : decode cX0_crossed 12 = .ok (.iload_n 3, 1) := by decide +kernel
theorem dX0_crossed_13 : decode cX0_crossed 13 = .ok (.iconst 1, 1) := by decide +kernel
theorem dX0_crossed_14 : decode cX0_crossed 14 = .ok (.invokevirtual 92, 3) := by decide +kernel
theorem dX0_crossed_17 : decode cX0_crossed 17 = .ok (.istore 4, 2) := by decide +kernel
theorem dX0_crossed_19 : decode cX0_crossed 19 = .ok (.aload_n 0, 1) := by decide +kernel
theorem dX0_crossed_20 : decode cX0_crossed 20 = .ok (.iload_n 3, 1) := by decide +kernel
theorem dX0_crossed_21 : decode cX0_crossed 21 = .ok (.iconst 0, 1) := by decide +kernel
theorem dX0_crossed_22 : decode cX0_crossed 22 = .ok (.invokestatic 96, 3) := by decide +kernel
theorem dX0_crossed_25 : decode cX0_crossed 25 = .ok (.iconst 3, 1) := by decide +kernel
theorem dX0_crossed_26 : decode cX0_crossed 26 = .ok (.invokevirtual 92, 3) := by decide +kernel
theorem dX0_crossed_29 : decode cX0_crossed 29 = .ok (.istore 5, 2) := by decide +kernel
theorem dX0_crossed_31 : decode cX0_crossed 31 = .ok (.iload 4, 2) := by decide +kernel
theorem dX0_crossed_33 : decode cX0_crossed 33 = .ok (.iconst (-1), 1) := by decide +kernel
theorem dX0_crossed_34 : decode cX0_crossed 34 = .ok (.if_icmp .eq 31, 3) := by decide +kernel
theorem dX0_crossed_37 : decode cX0_crossed 37 = .ok (.iload 5, 2) := by decide +kernel
theorem dX0_crossed_39 : decode cX0_crossed 39 = .ok (.iconst (-1), 1) := by decide +kernel
theorem dX0_crossed_40 : decode cX0_crossed 40 = .ok (.if_icmp .eq 25, 3) := by decide +kernel
theorem dX0_crossed_43 : decode cX0_crossed 43 = .ok (.iload_n 1, 1) := by decide +kernel
theorem dX0_crossed_44 : decode cX0_crossed 44 = .ok (.ifCond .eq 18, 3) := by decide +kernel
theorem dX0_crossed_47 : decode cX0_crossed 47 = .ok (.aload_n 0, 1) := by decide +kernel
theorem dX0_crossed_48 : decode cX0_crossed 48 = .ok (.iload 4, 2) := by decide +kernel
theorem dX0_crossed_50 : decode cX0_crossed 50 = .ok (.invokevirtual 84, 3) := by decide +kernel
theorem dX0_crossed_53 : decode cX0_crossed 53 = .ok (.aload_n 0, 1) := by decide +kernel
theorem dX0_crossed_54 : decode cX0_crossed 54 = .ok (.iload 5, 2) := by decide +kernel
theorem dX0_crossed_56 : decode cX0_crossed 56 = .ok (.invokevirtual 84, 3) := by decide +kernel
theorem dX0_crossed_59 : decode cX0_crossed 59 = .ok (.if_icmp .eq 6, 3) := by decide +kernel
theorem dX0_crossed_62 : decode cX0_crossed 62 = .ok (.iinc 2 1, 3) := by decide +kernel
theorem dX0_crossed_65 : decode cX0_crossed 65 = .ok (.iinc 3 1, 3) := by decide +kernel
theorem dX0_crossed_68 : decode cX0_crossed 68 = .ok (.goto (-64), 3) := by decide +kernel
theorem dX0_crossed_71 : decode cX0_crossed 71 = .ok (.iload_n 2, 1) := by decide +kernel
theorem dX0_crossed_72 : decode cX0_crossed 72 = .ok (.ireturn, 1) := by decide +kernel
theorem dX0_likeItself_0 : decode cX0_likeItself 0 = .ok (.bipush 12, 2) := by decide +kernel
theorem dX0_likeItself_2 : decode cX0_likeItself 2 = .ok (.istore_n 2, 1) := by decide +kernel
theorem dX0_likeItself_3 : decode cX0_likeItself 3 = .ok (.iconst 0, 1) := by decide +kernel
theorem dX0_likeItself_4 : decode cX0_likeItself 4 = .ok (.istore_n 3, 1) := by decide +kernel
theorem dX0_likeItself_5 : decode cX0_likeItself 5 = .ok (.bipush 12, 2) := by decide +kernel
theorem dX0_likeItself_7 : decode cX0_likeItself 7 = .ok (.istore 4, 2) := by decide +kernel
theorem dX0_likeItself_9 : decode cX0_likeItself 9 = .ok (.iconst 0, 1) := by decide +kernel
theorem dX0_likeItself_10 : decode cX0_likeItself 10 = .ok (.istore 5, 2) := by decide +kernel
theorem dX0_likeItself_12 : decode cX0_likeItself 12 = .ok (.iconst 0, 1) := by decide +kernel
theorem dX0_likeItself_13 : decode cX0_likeItself 13 = .ok (.istore 6, 2) := by decide +kernel
theorem dX0_likeItself_15 : decode cX0_likeItself 15 = .ok (.iload 6, 2) := by decide +kernel
theorem dX0_likeItself_17 : decode cX0_likeItself 17 = .ok (.sipush 144, 3) := by decide +kernel
theorem dX0_likeItself_20 : decode cX0_likeItself 20 = .ok (.if_icmp .ge 64, 3) := by decide +kernel
theorem dX0_likeItself_23 : decode cX0_likeItself 23 = .ok (.aload_n 0, 1) := by decide +kernel
theorem dX0_likeItself_24 : decode cX0_likeItself 24 = .ok (.iload 6, 2) := by decide +kernel
theorem dX0_likeItself_26 : decode cX0_likeItself 26 = .ok (.invokevirtual 67, 3) := by decide +kernel
theorem dX0_likeItself_29 : decode cX0_likeItself 29 = .ok (.lconst 0, 1) := by decide +kernel
theorem dX0_likeItself_30 : decode cX0_likeItself 30 = .ok (.lcmp, 1) := by decide +kernel
theorem dX0_likeItself_31 : decode cX0_likeItself 31 = .ok (.ifCond .eq 47, 3) := by decide +kernel
theorem dX0_likeItself_34 : decode cX0_likeItself 34 = .ok (.iload_n 2, 1) := by decide +kernel
theorem dX0_likeItself_35 : decode cX0_likeItself 35 = .ok (.iload 6, 2) := by decide +kernel
theorem dX0_likeItself_37 : decode cX0_likeItself 37 = .ok (.bipush 12, 2) := by decide +kernel
theorem dX0_likeItself_39 : decode cX0_likeItself 39 = .ok (.irem, 1) := by decide +kernel
theorem dX0_likeItself_40 : decode cX0_likeItself 40 = .ok (.invokestatic 99, 3) := by decide +kernel
theorem dX0_likeItself_43 : decode cX0_likeItself 43 = .ok (.istore_n 2, 1) := by decide +kernel
theorem dX0_likeItself_44 : decode cX0_likeItself 44 = .ok (.iload_n 3, 1) := by decide +kernel
theorem dX0_likeItself_45 : decode cX0_likeItself 45 = .ok (.iload 6, 2) := by decide +kernel
theorem dX0_likeItself_47 : decode cX0_likeItself 47 = .ok (.bipush 12, 2) := by decide +kernel
theorem dX0_likeItself_49 : decode cX0_likeItself 49 = .ok (.irem, 1) := by decide +kernel
theorem dX0_likeItself_50 : decode cX0_likeItself 50 = .ok (.invokestatic 102, 3) := by decide +kernel
theorem dX0_likeItself_53 : decode cX0_likeItself 53 = .ok (.istore_n 3, 1) := by decide +kernel
theorem dX0_likeItself_54 : decode cX0_likeItself 54 = .ok (.iload 4, 2) := by decide +kernel
theorem dX0_likeItself_56 : decode cX0_likeItself 56 = .ok (.iload 6, 2) := by decide +kernel
theorem dX0_likeItself_58 : decode cX0_likeItself 58 = .ok (.bipush 12, 2) := by decide +kernel
theorem dX0_likeItself_60 : decode cX0_likeItself 60 = .ok (.idiv, 1) := by decide +kernel
theorem dX0_likeItself_61 : decode cX0_likeItself 61 = .ok (.invokestatic 99, 3) := by decide +kernel
theorem dX0_likeItself_64 : decode cX0_likeItself 64 = .ok (.istore 4, 2) := by decide +kernel
theorem dX0_likeItself_66 : decode cX0_likeItself 66 = .ok (.iload 5, 2) := by decide +kernel
theorem dX0_likeItself_68 : decode cX0_likeItself 68 = .ok (.iload 6, 2) := by decide +kernel
theorem dX0_likeItself_70 : decode cX0_likeItself 70 = .ok (.bipush 12, 2) := by decide +kernel
theorem dX0_likeItself_72 : decode cX0_likeItself 72 = .ok (.idiv, 1) := by decide +kernel
theorem dX0_likeItself_73 : decode cX0_likeItself 73 = .ok (.invokestatic 102, 3) := by decide +kernel
theorem dX0_likeItself_76 : decode cX0_likeItself 76 = .ok (.istore 5, 2) := by decide +kernel
theorem dX0_likeItself_78 : decode cX0_likeItself 78 = .ok (.iinc 6 1, 3) := by decide +kernel
theorem dX0_likeItself_81 : decode cX0_likeItself 81 = .ok (.goto (-66), 3) := by decide +kernel
theorem dX0_likeItself_84 : decode cX0_likeItself 84 = .ok (.iconst 0, 1) := by decide +kernel
theorem dX0_likeItself_85 : decode cX0_likeItself 85 = .ok (.istore 6, 2) := by decide +kernel
theorem dX0_likeItself_87 : decode cX0_likeItself 87 = .ok (.iload 6, 2) := by decide +kernel
theorem dX0_likeItself_89 : decode cX0_likeItself 89 = .ok (.aload_n 0, 1) := by decide +kernel
theorem dX0_likeItself_90 : decode cX0_likeItself 90 = .ok (.getfield 34, 3) := by decide +kernel
theorem dX0_likeItself_93 : decode cX0_likeItself 93 = .ok (.if_icmp .ge 78, 3) := by decide +kernel
theorem dX0_likeItself_96 : decode cX0_likeItself 96 = .ok (.aload_n 0, 1) := by decide +kernel
theorem dX0_likeItself_97 : decode cX0_likeItself 97 = .ok (.iload 6, 2) := by decide +kernel
theorem dX0_likeItself_99 : decode cX0_likeItself 99 = .ok (.invokevirtual 60, 3) := by decide +kernel
theorem dX0_likeItself_102 : decode cX0_likeItself 102 = .ok (.iload_n 1, 1) := by decide +kernel
theorem dX0_likeItself_103 : decode cX0_likeItself 103 = .ok (.iload_n 2, 1) := by decide +kernel
theorem dX0_likeItself_104 : decode cX0_likeItself 104 = .ok (.iload_n 3, 1) := by decide +kernel
theorem dX0_likeItself_105 : decode cX0_likeItself 105 = .ok (.iload 4, 2) := by decide +kernel
theorem dX0_likeItself_107 : decode cX0_likeItself 107 = .ok (.iload 5, 2) := by decide +kernel
theorem dX0_likeItself_109 : decode cX0_likeItself 109 = .ok (.invokestatic 105, 3) := by decide +kernel
theorem dX0_likeItself_112 : decode cX0_likeItself 112 = .ok (.istore 7, 2) := by decide +kernel
theorem dX0_likeItself_114 : decode cX0_likeItself 114 = .ok (.aload_n 0, 1) := by decide +kernel
theorem dX0_likeItself_115 : decode cX0_likeItself 115 = .ok (.iload 6, 2) := by decide +kernel
theorem dX0_likeItself_117 : decode cX0_likeItself 117 = .ok (.invokevirtual 64, 3) := by decide +kernel
theorem dX0_likeItself_120 : decode cX0_likeItself 120 = .ok (.iload_n 1, 1) := by decide +kernel
theorem dX0_likeItself_121 : decode cX0_likeItself 121 = .ok (.iload_n 2, 1) := by decide +kernel
theorem dX0_likeItself_122 : decode cX0_likeItself 122 = .ok (.iload_n 3, 1) := by decide +kernel
theorem dX0_likeItself_123 : decode cX0_likeItself 123 = .ok (.iload 4, 2) := by decide +kernel
theorem dX0_likeItself_125 : decode cX0_likeItself 125 = .ok (.iload 5, 2) := by decide +kernel
theorem dX0_likeItself_127 : decode cX0_likeItself 127 = .ok (.invokestatic 105, 3) := by decide +kernel
theorem dX0_likeItself_130 : decode cX0_likeItself 130 = .ok (.istore 8, 2) := by decide +kernel
theorem dX0_likeItself_132 : decode cX0_likeItself 132 = .ok (.aload_n 0, 1) := by decide +kernel
theorem dX0_likeItself_133 : decode cX0_likeItself 133 = .ok (.iload 7, 2) := by decide +kernel
theorem dX0_likeItself_135 : decode cX0_likeItself 135 = .ok (.iload 8, 2) := by decide +kernel
theorem dX0_likeItself_137 : decode cX0_likeItself 137 = .ok (.invokevirtual 109, 3) := by decide +kernel
theorem dX0_likeItself_140 : decode cX0_likeItself 140 = .ok (.istore 9, 2) := by decide +kernel
theorem dX0_likeItself_142 : decode cX0_likeItself 142 = .ok (.iload 9, 2) := by decide +kernel
theorem dX0_likeItself_144 : decode cX0_likeItself 144 = .ok (.iconst (-1), 1) := by decide +kernel
theorem dX0_likeItself_145 : decode cX0_likeItself 145 = .ok (.if_icmp .eq 18, 3) := by decide +kernel
theorem dX0_likeItself_148 : decode cX0_likeItself 148 = .ok (.aload_n 0, 1) := by decide +kernel
theorem dX0_likeItself_149 : decode cX0_likeItself 149 = .ok (.iload 9, 2) := by decide +kernel
theorem dX0_likeItself_151 : decode cX0_likeItself 151 = .ok (.invokevirtual 84, 3) := by decide +kernel
theorem dX0_likeItself_154 : decode cX0_likeItself 154 = .ok (.aload_n 0, 1) := by decide +kernel
theorem dX0_likeItself_155 : decode cX0_likeItself 155 = .ok (.iload 6, 2) := by decide +kernel
theorem dX0_likeItself_157 : decode cX0_likeItself 157 = .ok (.invokevirtual 84, 3) := by decide +kernel
theorem dX0_likeItself_160 : decode cX0_likeItself 160 = .ok (.if_icmp .eq 5, 3) := by decide +kernel
theorem dX0_likeItself_163 : decode cX0_likeItself 163 = .ok (.iconst 0, 1) := by decide +kernel
theorem dX0_likeItself_164 : decode cX0_likeItself 164 = .ok (.ireturn, 1) := by decide +kernel
theorem dX0_likeItself_165 : decode cX0_likeItself 165 = .ok (.iinc 6 1, 3) := by decide +kernel
theorem dX0_likeItself_168 : decode cX0_likeItself 168 = .ok (.goto (-81), 3) := by decide +kernel
theorem dX0_likeItself_171 : decode cX0_likeItself 171 = .ok (.iconst 1, 1) := by decide +kernel
theorem dX0_likeItself_172 : decode cX0_likeItself 172 = .ok (.ireturn, 1) := by decide +kernel
theorem dX0_changed_0 : decode cX0_changed 0 = .ok (.iload_n 0, 1) := by decide +kernel
theorem dX0_changed_1 : decode cX0_changed 1 = .ok (.bipush 12, 2) := by decide +kernel
theorem dX0_changed_3 : decode cX0_changed 3 = .ok (.irem, 1) := by decide +kernel
theorem dX0_changed_4 : decode cX0_changed 4 = .ok (.istore 6, 2) := by decide +kernel
theorem dX0_changed_6 : decode cX0_changed 6 = .ok (.iload_n 0, 1) := by decide +kernel
theorem dX0_changed_7 : decode cX0_changed 7 = .ok (.bipush 12, 2) := by decide +kernel
theorem dX0_changed_9 : decode cX0_changed 9 = .ok (.idiv, 1) := by decide +kernel
theorem dX0_changed_10 : decode cX0_changed 10 = .ok (.istore 7, 2) := by decide +kernel
theorem dX0_changed_12 : decode cX0_changed 12 = .ok (.iload_n 1, 1) := by decide +kernel
theorem dX0_changed_13 : decode cX0_changed 13 = .ok (.tableswitch 75 0 2 #[27, 45, 63], 27) := by decide +kernel
theorem dX0_changed_40 : decode cX0_changed 40 = .ok (.iload_n 2, 1) := by decide +kernel
theorem dX0_changed_41 : decode cX0_changed 41 = .ok (.iload 5, 2) := by decide +kernel
theorem dX0_changed_43 : decode cX0_changed 43 = .ok (.iadd, 1) := by decide +kernel
theorem dX0_changed_44 : decode cX0_changed 44 = .ok (.iload 7, 2) := by decide +kernel
theorem dX0_changed_46 : decode cX0_changed 46 = .ok (.isub, 1) := by decide +kernel
theorem dX0_changed_47 : decode cX0_changed 47 = .ok (.iload 4, 2) := by decide +kernel
theorem dX0_changed_49 : decode cX0_changed 49 = .ok (.iload 6, 2) := by decide +kernel
theorem dX0_changed_51 : decode cX0_changed 51 = .ok (.iadd, 1) := by decide +kernel
theorem dX0_changed_52 : decode cX0_changed 52 = .ok (.iload_n 2, 1) := by decide +kernel
theorem dX0_changed_53 : decode cX0_changed 53 = .ok (.isub, 1) := by decide +kernel
theorem dX0_changed_54 : decode cX0_changed 54 = .ok (.invokestatic 112, 3) := by decide +kernel
theorem dX0_changed_57 : decode cX0_changed 57 = .ok (.ireturn, 1) := by decide +kernel
theorem dX0_changed_58 : decode cX0_changed 58 = .ok (.iload_n 2, 1) := by decide +kernel
theorem dX0_changed_59 : decode cX0_changed 59 = .ok (.iload_n 3, 1) := by decide +kernel
theorem dX0_changed_60 : decode cX0_changed 60 = .ok (.iadd, 1) := by decide +kernel
theorem dX0_changed_61 : decode cX0_changed 61 = .ok (.iload 6, 2) := by decide +kernel
theorem dX0_changed_63 : decode cX0_changed 63 = .ok (.isub, 1) := by decide +kernel
theorem dX0_changed_64 : decode cX0_changed 64 = .ok (.iload 4, 2) := by decide +kernel
theorem dX0_changed_66 : decode cX0_changed 66 = .ok (.iload 5, 2) := by decide +kernel
theorem dX0_changed_68 : decode cX0_changed 68 = .ok (.iadd, 1) := by decide +kernel
theorem dX0_changed_69 : decode cX0_changed 69 = .ok (.iload 7, 2) := by decide +kernel
theorem dX0_changed_71 : decode cX0_changed 71 = .ok (.isub, 1) := by decide +kernel
theorem dX0_changed_72 : decode cX0_changed 72 = .ok (.invokestatic 112, 3) := by decide +kernel
theorem dX0_changed_75 : decode cX0_changed 75 = .ok (.ireturn, 1) := by decide +kernel
theorem dX0_changed_76 : decode cX0_changed 76 = .ok (.iload_n 2, 1) := by decide +kernel
theorem dX0_changed_77 : decode cX0_changed 77 = .ok (.iload_n 3, 1) := by decide +kernel
theorem dX0_changed_78 : decode cX0_changed 78 = .ok (.iadd, 1) := by decide +kernel
theorem dX0_changed_79 : decode cX0_changed 79 = .ok (.iload 6, 2) := by decide +kernel
theorem dX0_changed_81 : decode cX0_changed 81 = .ok (.isub, 1) := by decide +kernel
theorem dX0_changed_82 : decode cX0_changed 82 = .ok (.iload 7, 2) := by decide +kernel
theorem dX0_changed_84 : decode cX0_changed 84 = .ok (.invokestatic 112, 3) := by decide +kernel
theorem dX0_changed_87 : decode cX0_changed 87 = .ok (.ireturn, 1) := by decide +kernel
theorem dX0_changed_88 : decode cX0_changed 88 = .ok (.iload 6, 2) := by decide +kernel
theorem dX0_changed_90 : decode cX0_changed 90 = .ok (.iload 4, 2) := by decide +kernel
theorem dX0_changed_92 : decode cX0_changed 92 = .ok (.iload 5, 2) := by decide +kernel
theorem dX0_changed_94 : decode cX0_changed 94 = .ok (.iadd, 1) := by decide +kernel
theorem dX0_changed_95 : decode cX0_changed 95 = .ok (.iload 7, 2) := by decide +kernel
theorem dX0_changed_97 : decode cX0_changed 97 = .ok (.isub, 1) := by decide +kernel
theorem dX0_changed_98 : decode cX0_changed 98 = .ok (.invokestatic 112, 3) := by decide +kernel
theorem dX0_changed_101 : decode cX0_changed 101 = .ok (.ireturn, 1) := by decide +kernel
theorem dX0_lineBetween_0 : decode cX0_lineBetween 0 = .ok (.aload_n 0, 1) := by decide +kernel
theorem dX0_lineBetween_1 : decode cX0_lineBetween 1 = .ok (.iload_n 1, 1) := by decide +kernel
theorem dX0_lineBetween_2 : decode cX0_lineBetween 2 = .ok (.invokevirtual 67, 3) := by decide +kernel
theorem dX0_lineBetween_5 : decode cX0_lineBetween 5 = .ok (.aload_n 0, 1) := by decide +kernel
theorem dX0_lineBetween_6 : decode cX0_lineBetween 6 = .ok (.iload_n 2, 1) := by decide +kernel
theorem dX0_lineBetween_7 : decode cX0_lineBetween 7 = .ok (.invokevirtual 67, 3) := by decide +kernel
theorem dX0_lineBetween_10 : decode cX0_lineBetween 10 = .ok (.land, 1) := by decide +kernel
theorem dX0_lineBetween_11 : decode cX0_lineBetween 11 = .ok (.lstore_n 3, 1) := by decide +kernel
theorem dX0_lineBetween_12 : decode cX0_lineBetween 12 = .ok (.iload_n 1, 1) := by decide +kernel
theorem dX0_lineBetween_13 : decode cX0_lineBetween 13 = .ok (.iload_n 2, 1) := by decide +kernel
theorem dX0_lineBetween_14 : decode cX0_lineBetween 14 = .ok (.if_icmp .eq 9, 3) := by decide +kernel
theorem dX0_lineBetween_17 : decode cX0_lineBetween 17 = .ok (.lload_n 3, 1) := by decide +kernel
theorem dX0_lineBetween_18 : decode cX0_lineBetween 18 = .ok (.lconst 0, 1) := by decide +kernel
theorem dX0_lineBetween_19 : decode cX0_lineBetween 19 = .ok (.lcmp, 1) := by decide +kernel
theorem dX0_lineBetween_20 : decode cX0_lineBetween 20 = .ok (.ifCond .ne 7, 3) := by decide +kernel
theorem dX0_lineBetween_23 : decode cX0_lineBetween 23 = .ok (.iconst (-1), 1) := by decide +kernel
theorem dX0_lineBetween_24 : decode cX0_lineBetween 24 = .ok (.goto 7, 3) := by decide +kernel
theorem dX0_lineBetween_27 : decode cX0_lineBetween 27 = .ok (.lload_n 3, 1) := by decide +kernel
theorem dX0_lineBetween_28 : decode cX0_lineBetween 28 = .ok (.invokestatic 71, 3) := by decide +kernel
theorem dX0_lineBetween_31 : decode cX0_lineBetween 31 = .ok (.ireturn, 1) := by decide +kernel
theorem dX1_init_0 : decode cX1_init 0 = .ok (.aload_n 0, 1) := by decide +kernel
theorem dX1_init_1 : decode cX1_init 1 = .ok (.invokespecial 1, 3) := by decide +kernel
theorem dX1_init_4 : decode cX1_init 4 = .ok (.aload_n 0, 1) := by decide +kernel
theorem dX1_init_5 : decode cX1_init 5 = .ok (.new 7, 3) := by decide +kernel
theorem dX1_init_8 : decode cX1_init 8 = .ok (.dup, 1) := by decide +kernel
theorem dX1_init_9 : decode cX1_init 9 = .ok (.invokespecial 9, 3) := by decide +kernel
theorem dX1_init_12 : decode cX1_init 12 = .ok (.putfield 10, 3) := by decide +kernel
theorem dX1_init_15 : decode cX1_init 15 = .ok (.aload_n 0, 1) := by decide +kernel
theorem dX1_init_16 : decode cX1_init 16 = .ok (.new 16, 3) := by decide +kernel
theorem dX1_init_19 : decode cX1_init 19 = .ok (.dup, 1) := by decide +kernel
theorem dX1_init_20 : decode cX1_init 20 = .ok (.aload_n 0, 1) := by decide +kernel
theorem dX1_init_21 : decode cX1_init 21 = .ok (.getfield 10, 3) := by decide +kernel
theorem dX1_init_24 : decode cX1_init 24 = .ok (.invokespecial 18, 3) := by decide +kernel
theorem dX1_init_27 : decode cX1_init 27 = .ok (.putfield 21, 3) := by decide +kernel
theorem dX1_init_30 : decode cX1_init 30 = .ok (.return_, 1) := by decide +kernel
theorem dX1_make_0 : decode cX1_make 0 = .ok (.aload_n 0, 1) := by decide +kernel
theorem dX1_make_1 : decode cX1_make 1 = .ok (.iconst 1, 1) := by decide +kernel
theorem dX1_make_2 : decode cX1_make 2 = .ok (.putfield 25, 3) := by decide +kernel
theorem dX1_make_5 : decode cX1_make 5 = .ok (.aload_n 0, 1) := by decide +kernel
theorem dX1_make_6 : decode cX1_make 6 = .ok (.getfield 10, 3) := by decide +kernel
theorem dX1_make_9 : decode cX1_make 9 = .ok (.aload_n 1, 1) := by decide +kernel
theorem dX1_make_10 : decode cX1_make 10 = .ok (.invokevirtual 29, 3) := by decide +kernel
theorem dX1_make_13 : decode cX1_make 13 = .ok (.aload_n 0, 1) := by decide +kernel
theorem dX1_make_14 : decode cX1_make 14 = .ok (.getfield 21, 3) := by decide +kernel
theorem dX1_make_17 : decode cX1_make 17 = .ok (.aload_n 2, 1) := by decide +kernel
theorem dX1_make_18 : decode cX1_make 18 = .ok (.invokevirtual 32, 3) := by decide +kernel
theorem dX1_make_21 : decode cX1_make 21 = .ok (.return_, 1) := by decide +kernel
theorem dX2_init_0 : decode cX2_init 0 = .ok (.aload_n 0, 1) := by decide +kernel
theorem dX2_init_1 : decode cX2_init 1 = .ok (.invokespecial 3, 3) := by decide +kernel
theorem dX2_init_4 : decode cX2_init 4 = .ok (.aload_n 0, 1) := by decide +kernel
theorem dX2_init_5 : decode cX2_init 5 = .ok (.bipush 120, 2) := by decide +kernel
theorem dX2_init_7 : decode cX2_init 7 = .ok (.newarray .int, 2) := by decide +kernel
theorem dX2_init_9 : decode cX2_init 9 = .ok (.putfield 9, 3) := by decide +kernel
theorem dX2_init_12 : decode cX2_init 12 = .ok (.aload_n 0, 1) := by decide +kernel
theorem dX2_init_13 : decode cX2_init 13 = .ok (.aload_n 1, 1) := by decide +kernel
theorem dX2_init_14 : decode cX2_init 14 = .ok (.putfield 15, 3) := by decide +kernel
theorem dX2_init_17 : decode cX2_init 17 = .ok (.return_, 1) := by decide +kernel
theorem dX2_clear_0 : decode cX2_clear 0 = .ok (.aload_n 0, 1) := by decide +kernel
theorem dX2_clear_1 : decode cX2_clear 1 = .ok (.lconst 0, 1) := by decide +kernel
theorem dX2_clear_2 : decode cX2_clear 2 = .ok (.putfield 19, 3) := by decide +kernel
theorem dX2_clear_5 : decode cX2_clear 5 = .ok (.aload_n 0, 1) := by decide +kernel
theorem dX2_clear_6 : decode cX2_clear 6 = .ok (.lconst 0, 1) := by decide +kernel
theorem dX2_clear_7 : decode cX2_clear 7 = .ok (.putfield 23, 3) := by decide +kernel
theorem dX2_clear_10 : decode cX2_clear 10 = .ok (.aload_n 0, 1) := by decide +kernel
theorem dX2_clear_11 : decode cX2_clear 11 = .ok (.iconst 0, 1) := by decide +kernel
theorem dX2_clear_12 : decode cX2_clear 12 = .ok (.putfield 26, 3) := by decide +kernel
theorem dX2_clear_15 : decode cX2_clear 15 = .ok (.aload_n 0, 1) := by decide +kernel
theorem dX2_clear_16 : decode cX2_clear 16 = .ok (.iconst 0, 1) := by decide +kernel
theorem dX2_clear_17 : decode cX2_clear 17 = .ok (.putfield 30, 3) := by decide +kernel
theorem dX2_clear_20 : decode cX2_clear 20 = .ok (.return_, 1) := by decide +kernel
theorem dX2_copy_0 : decode cX2_copy 0 = .ok (.aload_n 0, 1) := by decide +kernel
theorem dX2_copy_1 : decode cX2_copy 1 = .ok (.aload_n 1, 1) := by decide +kernel
theorem dX2_copy_2 : decode cX2_copy 2 = .ok (.getfield 19, 3) := by decide +kernel
theorem dX2_copy_5 : decode cX2_copy 5 = .ok (.putfield 19, 3) := by decide +kernel
theorem dX2_copy_8 : decode cX2_copy 8 = .ok (.aload_n 0, 1) := by decide +kernel
theorem dX2_copy_9 : decode cX2_copy 9 = .ok (.aload_n 1, 1) := by decide +kernel
theorem dX2_copy_10 : decode cX2_copy 10 = .ok (.getfield 23, 3) := by decide +kernel
theorem dX2_copy_13 : decode cX2_copy 13 = .ok (.putfield 23, 3) := by decide +kernel
theorem dX2_copy_16 : decode cX2_copy 16 = .ok (.aload_n 0, 1) := by decide +kernel
theorem dX2_copy_17 : decode cX2_copy 17 = .ok (.aload_n 1, 1) := by decide +kernel
theorem dX2_copy_18 : decode cX2_copy 18 = .ok (.getfield 26, 3) := by decide +kernel
theorem dX2_copy_21 : decode cX2_copy 21 = .ok (.putfield 26, 3) := by decide +kernel
theorem dX2_copy_24 : decode cX2_copy 24 = .ok (.aload_n 0, 1) := by decide +kernel
theorem dX2_copy_25 : decode cX2_copy 25 = .ok (.aload_n 1, 1) := by decide +kernel
theorem dX2_copy_26 : decode cX2_copy 26 = .ok (.getfield 34, 3) := by decide +kernel
theorem dX2_copy_29 : decode cX2_copy 29 = .ok (.putfield 34, 3) := by decide +kernel
theorem dX2_copy_32 : decode cX2_copy 32 = .ok (.aload_n 0, 1) := by decide +kernel
theorem dX2_copy_33 : decode cX2_copy 33 = .ok (.aload_n 1, 1) := by decide +kernel
theorem dX2_copy_34 : decode cX2_copy 34 = .ok (.getfield 37, 3) := by decide +kernel
theorem dX2_copy_37 : decode cX2_copy 37 = .ok (.putfield 37, 3) := by decide +kernel
theorem dX2_copy_40 : decode cX2_copy 40 = .ok (.aload_n 0, 1) := by decide +kernel
theorem dX2_copy_41 : decode cX2_copy 41 = .ok (.aload_n 1, 1) := by decide +kernel
theorem dX2_copy_42 : decode cX2_copy 42 = .ok (.getfield 40, 3) := by decide +kernel
theorem dX2_copy_45 : decode cX2_copy 45 = .ok (.putfield 40, 3) := by decide +kernel
theorem dX2_copy_48 : decode cX2_copy 48 = .ok (.aload_n 0, 1) := by decide +kernel
theorem dX2_copy_49 : decode cX2_copy 49 = .ok (.aload_n 1, 1) := by decide +kernel
theorem dX2_copy_50 : decode cX2_copy 50 = .ok (.getfield 43, 3) := by decide +kernel
theorem dX2_copy_53 : decode cX2_copy 53 = .ok (.putfield 43, 3) := by decide +kernel
theorem dX2_copy_56 : decode cX2_copy 56 = .ok (.aload_n 0, 1) := by decide +kernel
theorem dX2_copy_57 : decode cX2_copy 57 = .ok (.aload_n 1, 1) := by decide +kernel
theorem dX2_copy_58 : decode cX2_copy 58 = .ok (.getfield 30, 3) := by decide +kernel
theorem dX2_copy_61 : decode cX2_copy 61 = .ok (.putfield 30, 3) := by decide +kernel
theorem dX2_copy_64 : decode cX2_copy 64 = .ok (.aload_n 0, 1) := by decide +kernel
theorem dX2_copy_65 : decode cX2_copy 65 = .ok (.aload_n 1, 1) := by decide +kernel
theorem dX2_copy_66 : decode cX2_copy 66 = .ok (.getfield 46, 3) := by decide +kernel
theorem dX2_copy_69 : decode cX2_copy 69 = .ok (.putfield 46, 3) := by decide +kernel
theorem dX2_copy_72 : decode cX2_copy 72 = .ok (.aload_n 1, 1) := by decide +kernel
theorem dX2_copy_73 : decode cX2_copy 73 = .ok (.getfield 9, 3) := by decide +kernel
theorem dX2_copy_76 : decode cX2_copy 76 = .ok (.iconst 0, 1) := by decide +kernel
theorem dX2_copy_77 : decode cX2_copy 77 = .ok (.aload_n 0, 1) := by decide +kernel
theorem dX2_copy_78 : decode cX2_copy 78 = .ok (.getfield 9, 3) := by decide +kernel
theorem dX2_copy_81 : decode cX2_copy 81 = .ok (.iconst 0, 1) := by decide +kernel
theorem dX2_copy_82 : decode cX2_copy 82 = .ok (.bipush 120, 2) := by decide +kernel
theorem dX2_copy_84 : decode cX2_copy 84 = .ok (.invokestatic 49, 3) := by decide +kernel
theorem dX2_copy_87 : decode cX2_copy 87 = .ok (.return_, 1) := by decide +kernel
theorem dX2_start_0 : decode cX2_start 0 = .ok (.aload_n 0, 1) := by decide +kernel
theorem dX2_start_1 : decode cX2_start 1 = .ok (.getfield 26, 3) := by decide +kernel
theorem dX2_start_4 : decode cX2_start 4 = .ok (.ifCond .eq 7, 3) := by decide +kernel
theorem dX2_start_7 : decode cX2_start 7 = .ok (.aload_n 0, 1) := by decide +kernel
theorem dX2_start_8 : decode cX2_start 8 = .ok (.invokevirtual 55, 3) := by decide +kernel
theorem dX2_start_11 : decode cX2_start 11 = .ok (.aload_n 0, 1) := by decide +kernel
theorem dX2_start_12 : decode cX2_start 12 = .ok (.iconst 1, 1) := by decide +kernel
theorem dX2_start_13 : decode cX2_start 13 = .ok (.putfield 26, 3) := by decide +kernel
theorem dX2_start_16 : decode cX2_start 16 = .ok (.aload_n 0, 1) := by decide +kernel
theorem dX2_start_17 : decode cX2_start 17 = .ok (.iload_n 2, 1) := by decide +kernel
theorem dX2_start_18 : decode cX2_start 18 = .ok (.putfield 34, 3) := by decide +kernel
theorem dX2_start_21 : decode cX2_start 21 = .ok (.aload_n 0, 1) := by decide +kernel
theorem dX2_start_22 : decode cX2_start 22 = .ok (.iload_n 1, 1) := by decide +kernel
theorem dX2_start_23 : decode cX2_start 23 = .ok (.putfield 37, 3) := by decide +kernel
theorem dX2_start_26 : decode cX2_start 26 = .ok (.aload_n 0, 1) := by decide +kernel
theorem dX2_start_27 : decode cX2_start 27 = .ok (.iload_n 1, 1) := by decide +kernel
theorem dX2_start_28 : decode cX2_start 28 = .ok (.putfield 40, 3) := by decide +kernel
theorem dX2_start_31 : decode cX2_start 31 = .ok (.aload_n 0, 1) := by decide +kernel
theorem dX2_start_32 : decode cX2_start 32 = .ok (.iconst 0, 1) := by decide +kernel
theorem dX2_start_33 : decode cX2_start 33 = .ok (.putfield 43, 3) := by decide +kernel
theorem dX2_start_36 : decode cX2_start 36 = .ok (.aload_n 0, 1) := by decide +kernel
theorem dX2_start_37 : decode cX2_start 37 = .ok (.iload_n 3, 1) := by decide +kernel
theorem dX2_start_38 : decode cX2_start 38 = .ok (.putfield 46, 3) := by decide +kernel
theorem dX2_start_41 : decode cX2_start 41 = .ok (.return_, 1) := by decide +kernel
theorem dX2_snip_0 : decode cX2_snip 0 = .ok (.aload_n 0, 1) := by decide +kernel
theorem dX2_snip_1 : decode cX2_snip 1 = .ok (.iconst 0, 1) := by decide +kernel
theorem dX2_snip_2 : decode cX2_snip 2 = .ok (.putfield 26, 3) := by decide +kernel
theorem dX2_snip_5 : decode cX2_snip 5 = .ok (.aload_n 0, 1) := by decide +kernel
theorem dX2_snip_6 : decode cX2_snip 6 = .ok (.dup, 1) := by decide +kernel
theorem dX2_snip_7 : decode cX2_snip 7 = .ok (.getfield 30, 3) := by decide +kernel
theorem dX2_snip_10 : decode cX2_snip 10 = .ok (.iconst 1, 1) := by decide +kernel
theorem dX2_snip_11 : decode cX2_snip 11 = .ok (.iadd, 1) := by decide +kernel
theorem dX2_snip_12 : decode cX2_snip 12 = .ok (.putfield 30, 3) := by decide +kernel
theorem dX2_snip_15 : decode cX2_snip 15 = .ok (.return_, 1) := by decide +kernel
theorem dX2_nextOver_0 : decode cX2_nextOver 0 = .ok (.aload_n 0, 1) := by decide +kernel
theorem dX2_nextOver_1 : decode cX2_nextOver 1 = .ok (.getfield 46, 3) := by decide +kernel
theorem dX2_nextOver_4 : decode cX2_nextOver 4 = .ok (.aload_n 0, 1) := by decide +kernel
theorem dX2_nextOver_5 : decode cX2_nextOver 5 = .ok (.getfield 43, 3) := by decide +kernel
theorem dX2_nextOver_8 : decode cX2_nextOver 8 = .ok (.iconst 1, 1) := by decide +kernel
theorem dX2_nextOver_9 : decode cX2_nextOver 9 = .ok (.iand, 1) := by decide +kernel
theorem dX2_nextOver_10 : decode cX2_nextOver 10 = .ok (.ifCond .ne 7, 3) := by decide +kernel
theorem dX2_nextOver_13 : decode cX2_nextOver 13 = .ok (.iconst 1, 1) := by decide +kernel
theorem dX2_nextOver_14 : decode cX2_nextOver 14 = .ok (.goto 4, 3) := by decide +kernel
theorem dX2_nextOver_17 : decode cX2_nextOver 17 = .ok (.iconst 0, 1) := by decide +kernel
theorem dX2_nextOver_18 : decode cX2_nextOver 18 = .ok (.if_icmp .ne 7, 3) := by decide +kernel
theorem dX2_nextOver_21 : decode cX2_nextOver 21 = .ok (.iconst 1, 1) := by decide +kernel
theorem dX2_nextOver_22 : decode cX2_nextOver 22 = .ok (.goto 4, 3) := by decide +kernel
theorem dX2_nextOver_25 : decode cX2_nextOver 25 = .ok (.iconst 0, 1) := by decide +kernel
theorem dX2_nextOver_26 : decode cX2_nextOver 26 = .ok (.ireturn, 1) := by decide +kernel
theorem dX2_wayOf_0 : decode cX2_wayOf 0 = .ok (.iload_n 1, 1) := by decide +kernel
theorem dX2_wayOf_1 : decode cX2_wayOf 1 = .ok (.ifCond .lt 29, 3) := by decide +kernel
theorem dX2_wayOf_4 : decode cX2_wayOf 4 = .ok (.iload_n 1, 1) := by decide +kernel
theorem dX2_wayOf_5 : decode cX2_wayOf 5 = .ok (.aload_n 0, 1) := by decide +kernel
theorem dX2_wayOf_6 : decode cX2_wayOf 6 = .ok (.getfield 43, 3) := by decide +kernel
theorem dX2_wayOf_9 : decode cX2_wayOf 9 = .ok (.if_icmp .ge 21, 3) := by decide +kernel
theorem dX2_wayOf_12 : decode cX2_wayOf 12 = .ok (.iload_n 1, 1) := by decide +kernel
theorem dX2_wayOf_13 : decode cX2_wayOf 13 = .ok (.aload_n 0, 1) := by decide +kernel
theorem dX2_wayOf_14 : decode cX2_wayOf 14 = .ok (.getfield 9, 3) := by decide +kernel
theorem dX2_wayOf_17 : decode cX2_wayOf 17 = .ok (.arraylength, 1) := by decide +kernel
theorem dX2_wayOf_18 : decode cX2_wayOf 18 = .ok (.if_icmp .ge 12, 3) := by decide +kernel
theorem dX2_wayOf_21 : decode cX2_wayOf 21 = .ok (.aload_n 0, 1) := by decide +kernel
theorem dX2_wayOf_22 : decode cX2_wayOf 22 = .ok (.getfield 9, 3) := by decide +kernel
theorem dX2_wayOf_25 : decode cX2_wayOf 25 = .ok (.iload_n 1, 1) := by decide +kernel
theorem dX2_wayOf_26 : decode cX2_wayOf 26 = .ok (.iaload, 1) := by decide +kernel
theorem dX2_wayOf_27 : decode cX2_wayOf 27 = .ok (.goto 4, 3) := by decide +kernel
theorem dX2_wayOf_30 : decode cX2_wayOf 30 = .ok (.iconst (-1), 1) := by decide +kernel
theorem dX2_wayOf_31 : decode cX2_wayOf 31 = .ok (.ireturn, 1) := by decide +kernel
theorem dX2_facesOf_0 : decode cX2_facesOf 0 = .ok (.aload_n 0, 1) := by decide +kernel
theorem dX2_facesOf_1 : decode cX2_facesOf 1 = .ok (.getfield 19, 3) := by decide +kernel
theorem dX2_facesOf_4 : decode cX2_facesOf 4 = .ok (.iload_n 1, 1) := by decide +kernel
theorem dX2_facesOf_5 : decode cX2_facesOf 5 = .ok (.lshr, 1) := by decide +kernel
theorem dX2_facesOf_6 : decode cX2_facesOf 6 = .ok (.lconst 1, 1) := by decide +kernel
theorem dX2_facesOf_7 : decode cX2_facesOf 7 = .ok (.land, 1) := by decide +kernel
theorem dX2_facesOf_8 : decode cX2_facesOf 8 = .ok (.lconst 0, 1) := by decide +kernel
theorem dX2_facesOf_9 : decode cX2_facesOf 9 = .ok (.lcmp, 1) := by decide +kernel
theorem dX2_facesOf_10 : decode cX2_facesOf 10 = .ok (.ifCond .eq 7, 3) := by decide +kernel
theorem dX2_facesOf_13 : decode cX2_facesOf 13 = .ok (.iconst 1, 1) := by decide +kernel
theorem dX2_facesOf_14 : decode cX2_facesOf 14 = .ok (.goto 4, 3) := by decide +kernel
theorem dX2_facesOf_17 : decode cX2_facesOf 17 = .ok (.iconst 0, 1) := by decide +kernel
theorem dX2_facesOf_18 : decode cX2_facesOf 18 = .ok (.istore_n 2, 1) := by decide +kernel
theorem dX2_facesOf_19 : decode cX2_facesOf 19 = .ok (.aload_n 0, 1) := by decide +kernel
theorem dX2_facesOf_20 : decode cX2_facesOf 20 = .ok (.getfield 23, 3) := by decide +kernel
theorem dX2_facesOf_23 : decode cX2_facesOf 23 = .ok (.iload_n 1, 1) := by decide +kernel
theorem dX2_facesOf_24 : decode cX2_facesOf 24 = .ok (.lshr, 1) := by decide +kernel
theorem dX2_facesOf_25 : decode cX2_facesOf 25 = .ok (.lconst 1, 1) := by decide +kernel
theorem dX2_facesOf_26 : decode cX2_facesOf 26 = .ok (.land, 1) := by decide +kernel
theorem dX2_facesOf_27 : decode cX2_facesOf 27 = .ok (.lconst 0, 1) := by decide +kernel
theorem dX2_facesOf_28 : decode cX2_facesOf 28 = .ok (.lcmp, 1) := by decide +kernel
theorem dX2_facesOf_29 : decode cX2_facesOf 29 = .ok (.ifCond .eq 9, 3) := by decide +kernel
theorem dX2_facesOf_32 : decode cX2_facesOf 32 = .ok (.iload_n 2, 1) := by decide +kernel
theorem dX2_facesOf_33 : decode cX2_facesOf 33 = .ok (.iconst 2, 1) := by decide +kernel
theorem dX2_facesOf_34 : decode cX2_facesOf 34 = .ok (.iadd, 1) := by decide +kernel
theorem dX2_facesOf_35 : decode cX2_facesOf 35 = .ok (.goto 4, 3) := by decide +kernel
theorem dX2_facesOf_38 : decode cX2_facesOf 38 = .ok (.iload_n 2, 1) := by decide +kernel
theorem dX2_facesOf_39 : decode cX2_facesOf 39 = .ok (.ireturn, 1) := by decide +kernel
theorem dX2_openOver_0 : decode cX2_openOver 0 = .ok (.aload_n 0, 1) := by decide +kernel
theorem dX2_openOver_1 : decode cX2_openOver 1 = .ok (.getfield 15, 3) := by decide +kernel
theorem dX2_openOver_4 : decode cX2_openOver 4 = .ok (.iload_n 1, 1) := by decide +kernel
theorem dX2_openOver_5 : decode cX2_openOver 5 = .ok (.invokevirtual 58, 3) := by decide +kernel
theorem dX2_openOver_8 : decode cX2_openOver 8 = .ok (.aload_n 0, 1) := by decide +kernel
theorem dX2_openOver_9 : decode cX2_openOver 9 = .ok (.getfield 19, 3) := by decide +kernel
theorem dX2_openOver_12 : decode cX2_openOver 12 = .ok (.ldc2_w 64, 3) := by decide +kernel
theorem dX2_openOver_15 : decode cX2_openOver 15 = .ok (.lxor, 1) := by decide +kernel
theorem dX2_openOver_16 : decode cX2_openOver 16 = .ok (.land, 1) := by decide +kernel
theorem dX2_openOver_17 : decode cX2_openOver 17 = .ok (.lreturn, 1) := by decide +kernel
theorem dX2_openUnder_0 : decode cX2_openUnder 0 = .ok (.aload_n 0, 1) := by decide +kernel
theorem dX2_openUnder_1 : decode cX2_openUnder 1 = .ok (.getfield 15, 3) := by decide +kernel
theorem dX2_openUnder_4 : decode cX2_openUnder 4 = .ok (.iload_n 1, 1) := by decide +kernel
theorem dX2_openUnder_5 : decode cX2_openUnder 5 = .ok (.invokevirtual 58, 3) := by decide +kernel
theorem dX2_openUnder_8 : decode cX2_openUnder 8 = .ok (.aload_n 0, 1) := by decide +kernel
theorem dX2_openUnder_9 : decode cX2_openUnder 9 = .ok (.getfield 23, 3) := by decide +kernel
theorem dX2_openUnder_12 : decode cX2_openUnder 12 = .ok (.ldc2_w 64, 3) := by decide +kernel
theorem dX2_openUnder_15 : decode cX2_openUnder 15 = .ok (.lxor, 1) := by decide +kernel
theorem dX2_openUnder_16 : decode cX2_openUnder 16 = .ok (.land, 1) := by decide +kernel
theorem dX2_openUnder_17 : decode cX2_openUnder 17 = .ok (.lreturn, 1) := by decide +kernel
theorem dX2_stillOpen_0 : decode cX2_stillOpen 0 = .ok (.aload_n 0, 1) := by decide +kernel
theorem dX2_stillOpen_1 : decode cX2_stillOpen 1 = .ok (.aload_n 0, 1) := by decide +kernel
theorem dX2_stillOpen_2 : decode cX2_stillOpen 2 = .ok (.getfield 34, 3) := by decide +kernel
theorem dX2_stillOpen_5 : decode cX2_stillOpen 5 = .ok (.invokevirtual 66, 3) := by decide +kernel
theorem dX2_stillOpen_8 : decode cX2_stillOpen 8 = .ok (.invokestatic 69, 3) := by decide +kernel
theorem dX2_stillOpen_11 : decode cX2_stillOpen 11 = .ok (.aload_n 0, 1) := by decide +kernel
theorem dX2_stillOpen_12 : decode cX2_stillOpen 12 = .ok (.aload_n 0, 1) := by decide +kernel
theorem dX2_stillOpen_13 : decode cX2_stillOpen 13 = .ok (.getfield 34, 3) := by decide +kernel
theorem dX2_stillOpen_16 : decode cX2_stillOpen 16 = .ok (.invokevirtual 75, 3) := by decide +kernel
theorem dX2_stillOpen_19 : decode cX2_stillOpen 19 = .ok (.invokestatic 69, 3) := by decide +kernel
theorem dX2_stillOpen_22 : decode cX2_stillOpen 22 = .ok (.iadd, 1) := by decide +kernel
theorem dX2_stillOpen_23 : decode cX2_stillOpen 23 = .ok (.ireturn, 1) := by decide +kernel
theorem dX2_hindrance_0 : decode cX2_hindrance 0 = .ok (.aload_n 0, 1) := by decide +kernel
theorem dX2_hindrance_1 : decode cX2_hindrance 1 = .ok (.getfield 26, 3) := by decide +kernel
theorem dX2_hindrance_4 : decode cX2_hindrance 4 = .ok (.ifCond .ne 5, 3) := by decide +kernel
theorem dX2_hindrance_7 : decode cX2_hindrance 7 = .ok (.iconst 1, 1) := by decide +kernel
theorem dX2_hindrance_8 : decode cX2_hindrance 8 = .ok (.ireturn, 1) := by decide +kernel
theorem dX2_hindrance_9 : decode cX2_hindrance 9 = .ok (.aload_n 0, 1) := by decide +kernel
theorem dX2_hindrance_10 : decode cX2_hindrance 10 = .ok (.getfield 15, 3) := by decide +kernel
theorem dX2_hindrance_13 : decode cX2_hindrance 13 = .ok (.aload_n 0, 1) := by decide +kernel
theorem dX2_hindrance_14 : decode cX2_hindrance 14 = .ok (.getfield 40, 3) := by decide +kernel
theorem dX2_hindrance_17 : decode cX2_hindrance 17 = .ok (.iload_n 1, 1) := by decide +kernel
theorem dX2_hindrance_18 : decode cX2_hindrance 18 = .ok (.invokevirtual 78, 3) := by decide +kernel
theorem dX2_hindrance_21 : decode cX2_hindrance 21 = .ok (.istore_n 2, 1) := by decide +kernel
theorem dX2_hindrance_22 : decode cX2_hindrance 22 = .ok (.iload_n 2, 1) := by decide +kernel
theorem dX2_hindrance_23 : decode cX2_hindrance 23 = .ok (.iconst (-1), 1) := by decide +kernel
theorem dX2_hindrance_24 : decode cX2_hindrance 24 = .ok (.if_icmp .eq 18, 3) := by decide +kernel
theorem dX2_hindrance_27 : decode cX2_hindrance 27 = .ok (.aload_n 0, 1) := by decide +kernel
theorem dX2_hindrance_28 : decode cX2_hindrance 28 = .ok (.getfield 15, 3) := by decide +kernel
theorem dX2_hindrance_31 : decode cX2_hindrance 31 = .ok (.iload_n 2, 1) := by decide +kernel
theorem dX2_hindrance_32 : decode cX2_hindrance 32 = .ok (.invokevirtual 82, 3) := by decide +kernel
theorem dX2_hindrance_35 : decode cX2_hindrance 35 = .ok (.aload_n 0, 1) := by decide +kernel
theorem dX2_hindrance_36 : decode cX2_hindrance 36 = .ok (.getfield 34, 3) := by decide +kernel
theorem dX2_hindrance_39 : decode cX2_hindrance 39 = .ok (.if_icmp .eq 5, 3) := by decide +kernel
theorem dX2_hindrance_42 : decode cX2_hindrance 42 = .ok (.iconst 2, 1) := by decide +kernel
theorem dX2_hindrance_43 : decode cX2_hindrance 43 = .ok (.ireturn, 1) := by decide +kernel
theorem dX2_hindrance_44 : decode cX2_hindrance 44 = .ok (.aload_n 0, 1) := by decide +kernel
theorem dX2_hindrance_45 : decode cX2_hindrance 45 = .ok (.invokevirtual 86, 3) := by decide +kernel
theorem dX2_hindrance_48 : decode cX2_hindrance 48 = .ok (.ifCond .eq 10, 3) := by decide +kernel
theorem dX2_hindrance_51 : decode cX2_hindrance 51 = .ok (.aload_n 0, 1) := by decide +kernel
theorem dX2_hindrance_52 : decode cX2_hindrance 52 = .ok (.getfield 19, 3) := by decide +kernel
theorem dX2_hindrance_55 : decode cX2_hindrance 55 = .ok (.goto 7, 3) := by decide +kernel
theorem dX2_hindrance_58 : decode cX2_hindrance 58 = .ok (.aload_n 0, 1) := by decide +kernel
theorem dX2_hindrance_59 : decode cX2_hindrance 59 = .ok (.getfield 23, 3) := by decide +kernel
theorem dX2_hindrance_62 : decode cX2_hindrance 62 = .ok (.iload_n 2, 1) := by decide +kernel
theorem dX2_hindrance_63 : decode cX2_hindrance 63 = .ok (.lshr, 1) := by decide +kernel
theorem dX2_hindrance_64 : decode cX2_hindrance 64 = .ok (.lconst 1, 1) := by decide +kernel
theorem dX2_hindrance_65 : decode cX2_hindrance 65 = .ok (.land, 1) := by decide +kernel
theorem dX2_hindrance_66 : decode cX2_hindrance 66 = .ok (.lconst 0, 1) := by decide +kernel
theorem dX2_hindrance_67 : decode cX2_hindrance 67 = .ok (.lcmp, 1) := by decide +kernel
theorem dX2_hindrance_68 : decode cX2_hindrance 68 = .ok (.ifCond .eq 7, 3) := by decide +kernel
theorem dX2_hindrance_71 : decode cX2_hindrance 71 = .ok (.iconst 3, 1) := by decide +kernel
theorem dX2_hindrance_72 : decode cX2_hindrance 72 = .ok (.goto 4, 3) := by decide +kernel
theorem dX2_hindrance_75 : decode cX2_hindrance 75 = .ok (.iconst 0, 1) := by decide +kernel
theorem dX2_hindrance_76 : decode cX2_hindrance 76 = .ok (.ireturn, 1) := by decide +kernel
theorem dX2_go_0 : decode cX2_go 0 = .ok (.aload_n 0, 1) := by decide +kernel
theorem dX2_go_1 : decode cX2_go 1 = .ok (.iload_n 1, 1) := by decide +kernel
theorem dX2_go_2 : decode cX2_go 2 = .ok (.invokevirtual 90, 3) := by decide +kernel
theorem dX2_go_5 : decode cX2_go 5 = .ok (.istore_n 2, 1) := by decide +kernel
theorem dX2_go_6 : decode cX2_go 6 = .ok (.iload_n 2, 1) := by decide +kernel
theorem dX2_go_7 : decode cX2_go 7 = .ok (.ifCond .ne 76, 3) := by decide +kernel
theorem dX2_go_10 : decode cX2_go 10 = .ok (.aload_n 0, 1) := by decide +kernel
theorem dX2_go_11 : decode cX2_go 11 = .ok (.getfield 43, 3) := by decide +kernel
theorem dX2_go_14 : decode cX2_go 14 = .ok (.ifCond .lt 69, 3) := by decide +kernel
theorem dX2_go_17 : decode cX2_go 17 = .ok (.aload_n 0, 1) := by decide +kernel
theorem dX2_go_18 : decode cX2_go 18 = .ok (.getfield 43, 3) := by decide +kernel
theorem dX2_go_21 : decode cX2_go 21 = .ok (.aload_n 0, 1) := by decide +kernel
theorem dX2_go_22 : decode cX2_go 22 = .ok (.getfield 9, 3) := by decide +kernel
theorem dX2_go_25 : decode cX2_go 25 = .ok (.arraylength, 1) := by decide +kernel
theorem dX2_go_26 : decode cX2_go 26 = .ok (.if_icmp .ge 57, 3) := by decide +kernel
theorem dX2_go_29 : decode cX2_go 29 = .ok (.aload_n 0, 1) := by decide +kernel
theorem dX2_go_30 : decode cX2_go 30 = .ok (.getfield 15, 3) := by decide +kernel
theorem dX2_go_33 : decode cX2_go 33 = .ok (.aload_n 0, 1) := by decide +kernel
theorem dX2_go_34 : decode cX2_go 34 = .ok (.getfield 40, 3) := by decide +kernel
theorem dX2_go_37 : decode cX2_go 37 = .ok (.iload_n 1, 1) := by decide +kernel
theorem dX2_go_38 : decode cX2_go 38 = .ok (.invokevirtual 78, 3) := by decide +kernel
theorem dX2_go_41 : decode cX2_go 41 = .ok (.istore_n 3, 1) := by decide +kernel
theorem dX2_go_42 : decode cX2_go 42 = .ok (.aload_n 0, 1) := by decide +kernel
theorem dX2_go_43 : decode cX2_go 43 = .ok (.iload_n 3, 1) := by decide +kernel
theorem dX2_go_44 : decode cX2_go 44 = .ok (.invokevirtual 93, 3) := by decide +kernel
theorem dX2_go_47 : decode cX2_go 47 = .ok (.aload_n 0, 1) := by decide +kernel
theorem dX2_go_48 : decode cX2_go 48 = .ok (.getfield 9, 3) := by decide +kernel
theorem dX2_go_51 : decode cX2_go 51 = .ok (.aload_n 0, 1) := by decide +kernel
theorem dX2_go_52 : decode cX2_go 52 = .ok (.getfield 43, 3) := by decide +kernel
theorem dX2_go_55 : decode cX2_go 55 = .ok (.iload_n 1, 1) := by decide +kernel
theorem dX2_go_56 : decode cX2_go 56 = .ok (.iastore, 1) := by decide +kernel
theorem dX2_go_57 : decode cX2_go 57 = .ok (.aload_n 0, 1) := by decide +kernel
theorem dX2_go_58 : decode cX2_go 58 = .ok (.dup, 1) := by decide +kernel
theorem dX2_go_59 : decode cX2_go 59 = .ok (.getfield 43, 3) := by decide +kernel
theorem dX2_go_62 : decode cX2_go 62 = .ok (.iconst 1, 1) := by decide +kernel
theorem dX2_go_63 : decode cX2_go 63 = .ok (.iadd, 1) := by decide +kernel
theorem dX2_go_64 : decode cX2_go 64 = .ok (.putfield 43, 3) := by decide +kernel
theorem dX2_go_67 : decode cX2_go 67 = .ok (.aload_n 0, 1) := by decide +kernel
theorem dX2_go_68 : decode cX2_go 68 = .ok (.aload_n 0, 1) := by decide +kernel
theorem dX2_go_69 : decode cX2_go 69 = .ok (.getfield 15, 3) := by decide +kernel
theorem dX2_go_72 : decode cX2_go 72 = .ok (.iload_n 3, 1) := by decide +kernel
theorem dX2_go_73 : decode cX2_go 73 = .ok (.aload_n 0, 1) := by decide +kernel
theorem dX2_go_74 : decode cX2_go 74 = .ok (.getfield 40, 3) := by decide +kernel
theorem dX2_go_77 : decode cX2_go 77 = .ok (.invokevirtual 97, 3) := by decide +kernel
theorem dX2_go_80 : decode cX2_go 80 = .ok (.putfield 40, 3) := by decide +kernel
theorem dX2_go_83 : decode cX2_go 83 = .ok (.iload_n 2, 1) := by decide +kernel
theorem dX2_go_84 : decode cX2_go 84 = .ok (.ireturn, 1) := by decide +kernel
theorem dX2_goBack_0 : decode cX2_goBack 0 = .ok (.aload_n 0, 1) := by decide +kernel
theorem dX2_goBack_1 : decode cX2_goBack 1 = .ok (.aload_n 0, 1) := by decide +kernel
theorem dX2_goBack_2 : decode cX2_goBack 2 = .ok (.getfield 43, 3) := by decide +kernel
theorem dX2_goBack_5 : decode cX2_goBack 5 = .ok (.iconst 1, 1) := by decide +kernel
theorem dX2_goBack_6 : decode cX2_goBack 6 = .ok (.isub, 1) := by decide +kernel
theorem dX2_goBack_7 : decode cX2_goBack 7 = .ok (.invokevirtual 100, 3) := by decide +kernel
theorem dX2_goBack_10 : decode cX2_goBack 10 = .ok (.istore_n 1, 1) := by decide +kernel
theorem dX2_goBack_11 : decode cX2_goBack 11 = .ok (.iload_n 1, 1) := by decide +kernel
theorem dX2_goBack_12 : decode cX2_goBack 12 = .ok (.iconst (-1), 1) := by decide +kernel
theorem dX2_goBack_13 : decode cX2_goBack 13 = .ok (.if_icmp .eq 52, 3) := by decide +kernel
theorem dX2_goBack_16 : decode cX2_goBack 16 = .ok (.aload_n 0, 1) := by decide +kernel
theorem dX2_goBack_17 : decode cX2_goBack 17 = .ok (.getfield 15, 3) := by decide +kernel
theorem dX2_goBack_20 : decode cX2_goBack 20 = .ok (.aload_n 0, 1) := by decide +kernel
theorem dX2_goBack_21 : decode cX2_goBack 21 = .ok (.getfield 40, 3) := by decide +kernel
theorem dX2_goBack_24 : decode cX2_goBack 24 = .ok (.iload_n 1, 1) := by decide +kernel
theorem dX2_goBack_25 : decode cX2_goBack 25 = .ok (.iconst 4, 1) := by decide +kernel
theorem dX2_goBack_26 : decode cX2_goBack 26 = .ok (.iadd, 1) := by decide +kernel
theorem dX2_goBack_27 : decode cX2_goBack 27 = .ok (.bipush 7, 2) := by decide +kernel
theorem dX2_goBack_29 : decode cX2_goBack 29 = .ok (.iand, 1) := by decide +kernel
theorem dX2_goBack_30 : decode cX2_goBack 30 = .ok (.invokevirtual 78, 3) := by decide +kernel
theorem dX2_goBack_33 : decode cX2_goBack 33 = .ok (.istore_n 2, 1) := by decide +kernel
theorem dX2_goBack_34 : decode cX2_goBack 34 = .ok (.aload_n 0, 1) := by decide +kernel
theorem dX2_goBack_35 : decode cX2_goBack 35 = .ok (.dup, 1) := by decide +kernel
theorem dX2_goBack_36 : decode cX2_goBack 36 = .ok (.getfield 43, 3) := by decide +kernel
theorem dX2_goBack_39 : decode cX2_goBack 39 = .ok (.iconst 1, 1) := by decide +kernel
theorem dX2_goBack_40 : decode cX2_goBack 40 = .ok (.isub, 1) := by decide +kernel
theorem dX2_goBack_41 : decode cX2_goBack 41 = .ok (.putfield 43, 3) := by decide +kernel
theorem dX2_goBack_44 : decode cX2_goBack 44 = .ok (.aload_n 0, 1) := by decide +kernel
theorem dX2_goBack_45 : decode cX2_goBack 45 = .ok (.iload_n 2, 1) := by decide +kernel
theorem dX2_goBack_46 : decode cX2_goBack 46 = .ok (.invokevirtual 93, 3) := by decide +kernel
theorem dX2_goBack_49 : decode cX2_goBack 49 = .ok (.aload_n 0, 1) := by decide +kernel
theorem dX2_goBack_50 : decode cX2_goBack 50 = .ok (.aload_n 0, 1) := by decide +kernel
theorem dX2_goBack_51 : decode cX2_goBack 51 = .ok (.getfield 15, 3) := by decide +kernel
theorem dX2_goBack_54 : decode cX2_goBack 54 = .ok (.iload_n 2, 1) := by decide +kernel
theorem dX2_goBack_55 : decode cX2_goBack 55 = .ok (.aload_n 0, 1) := by decide +kernel
theorem dX2_goBack_56 : decode cX2_goBack 56 = .ok (.getfield 40, 3) := by decide +kernel
theorem dX2_goBack_59 : decode cX2_goBack 59 = .ok (.invokevirtual 97, 3) := by decide +kernel
theorem dX2_goBack_62 : decode cX2_goBack 62 = .ok (.putfield 40, 3) := by decide +kernel
theorem dX2_goBack_65 : decode cX2_goBack 65 = .ok (.return_, 1) := by decide +kernel
theorem dX2_mark_0 : decode cX2_mark 0 = .ok (.aload_n 0, 1) := by decide +kernel
theorem dX2_mark_1 : decode cX2_mark 1 = .ok (.invokevirtual 86, 3) := by decide +kernel
theorem dX2_mark_4 : decode cX2_mark 4 = .ok (.ifCond .eq 18, 3) := by decide +kernel
theorem dX2_mark_7 : decode cX2_mark 7 = .ok (.aload_n 0, 1) := by decide +kernel
theorem dX2_mark_8 : decode cX2_mark 8 = .ok (.dup, 1) := by decide +kernel
theorem dX2_mark_9 : decode cX2_mark 9 = .ok (.getfield 19, 3) := by decide +kernel
theorem dX2_mark_12 : decode cX2_mark 12 = .ok (.lconst 1, 1) := by decide +kernel
theorem dX2_mark_13 : decode cX2_mark 13 = .ok (.iload_n 1, 1) := by decide +kernel
theorem dX2_mark_14 : decode cX2_mark 14 = .ok (.lshl, 1) := by decide +kernel
theorem dX2_mark_15 : decode cX2_mark 15 = .ok (.lxor, 1) := by decide +kernel
theorem dX2_mark_16 : decode cX2_mark 16 = .ok (.putfield 19, 3) := by decide +kernel
theorem dX2_mark_19 : decode cX2_mark 19 = .ok (.goto 15, 3) := by decide +kernel
theorem dX2_mark_22 : decode cX2_mark 22 = .ok (.aload_n 0, 1) := by decide +kernel
theorem dX2_mark_23 : decode cX2_mark 23 = .ok (.dup, 1) := by decide +kernel
theorem dX2_mark_24 : decode cX2_mark 24 = .ok (.getfield 23, 3) := by decide +kernel
theorem dX2_mark_27 : decode cX2_mark 27 = .ok (.lconst 1, 1) := by decide +kernel
theorem dX2_mark_28 : decode cX2_mark 28 = .ok (.iload_n 1, 1) := by decide +kernel
theorem dX2_mark_29 : decode cX2_mark 29 = .ok (.lshl, 1) := by decide +kernel
theorem dX2_mark_30 : decode cX2_mark 30 = .ok (.lxor, 1) := by decide +kernel
theorem dX2_mark_31 : decode cX2_mark 31 = .ok (.putfield 23, 3) := by decide +kernel
theorem dX2_mark_34 : decode cX2_mark 34 = .ok (.return_, 1) := by decide +kernel
theorem dX3_init_0 : decode cX3_init 0 = .ok (.aload_n 0, 1) := by decide +kernel
theorem dX3_init_1 : decode cX3_init 1 = .ok (.invokespecial 3, 3) := by decide +kernel
theorem dX3_init_4 : decode cX3_init 4 = .ok (.aload_n 0, 1) := by decide +kernel
theorem dX3_init_5 : decode cX3_init 5 = .ok (.aload_n 1, 1) := by decide +kernel
theorem dX3_init_6 : decode cX3_init 6 = .ok (.putfield 9, 3) := by decide +kernel
theorem dX3_init_9 : decode cX3_init 9 = .ok (.aload_n 0, 1) := by decide +kernel
theorem dX3_init_10 : decode cX3_init 10 = .ok (.aload_n 2, 1) := by decide +kernel
theorem dX3_init_11 : decode cX3_init 11 = .ok (.putfield 15, 3) := by decide +kernel
theorem dX3_init_14 : decode cX3_init 14 = .ok (.return_, 1) := by decide +kernel
theorem dX3_draw_0 : decode cX3_draw 0 = .ok (.aload_n 0, 1) := by decide +kernel
theorem dX3_draw_1 : decode cX3_draw 1 = .ok (.iconst 0, 1) := by decide +kernel
theorem dX3_draw_2 : decode cX3_draw 2 = .ok (.putfield 19, 3) := by decide +kernel
theorem dX3_draw_5 : decode cX3_draw 5 = .ok (.aload_n 0, 1) := by decide +kernel
theorem dX3_draw_6 : decode cX3_draw 6 = .ok (.iconst (-1), 1) := by decide +kernel
theorem dX3_draw_7 : decode cX3_draw 7 = .ok (.putfield 23, 3) := by decide +kernel
theorem dX3_draw_10 : decode cX3_draw 10 = .ok (.aload_n 0, 1) := by decide +kernel
theorem dX3_draw_11 : decode cX3_draw 11 = .ok (.iconst 0, 1) := by decide +kernel
theorem dX3_draw_12 : decode cX3_draw 12 = .ok (.putfield 26, 3) := by decide +kernel
theorem dX3_draw_15 : decode cX3_draw 15 = .ok (.aload_n 0, 1) := by decide +kernel
theorem dX3_draw_16 : decode cX3_draw 16 = .ok (.iconst 0, 1) := by decide +kernel
theorem dX3_draw_17 : decode cX3_draw 17 = .ok (.putfield 29, 3) := by decide +kernel
theorem dX3_draw_20 : decode cX3_draw 20 = .ok (.aload_n 0, 1) := by decide +kernel
theorem dX3_draw_21 : decode cX3_draw 21 = .ok (.iconst 0, 1) := by decide +kernel
theorem dX3_draw_22 : decode cX3_draw 22 = .ok (.putfield 32, 3) := by decide +kernel
theorem dX3_draw_25 : decode cX3_draw 25 = .ok (.aload_n 0, 1) := by decide +kernel
theorem dX3_draw_26 : decode cX3_draw 26 = .ok (.getfield 15, 3) := by decide +kernel
theorem dX3_draw_29 : decode cX3_draw 29 = .ok (.invokevirtual 35, 3) := by decide +kernel
theorem dX3_draw_32 : decode cX3_draw 32 = .ok (.aload_n 0, 1) := by decide +kernel
theorem dX3_draw_33 : decode cX3_draw 33 = .ok (.iconst 0, 1) := by decide +kernel
theorem dX3_draw_34 : decode cX3_draw 34 = .ok (.aload_n 0, 1) := by decide +kernel
theorem dX3_draw_35 : decode cX3_draw 35 = .ok (.getfield 9, 3) := by decide +kernel
theorem dX3_draw_38 : decode cX3_draw 38 = .ok (.getfield 40, 3) := by decide +kernel
theorem dX3_draw_41 : decode cX3_draw 41 = .ok (.iconst 0, 1) := by decide +kernel
theorem dX3_draw_42 : decode cX3_draw 42 = .ok (.iconst 0, 1) := by decide +kernel
theorem dX3_draw_43 : decode cX3_draw 43 = .ok (.iconst 1, 1) := by decide +kernel
theorem dX3_draw_44 : decode cX3_draw 44 = .ok (.invokevirtual 45, 3) := by decide +kernel
theorem dX3_draw_47 : decode cX3_draw 47 = .ok (.return_, 1) := by decide +kernel
theorem dX3_follow_0 : decode cX3_follow 0 = .ok (.iload_n 1, 1) := by decide +kernel
theorem dX3_follow_1 : decode cX3_follow 1 = .ok (.istore 6, 2) := by decide +kernel
theorem dX3_follow_3 : decode cX3_follow 3 = .ok (.iload_n 1, 1) := by decide +kernel
theorem dX3_follow_4 : decode cX3_follow 4 = .ok (.istore 7, 2) := by decide +kernel
theorem dX3_follow_6 : decode cX3_follow 6 = .ok (.iload 7, 2) := by decide +kernel
theorem dX3_follow_8 : decode cX3_follow 8 = .ok (.iload_n 2, 1) := by decide +kernel
theorem dX3_follow_9 : decode cX3_follow 9 = .ok (.if_icmp .ge 104, 3) := by decide +kernel
theorem dX3_follow_12 : decode cX3_follow 12 = .ok (.aload_n 0, 1) := by decide +kernel
theorem dX3_follow_13 : decode cX3_follow 13 = .ok (.getfield 19, 3) := by decide +kernel
theorem dX3_follow_16 : decode cX3_follow 16 = .ok (.ifCond .ne 97, 3) := by decide +kernel
theorem dX3_follow_19 : decode cX3_follow 19 = .ok (.iload 7, 2) := by decide +kernel
theorem dX3_follow_21 : decode cX3_follow 21 = .ok (.iload 6, 2) := by decide +kernel
theorem dX3_follow_23 : decode cX3_follow 23 = .ok (.if_icmp .ge 6, 3) := by decide +kernel
theorem dX3_follow_26 : decode cX3_follow 26 = .ok (.goto 81, 3) := by decide +kernel
theorem dX3_follow_29 : decode cX3_follow 29 = .ok (.aload_n 0, 1) := by decide +kernel
theorem dX3_follow_30 : decode cX3_follow 30 = .ok (.getfield 9, 3) := by decide +kernel
theorem dX3_follow_33 : decode cX3_follow 33 = .ok (.iload 7, 2) := by decide +kernel
theorem dX3_follow_35 : decode cX3_follow 35 = .ok (.invokevirtual 49, 3) := by decide +kernel
theorem dX3_follow_38 : decode cX3_follow 38 = .ok (.istore 8, 2) := by decide +kernel
theorem dX3_follow_40 : decode cX3_follow 40 = .ok (.iload 8, 2) := by decide +kernel
theorem dX3_follow_42 : decode cX3_follow 42 = .ok (.bipush 11, 2) := by decide +kernel
theorem dX3_follow_44 : decode cX3_follow 44 = .ok (.if_icmp .lt 28, 3) := by decide +kernel
theorem dX3_follow_47 : decode cX3_follow 47 = .ok (.aload_n 0, 1) := by decide +kernel
theorem dX3_follow_48 : decode cX3_follow 48 = .ok (.getfield 9, 3) := by decide +kernel
theorem dX3_follow_51 : decode cX3_follow 51 = .ok (.iload 7, 2) := by decide +kernel
theorem dX3_follow_53 : decode cX3_follow 53 = .ok (.invokevirtual 53, 3) := by decide +kernel
theorem dX3_follow_56 : decode cX3_follow 56 = .ok (.istore 6, 2) := by decide +kernel
theorem dX3_follow_58 : decode cX3_follow 58 = .ok (.aload_n 0, 1) := by decide +kernel
theorem dX3_follow_59 : decode cX3_follow 59 = .ok (.iload 7, 2) := by decide +kernel
theorem dX3_follow_61 : decode cX3_follow 61 = .ok (.iload_n 3, 1) := by decide +kernel
theorem dX3_follow_62 : decode cX3_follow 62 = .ok (.iload 4, 2) := by decide +kernel
theorem dX3_follow_64 : decode cX3_follow 64 = .ok (.iload 5, 2) := by decide +kernel
theorem dX3_follow_66 : decode cX3_follow 66 = .ok (.invokevirtual 56, 3) := by decide +kernel
theorem dX3_follow_69 : decode cX3_follow 69 = .ok (.goto 38, 3) := by decide +kernel
theorem dX3_follow_72 : decode cX3_follow 72 = .ok (.iload 8, 2) := by decide +kernel
theorem dX3_follow_74 : decode cX3_follow 74 = .ok (.bipush 8, 2) := by decide +kernel
theorem dX3_follow_76 : decode cX3_follow 76 = .ok (.if_icmp .ge 23, 3) := by decide +kernel
theorem dX3_follow_79 : decode cX3_follow 79 = .ok (.aload_n 0, 1) := by decide +kernel
theorem dX3_follow_80 : decode cX3_follow 80 = .ok (.iload 7, 2) := by decide +kernel
theorem dX3_follow_82 : decode cX3_follow 82 = .ok (.iload 5, 2) := by decide +kernel
theorem dX3_follow_84 : decode cX3_follow 84 = .ok (.iload 8, 2) := by decide +kernel
theorem dX3_follow_86 : decode cX3_follow 86 = .ok (.imul, 1) := by decide +kernel
theorem dX3_follow_87 : decode cX3_follow 87 = .ok (.iload 4, 2) := by decide +kernel
theorem dX3_follow_89 : decode cX3_follow 89 = .ok (.iadd, 1) := by decide +kernel
theorem dX3_follow_90 : decode cX3_follow 90 = .ok (.bipush 7, 2) := by decide +kernel
theorem dX3_follow_92 : decode cX3_follow 92 = .ok (.iand, 1) := by decide +kernel
theorem dX3_follow_93 : decode cX3_follow 93 = .ok (.invokevirtual 60, 3) := by decide +kernel
theorem dX3_follow_96 : decode cX3_follow 96 = .ok (.goto 11, 3) := by decide +kernel
theorem dX3_follow_99 : decode cX3_follow 99 = .ok (.aload_n 0, 1) := by decide +kernel
theorem dX3_follow_100 : decode cX3_follow 100 = .ok (.iload 7, 2) := by decide +kernel
theorem dX3_follow_102 : decode cX3_follow 102 = .ok (.iload 8, 2) := by decide +kernel
theorem dX3_follow_104 : decode cX3_follow 104 = .ok (.invokevirtual 64, 3) := by decide +kernel
theorem dX3_follow_107 : decode cX3_follow 107 = .ok (.iinc 7 1, 3) := by decide +kernel
theorem dX3_follow_110 : decode cX3_follow 110 = .ok (.goto (-104), 3) := by decide +kernel
theorem dX3_follow_113 : decode cX3_follow 113 = .ok (.return_, 1) := by decide +kernel
theorem dX3_block_0 : decode cX3_block 0 = .ok (.iload_n 2, 1) := by decide +kernel
theorem dX3_block_1 : decode cX3_block 1 = .ok (.iconst 5, 1) := by decide +kernel
theorem dX3_block_2 : decode cX3_block 2 = .ok (.if_icmp .lt 4, 3) := by decide +kernel
theorem dX3_block_5 : decode cX3_block 5 = .ok (.return_, 1) := by decide +kernel
theorem dX3_block_6 : decode cX3_block 6 = .ok (.aload_n 0, 1) := by decide +kernel
theorem dX3_block_7 : decode cX3_block 7 = .ok (.getfield 9, 3) := by decide +kernel
theorem dX3_block_10 : decode cX3_block 10 = .ok (.iload_n 1, 1) := by decide +kernel
theorem dX3_block_11 : decode cX3_block 11 = .ok (.invokevirtual 49, 3) := by decide +kernel
theorem dX3_block_14 : decode cX3_block 14 = .ok (.istore 5, 2) := by decide +kernel
theorem dX3_block_16 : decode cX3_block 16 = .ok (.iload 5, 2) := by decide +kernel
theorem dX3_block_18 : decode cX3_block 18 = .ok (.bipush 12, 2) := by decide +kernel
theorem dX3_block_20 : decode cX3_block 20 = .ok (.if_icmp .ne 12, 3) := by decide +kernel
theorem dX3_block_23 : decode cX3_block 23 = .ok (.iload_n 3, 1) := by decide +kernel
theorem dX3_block_24 : decode cX3_block 24 = .ok (.iconst 2, 1) := by decide +kernel
theorem dX3_block_25 : decode cX3_block 25 = .ok (.iload 4, 2) := by decide +kernel
theorem dX3_block_27 : decode cX3_block 27 = .ok (.imul, 1) := by decide +kernel
theorem dX3_block_28 : decode cX3_block 28 = .ok (.iadd, 1) := by decide +kernel
theorem dX3_block_29 : decode cX3_block 29 = .ok (.goto 4, 3) := by decide +kernel
theorem dX3_block_32 : decode cX3_block 32 = .ok (.iload_n 3, 1) := by decide +kernel
theorem dX3_block_33 : decode cX3_block 33 = .ok (.istore 6, 2) := by decide +kernel
theorem dX3_block_35 : decode cX3_block 35 = .ok (.iload 5, 2) := by decide +kernel
theorem dX3_block_37 : decode cX3_block 37 = .ok (.bipush 11, 2) := by decide +kernel
theorem dX3_block_39 : decode cX3_block 39 = .ok (.if_icmp .eq 10, 3) := by decide +kernel
theorem dX3_block_42 : decode cX3_block 42 = .ok (.iload 5, 2) := by decide +kernel
theorem dX3_block_44 : decode cX3_block 44 = .ok (.bipush 12, 2) := by decide +kernel
theorem dX3_block_46 : decode cX3_block 46 = .ok (.if_icmp .ne 8, 3) := by decide +kernel
theorem dX3_block_49 : decode cX3_block 49 = .ok (.iload 4, 2) := by decide +kernel
theorem dX3_block_51 : decode cX3_block 51 = .ok (.goto 6, 3) := by decide +kernel
theorem dX3_block_54 : decode cX3_block 54 = .ok (.iload 4, 2) := by decide +kernel
theorem dX3_block_56 : decode cX3_block 56 = .ok (.ineg, 1) := by decide +kernel
theorem dX3_block_57 : decode cX3_block 57 = .ok (.istore 7, 2) := by decide +kernel
theorem dX3_block_59 : decode cX3_block 59 = .ok (.iconst 0, 1) := by decide +kernel
theorem dX3_block_60 : decode cX3_block 60 = .ok (.istore 8, 2) := by decide +kernel
theorem dX3_block_62 : decode cX3_block 62 = .ok (.iload 8, 2) := by decide +kernel
theorem dX3_block_64 : decode cX3_block 64 = .ok (.aload_n 0, 1) := by decide +kernel
theorem dX3_block_65 : decode cX3_block 65 = .ok (.getfield 9, 3) := by decide +kernel
theorem dX3_block_68 : decode cX3_block 68 = .ok (.iload_n 1, 1) := by decide +kernel
theorem dX3_block_69 : decode cX3_block 69 = .ok (.invokevirtual 67, 3) := by decide +kernel
theorem dX3_block_72 : decode cX3_block 72 = .ok (.if_icmp .ge 38, 3) := by decide +kernel
theorem dX3_block_75 : decode cX3_block 75 = .ok (.aload_n 0, 1) := by decide +kernel
theorem dX3_block_76 : decode cX3_block 76 = .ok (.getfield 19, 3) := by decide +kernel
theorem dX3_block_79 : decode cX3_block 79 = .ok (.ifCond .ne 31, 3) := by decide +kernel
theorem dX3_block_82 : decode cX3_block 82 = .ok (.aload_n 0, 1) := by decide +kernel
theorem dX3_block_83 : decode cX3_block 83 = .ok (.iload_n 1, 1) := by decide +kernel
theorem dX3_block_84 : decode cX3_block 84 = .ok (.iconst 1, 1) := by decide +kernel
theorem dX3_block_85 : decode cX3_block 85 = .ok (.iadd, 1) := by decide +kernel
theorem dX3_block_86 : decode cX3_block 86 = .ok (.aload_n 0, 1) := by decide +kernel
theorem dX3_block_87 : decode cX3_block 87 = .ok (.getfield 9, 3) := by decide +kernel
theorem dX3_block_90 : decode cX3_block 90 = .ok (.iload_n 1, 1) := by decide +kernel
theorem dX3_block_91 : decode cX3_block 91 = .ok (.invokevirtual 53, 3) := by decide +kernel
theorem dX3_block_94 : decode cX3_block 94 = .ok (.iload_n 2, 1) := by decide +kernel
theorem dX3_block_95 : decode cX3_block 95 = .ok (.iconst 1, 1) := by decide +kernel
theorem dX3_block_96 : decode cX3_block 96 = .ok (.iadd, 1) := by decide +kernel
theorem dX3_block_97 : decode cX3_block 97 = .ok (.iload 6, 2) := by decide +kernel
theorem dX3_block_99 : decode cX3_block 99 = .ok (.iload 7, 2) := by decide +kernel
theorem dX3_block_101 : decode cX3_block 101 = .ok (.invokevirtual 45, 3) := by decide +kernel
theorem dX3_block_104 : decode cX3_block 104 = .ok (.iinc 8 1, 3) := by decide +kernel
theorem dX3_block_107 : decode cX3_block 107 = .ok (.goto (-45), 3) := by decide +kernel
theorem dX3_block_110 : decode cX3_block 110 = .ok (.return_, 1) := by decide +kernel
theorem dX3_set_0 : decode cX3_set 0 = .ok (.bipush 12, 2) := by decide +kernel
theorem dX3_set_2 : decode cX3_set 2 = .ok (.aload_n 0, 1) := by decide +kernel
theorem dX3_set_3 : decode cX3_set 3 = .ok (.getfield 9, 3) := by decide +kernel
theorem dX3_set_6 : decode cX3_set 6 = .ok (.iload_n 1, 1) := by decide +kernel
theorem dX3_set_7 : decode cX3_set 7 = .ok (.invokevirtual 53, 3) := by decide +kernel
theorem dX3_set_10 : decode cX3_set 10 = .ok (.imul, 1) := by decide +kernel
theorem dX3_set_11 : decode cX3_set 11 = .ok (.aload_n 0, 1) := by decide +kernel
theorem dX3_set_12 : decode cX3_set 12 = .ok (.getfield 9, 3) := by decide +kernel
theorem dX3_set_15 : decode cX3_set 15 = .ok (.iload_n 1, 1) := by decide +kernel
theorem dX3_set_16 : decode cX3_set 16 = .ok (.invokevirtual 67, 3) := by decide +kernel
theorem dX3_set_19 : decode cX3_set 19 = .ok (.iadd, 1) := by decide +kernel
theorem dX3_set_20 : decode cX3_set 20 = .ok (.istore_n 3, 1) := by decide +kernel
theorem dX3_set_21 : decode cX3_set 21 = .ok (.iload_n 2, 1) := by decide +kernel
theorem dX3_set_22 : decode cX3_set 22 = .ok (.bipush 8, 2) := by decide +kernel
theorem dX3_set_24 : decode cX3_set 24 = .ok (.if_icmp .ne 11, 3) := by decide +kernel
theorem dX3_set_27 : decode cX3_set 27 = .ok (.aload_n 0, 1) := by decide +kernel
theorem dX3_set_28 : decode cX3_set 28 = .ok (.iload_n 3, 1) := by decide +kernel
theorem dX3_set_29 : decode cX3_set 29 = .ok (.putfield 26, 3) := by decide +kernel
theorem dX3_set_32 : decode cX3_set 32 = .ok (.goto 32, 3) := by decide +kernel
theorem dX3_set_35 : decode cX3_set 35 = .ok (.iload_n 2, 1) := by decide +kernel
theorem dX3_set_36 : decode cX3_set 36 = .ok (.bipush 10, 2) := by decide +kernel
theorem dX3_set_38 : decode cX3_set 38 = .ok (.if_icmp .ne 14, 3) := by decide +kernel
theorem dX3_set_41 : decode cX3_set 41 = .ok (.aload_n 0, 1) := by decide +kernel
theorem dX3_set_42 : decode cX3_set 42 = .ok (.getfield 15, 3) := by decide +kernel
theorem dX3_set_45 : decode cX3_set 45 = .ok (.iload_n 3, 1) := by decide +kernel
theorem dX3_set_46 : decode cX3_set 46 = .ok (.invokevirtual 70, 3) := by decide +kernel
theorem dX3_set_49 : decode cX3_set 49 = .ok (.goto 15, 3) := by decide +kernel
theorem dX3_set_52 : decode cX3_set 52 = .ok (.aload_n 0, 1) := by decide +kernel
theorem dX3_set_53 : decode cX3_set 53 = .ok (.aload_n 0, 1) := by decide +kernel
theorem dX3_set_54 : decode cX3_set 54 = .ok (.getfield 9, 3) := by decide +kernel
theorem dX3_set_57 : decode cX3_set 57 = .ok (.iload_n 1, 1) := by decide +kernel
theorem dX3_set_58 : decode cX3_set 58 = .ok (.invokevirtual 67, 3) := by decide +kernel
theorem dX3_set_61 : decode cX3_set 61 = .ok (.putfield 29, 3) := by decide +kernel
theorem dX3_set_64 : decode cX3_set 64 = .ok (.return_, 1) := by decide +kernel
theorem dX3_go_0 : decode cX3_go 0 = .ok (.iconst 0, 1) := by decide +kernel
theorem dX3_go_1 : decode cX3_go 1 = .ok (.istore_n 3, 1) := by decide +kernel
theorem dX3_go_2 : decode cX3_go 2 = .ok (.iload_n 3, 1) := by decide +kernel
theorem dX3_go_3 : decode cX3_go 3 = .ok (.aload_n 0, 1) := by decide +kernel
theorem dX3_go_4 : decode cX3_go 4 = .ok (.getfield 9, 3) := by decide +kernel
theorem dX3_go_7 : decode cX3_go 7 = .ok (.iload_n 1, 1) := by decide +kernel
theorem dX3_go_8 : decode cX3_go 8 = .ok (.invokevirtual 67, 3) := by decide +kernel
theorem dX3_go_11 : decode cX3_go 11 = .ok (.if_icmp .ge 40, 3) := by decide +kernel
theorem dX3_go_14 : decode cX3_go 14 = .ok (.aload_n 0, 1) := by decide +kernel
theorem dX3_go_15 : decode cX3_go 15 = .ok (.getfield 19, 3) := by decide +kernel
theorem dX3_go_18 : decode cX3_go 18 = .ok (.ifCond .ne 33, 3) := by decide +kernel
theorem dX3_go_21 : decode cX3_go 21 = .ok (.aload_n 0, 1) := by decide +kernel
theorem dX3_go_22 : decode cX3_go 22 = .ok (.iload_n 2, 1) := by decide +kernel
theorem dX3_go_23 : decode cX3_go 23 = .ok (.invokevirtual 74, 3) := by decide +kernel
theorem dX3_go_26 : decode cX3_go 26 = .ok (.aload_n 0, 1) := by decide +kernel
theorem dX3_go_27 : decode cX3_go 27 = .ok (.getfield 19, 3) := by decide +kernel
theorem dX3_go_30 : decode cX3_go 30 = .ok (.ifCond .eq 15, 3) := by decide +kernel
theorem dX3_go_33 : decode cX3_go 33 = .ok (.aload_n 0, 1) := by decide +kernel
theorem dX3_go_34 : decode cX3_go 34 = .ok (.aload_n 0, 1) := by decide +kernel
theorem dX3_go_35 : decode cX3_go 35 = .ok (.getfield 9, 3) := by decide +kernel
theorem dX3_go_38 : decode cX3_go 38 = .ok (.iload_n 1, 1) := by decide +kernel
theorem dX3_go_39 : decode cX3_go 39 = .ok (.invokevirtual 77, 3) := by decide +kernel
theorem dX3_go_42 : decode cX3_go 42 = .ok (.putfield 23, 3) := by decide +kernel
theorem dX3_go_45 : decode cX3_go 45 = .ok (.iinc 3 1, 3) := by decide +kernel
theorem dX3_go_48 : decode cX3_go 48 = .ok (.goto (-46), 3) := by decide +kernel
theorem dX3_go_51 : decode cX3_go 51 = .ok (.return_, 1) := by decide +kernel
theorem dX3_goOne_0 : decode cX3_goOne 0 = .ok (.aload_n 0, 1) := by decide +kernel
theorem dX3_goOne_1 : decode cX3_goOne 1 = .ok (.getfield 26, 3) := by decide +kernel
theorem dX3_goOne_4 : decode cX3_goOne 4 = .ok (.iload_n 1, 1) := by decide +kernel
theorem dX3_goOne_5 : decode cX3_goOne 5 = .ok (.invokestatic 80, 3) := by decide +kernel
theorem dX3_goOne_8 : decode cX3_goOne 8 = .ok (.istore_n 2, 1) := by decide +kernel
theorem dX3_goOne_9 : decode cX3_goOne 9 = .ok (.aload_n 0, 1) := by decide +kernel
theorem dX3_goOne_10 : decode cX3_goOne 10 = .ok (.getfield 15, 3) := by decide +kernel
theorem dX3_goOne_13 : decode cX3_goOne 13 = .ok (.aload_n 0, 1) := by decide +kernel
theorem dX3_goOne_14 : decode cX3_goOne 14 = .ok (.getfield 26, 3) := by decide +kernel
theorem dX3_goOne_17 : decode cX3_goOne 17 = .ok (.iload_n 1, 1) := by decide +kernel
theorem dX3_goOne_18 : decode cX3_goOne 18 = .ok (.invokevirtual 84, 3) := by decide +kernel
theorem dX3_goOne_21 : decode cX3_goOne 21 = .ok (.iconst (-1), 1) := by decide +kernel
theorem dX3_goOne_22 : decode cX3_goOne 22 = .ok (.if_icmp .ne 7, 3) := by decide +kernel
theorem dX3_goOne_25 : decode cX3_goOne 25 = .ok (.iconst 1, 1) := by decide +kernel
theorem dX3_goOne_26 : decode cX3_goOne 26 = .ok (.goto 4, 3) := by decide +kernel
theorem dX3_goOne_29 : decode cX3_goOne 29 = .ok (.iconst 0, 1) := by decide +kernel
theorem dX3_goOne_30 : decode cX3_goOne 30 = .ok (.istore_n 3, 1) := by decide +kernel
theorem dX3_goOne_31 : decode cX3_goOne 31 = .ok (.iload_n 2, 1) := by decide +kernel
theorem dX3_goOne_32 : decode cX3_goOne 32 = .ok (.iconst (-1), 1) := by decide +kernel
theorem dX3_goOne_33 : decode cX3_goOne 33 = .ok (.if_icmp .ne 11, 3) := by decide +kernel
theorem dX3_goOne_36 : decode cX3_goOne 36 = .ok (.aload_n 0, 1) := by decide +kernel
theorem dX3_goOne_37 : decode cX3_goOne 37 = .ok (.iconst 5, 1) := by decide +kernel
theorem dX3_goOne_38 : decode cX3_goOne 38 = .ok (.putfield 19, 3) := by decide +kernel
theorem dX3_goOne_41 : decode cX3_goOne 41 = .ok (.goto 83, 3) := by decide +kernel
theorem dX3_goOne_44 : decode cX3_goOne 44 = .ok (.iload_n 3, 1) := by decide +kernel
theorem dX3_goOne_45 : decode cX3_goOne 45 = .ok (.ifCond .eq 24, 3) := by decide +kernel
theorem dX3_goOne_48 : decode cX3_goOne 48 = .ok (.aload_n 0, 1) := by decide +kernel
theorem dX3_goOne_49 : decode cX3_goOne 49 = .ok (.getfield 15, 3) := by decide +kernel
theorem dX3_goOne_52 : decode cX3_goOne 52 = .ok (.getfield 87, 3) := by decide +kernel
theorem dX3_goOne_55 : decode cX3_goOne 55 = .ok (.bipush 60, 2) := by decide +kernel
theorem dX3_goOne_57 : decode cX3_goOne 57 = .ok (.if_icmp .lt 12, 3) := by decide +kernel
theorem dX3_goOne_60 : decode cX3_goOne 60 = .ok (.aload_n 0, 1) := by decide +kernel
theorem dX3_goOne_61 : decode cX3_goOne 61 = .ok (.bipush 6, 2) := by decide +kernel
theorem dX3_goOne_63 : decode cX3_goOne 63 = .ok (.putfield 19, 3) := by decide +kernel
theorem dX3_goOne_66 : decode cX3_goOne 66 = .ok (.goto 58, 3) := by decide +kernel
theorem dX3_goOne_69 : decode cX3_goOne 69 = .ok (.aload_n 0, 1) := by decide +kernel
theorem dX3_goOne_70 : decode cX3_goOne 70 = .ok (.getfield 32, 3) := by decide +kernel
theorem dX3_goOne_73 : decode cX3_goOne 73 = .ok (.sipush 1000, 3) := by decide +kernel
theorem dX3_goOne_76 : decode cX3_goOne 76 = .ok (.if_icmp .lt 12, 3) := by decide +kernel
theorem dX3_goOne_79 : decode cX3_goOne 79 = .ok (.aload_n 0, 1) := by decide +kernel
theorem dX3_goOne_80 : decode cX3_goOne 80 = .ok (.bipush 7, 2) := by decide +kernel
theorem dX3_goOne_82 : decode cX3_goOne 82 = .ok (.putfield 19, 3) := by decide +kernel
theorem dX3_goOne_85 : decode cX3_goOne 85 = .ok (.goto 39, 3) := by decide +kernel
theorem dX3_goOne_88 : decode cX3_goOne 88 = .ok (.iload_n 3, 1) := by decide +kernel
theorem dX3_goOne_89 : decode cX3_goOne 89 = .ok (.ifCond .eq 20, 3) := by decide +kernel
theorem dX3_goOne_92 : decode cX3_goOne 92 = .ok (.aload_n 0, 1) := by decide +kernel
theorem dX3_goOne_93 : decode cX3_goOne 93 = .ok (.getfield 15, 3) := by decide +kernel
theorem dX3_goOne_96 : decode cX3_goOne 96 = .ok (.aload_n 0, 1) := by decide +kernel
theorem dX3_goOne_97 : decode cX3_goOne 97 = .ok (.getfield 26, 3) := by decide +kernel
theorem dX3_goOne_100 : decode cX3_goOne 100 = .ok (.iload_n 1, 1) := by decide +kernel
theorem dX3_goOne_101 : decode cX3_goOne 101 = .ok (.iload_n 2, 1) := by decide +kernel
theorem dX3_goOne_102 : decode cX3_goOne 102 = .ok (.aload_n 0, 1) := by decide +kernel
theorem dX3_goOne_103 : decode cX3_goOne 103 = .ok (.getfield 29, 3) := by decide +kernel
theorem dX3_goOne_106 : decode cX3_goOne 106 = .ok (.invokevirtual 90, 3) := by decide +kernel
theorem dX3_goOne_109 : decode cX3_goOne 109 = .ok (.aload_n 0, 1) := by decide +kernel
theorem dX3_goOne_110 : decode cX3_goOne 110 = .ok (.dup, 1) := by decide +kernel
theorem dX3_goOne_111 : decode cX3_goOne 111 = .ok (.getfield 32, 3) := by decide +kernel
theorem dX3_goOne_114 : decode cX3_goOne 114 = .ok (.iconst 1, 1) := by decide +kernel
theorem dX3_goOne_115 : decode cX3_goOne 115 = .ok (.iadd, 1) := by decide +kernel
theorem dX3_goOne_116 : decode cX3_goOne 116 = .ok (.putfield 32, 3) := by decide +kernel
theorem dX3_goOne_119 : decode cX3_goOne 119 = .ok (.aload_n 0, 1) := by decide +kernel
theorem dX3_goOne_120 : decode cX3_goOne 120 = .ok (.iload_n 2, 1) := by decide +kernel
theorem dX3_goOne_121 : decode cX3_goOne 121 = .ok (.putfield 26, 3) := by decide +kernel
theorem dX3_goOne_124 : decode cX3_goOne 124 = .ok (.return_, 1) := by decide +kernel
theorem dX4_init_0 : decode cX4_init 0 = .ok (.aload_n 0, 1) := by decide +kernel
theorem dX4_init_1 : decode cX4_init 1 = .ok (.invokespecial 3, 3) := by decide +kernel
theorem dX4_init_4 : decode cX4_init 4 = .ok (.aload_n 0, 1) := by decide +kernel
theorem dX4_init_5 : decode cX4_init 5 = .ok (.sipush 700, 3) := by decide +kernel
theorem dX4_init_8 : decode cX4_init 8 = .ok (.newarray .byte, 2) := by decide +kernel
theorem dX4_init_10 : decode cX4_init 10 = .ok (.putfield 9, 3) := by decide +kernel
theorem dX4_init_13 : decode cX4_init 13 = .ok (.aload_n 0, 1) := by decide +kernel
theorem dX4_init_14 : decode cX4_init 14 = .ok (.iconst 5, 1) := by decide +kernel
theorem dX4_init_15 : decode cX4_init 15 = .ok (.newarray .int, 2) := by decide +kernel
theorem dX4_init_17 : decode cX4_init 17 = .ok (.putfield 15, 3) := by decide +kernel
theorem dX4_init_20 : decode cX4_init 20 = .ok (.aload_n 0, 1) := by decide +kernel
theorem dX4_init_21 : decode cX4_init 21 = .ok (.aload_n 1, 1) := by decide +kernel
theorem dX4_init_22 : decode cX4_init 22 = .ok (.putfield 19, 3) := by decide +kernel
theorem dX4_init_25 : decode cX4_init 25 = .ok (.return_, 1) := by decide +kernel
theorem dX4_take_0 : decode cX4_take 0 = .ok (.bipush 24, 2) := by decide +kernel
theorem dX4_take_2 : decode cX4_take 2 = .ok (.istore_n 2, 1) := by decide +kernel
theorem dX4_take_3 : decode cX4_take 3 = .ok (.iload_n 2, 1) := by decide +kernel
theorem dX4_take_4 : decode cX4_take 4 = .ok (.ifCond .lt 51, 3) := by decide +kernel
theorem dX4_take_7 : decode cX4_take 7 = .ok (.aload_n 0, 1) := by decide +kernel
theorem dX4_take_8 : decode cX4_take 8 = .ok (.getfield 23, 3) := by decide +kernel
theorem dX4_take_11 : decode cX4_take 11 = .ok (.ifCond .lt 38, 3) := by decide +kernel
theorem dX4_take_14 : decode cX4_take 14 = .ok (.aload_n 0, 1) := by decide +kernel
theorem dX4_take_15 : decode cX4_take 15 = .ok (.getfield 23, 3) := by decide +kernel
theorem dX4_take_18 : decode cX4_take 18 = .ok (.aload_n 0, 1) := by decide +kernel
theorem dX4_take_19 : decode cX4_take 19 = .ok (.getfield 9, 3) := by decide +kernel
theorem dX4_take_22 : decode cX4_take 22 = .ok (.arraylength, 1) := by decide +kernel
theorem dX4_take_23 : decode cX4_take 23 = .ok (.if_icmp .ge 26, 3) := by decide +kernel
theorem dX4_take_26 : decode cX4_take 26 = .ok (.aload_n 0, 1) := by decide +kernel
theorem dX4_take_27 : decode cX4_take 27 = .ok (.getfield 9, 3) := by decide +kernel
theorem dX4_take_30 : decode cX4_take 30 = .ok (.aload_n 0, 1) := by decide +kernel
theorem dX4_take_31 : decode cX4_take 31 = .ok (.getfield 23, 3) := by decide +kernel
theorem dX4_take_34 : decode cX4_take 34 = .ok (.iload_n 1, 1) := by decide +kernel
theorem dX4_take_35 : decode cX4_take 35 = .ok (.iload_n 2, 1) := by decide +kernel
theorem dX4_take_36 : decode cX4_take 36 = .ok (.ishr, 1) := by decide +kernel
theorem dX4_take_37 : decode cX4_take 37 = .ok (.i2b, 1) := by decide +kernel
theorem dX4_take_38 : decode cX4_take 38 = .ok (.bastore, 1) := by decide +kernel
theorem dX4_take_39 : decode cX4_take 39 = .ok (.aload_n 0, 1) := by decide +kernel
theorem dX4_take_40 : decode cX4_take 40 = .ok (.dup, 1) := by decide +kernel
theorem dX4_take_41 : decode cX4_take 41 = .ok (.getfield 23, 3) := by decide +kernel
theorem dX4_take_44 : decode cX4_take 44 = .ok (.iconst 1, 1) := by decide +kernel
theorem dX4_take_45 : decode cX4_take 45 = .ok (.iadd, 1) := by decide +kernel
theorem dX4_take_46 : decode cX4_take 46 = .ok (.putfield 23, 3) := by decide +kernel
theorem dX4_take_49 : decode cX4_take 49 = .ok (.iinc 2 (-8), 3) := by decide +kernel
theorem dX4_take_52 : decode cX4_take 52 = .ok (.goto (-49), 3) := by decide +kernel
theorem dX4_take_55 : decode cX4_take 55 = .ok (.return_, 1) := by decide +kernel
theorem dX4_read_0 : decode cX4_read 0 = .ok (.aload_n 0, 1) := by decide +kernel
theorem dX4_read_1 : decode cX4_read 1 = .ok (.iconst 0, 1) := by decide +kernel
theorem dX4_read_2 : decode cX4_read 2 = .ok (.putfield 23, 3) := by decide +kernel
theorem dX4_read_5 : decode cX4_read 5 = .ok (.aload_n 0, 1) := by decide +kernel
theorem dX4_read_6 : decode cX4_read 6 = .ok (.iload_n 1, 1) := by decide +kernel
theorem dX4_read_7 : decode cX4_read 7 = .ok (.aload_n 0, 1) := by decide +kernel
theorem dX4_read_8 : decode cX4_read 8 = .ok (.getfield 9, 3) := by decide +kernel
theorem dX4_read_11 : decode cX4_read 11 = .ok (.arraylength, 1) := by decide +kernel
theorem dX4_read_12 : decode cX4_read 12 = .ok (.invokestatic 27, 3) := by decide +kernel
theorem dX4_read_15 : decode cX4_read 15 = .ok (.putfield 33, 3) := by decide +kernel
theorem dX4_read_18 : decode cX4_read 18 = .ok (.aload_n 0, 1) := by decide +kernel
theorem dX4_read_19 : decode cX4_read 19 = .ok (.iconst 0, 1) := by decide +kernel
theorem dX4_read_20 : decode cX4_read 20 = .ok (.putfield 36, 3) := by decide +kernel
theorem dX4_read_23 : decode cX4_read 23 = .ok (.aload_n 0, 1) := by decide +kernel
theorem dX4_read_24 : decode cX4_read 24 = .ok (.iconst 0, 1) := by decide +kernel
theorem dX4_read_25 : decode cX4_read 25 = .ok (.putfield 39, 3) := by decide +kernel
theorem dX4_read_28 : decode cX4_read 28 = .ok (.aload_n 0, 1) := by decide +kernel
theorem dX4_read_29 : decode cX4_read 29 = .ok (.iconst 0, 1) := by decide +kernel
theorem dX4_read_30 : decode cX4_read 30 = .ok (.putfield 42, 3) := by decide +kernel
theorem dX4_read_33 : decode cX4_read 33 = .ok (.aload_n 0, 1) := by decide +kernel
theorem dX4_read_34 : decode cX4_read 34 = .ok (.iconst (-1), 1) := by decide +kernel
theorem dX4_read_35 : decode cX4_read 35 = .ok (.putfield 45, 3) := by decide +kernel
theorem dX4_read_38 : decode cX4_read 38 = .ok (.aload_n 0, 1) := by decide +kernel
theorem dX4_read_39 : decode cX4_read 39 = .ok (.getfield 19, 3) := by decide +kernel
theorem dX4_read_42 : decode cX4_read 42 = .ok (.invokevirtual 48, 3) := by decide +kernel
theorem dX4_read_45 : decode cX4_read 45 = .ok (.iconst 0, 1) := by decide +kernel
theorem dX4_read_46 : decode cX4_read 46 = .ok (.istore_n 2, 1) := by decide +kernel
theorem dX4_read_47 : decode cX4_read 47 = .ok (.iload_n 2, 1) := by decide +kernel
theorem dX4_read_48 : decode cX4_read 48 = .ok (.aload_n 0, 1) := by decide +kernel
theorem dX4_read_49 : decode cX4_read 49 = .ok (.getfield 33, 3) := by decide +kernel
theorem dX4_read_52 : decode cX4_read 52 = .ok (.if_icmp .gt 103, 3) := by decide +kernel
theorem dX4_read_55 : decode cX4_read 55 = .ok (.aload_n 0, 1) := by decide +kernel
theorem dX4_read_56 : decode cX4_read 56 = .ok (.getfield 42, 3) := by decide +kernel
theorem dX4_read_59 : decode cX4_read 59 = .ok (.ifCond .ne 96, 3) := by decide +kernel
theorem dX4_read_62 : decode cX4_read 62 = .ok (.aload_n 0, 1) := by decide +kernel
theorem dX4_read_63 : decode cX4_read 63 = .ok (.invokevirtual 53, 3) := by decide +kernel
theorem dX4_read_66 : decode cX4_read 66 = .ok (.aload_n 0, 1) := by decide +kernel
theorem dX4_read_67 : decode cX4_read 67 = .ok (.getfield 56, 3) := by decide +kernel
theorem dX4_read_70 : decode cX4_read 70 = .ok (.ifCond .ne 11, 3) := by decide +kernel
theorem dX4_read_73 : decode cX4_read 73 = .ok (.aload_n 0, 1) := by decide +kernel
theorem dX4_read_74 : decode cX4_read 74 = .ok (.getfield 39, 3) := by decide +kernel
theorem dX4_read_77 : decode cX4_read 77 = .ok (.ifCond .ne 4, 3) := by decide +kernel
theorem dX4_read_80 : decode cX4_read 80 = .ok (.return_, 1) := by decide +kernel
theorem dX4_read_81 : decode cX4_read 81 = .ok (.aload_n 0, 1) := by decide +kernel
theorem dX4_read_82 : decode cX4_read 82 = .ok (.getfield 56, 3) := by decide +kernel
theorem dX4_read_85 : decode cX4_read 85 = .ok (.iconst 1, 1) := by decide +kernel
theorem dX4_read_86 : decode cX4_read 86 = .ok (.if_icmp .ne 10, 3) := by decide +kernel
theorem dX4_read_89 : decode cX4_read 89 = .ok (.aload_n 0, 1) := by decide +kernel
theorem dX4_read_90 : decode cX4_read 90 = .ok (.invokevirtual 59, 3) := by decide +kernel
theorem dX4_read_93 : decode cX4_read 93 = .ok (.goto 4, 3) := by decide +kernel
theorem dX4_read_96 : decode cX4_read 96 = .ok (.iconst (-1), 1) := by decide +kernel
theorem dX4_read_97 : decode cX4_read 97 = .ok (.istore_n 3, 1) := by decide +kernel
theorem dX4_read_98 : decode cX4_read 98 = .ok (.aload_n 0, 1) := by decide +kernel
theorem dX4_read_99 : decode cX4_read 99 = .ok (.getfield 56, 3) := by decide +kernel
theorem dX4_read_102 : decode cX4_read 102 = .ok (.bipush 41, 2) := by decide +kernel
theorem dX4_read_104 : decode cX4_read 104 = .ok (.if_icmp .ne 23, 3) := by decide +kernel
theorem dX4_read_107 : decode cX4_read 107 = .ok (.aload_n 0, 1) := by decide +kernel
theorem dX4_read_108 : decode cX4_read 108 = .ok (.getfield 39, 3) := by decide +kernel
theorem dX4_read_111 : decode cX4_read 111 = .ok (.ifCond .le 16, 3) := by decide +kernel
theorem dX4_read_114 : decode cX4_read 114 = .ok (.aload_n 0, 1) := by decide +kernel
theorem dX4_read_115 : decode cX4_read 115 = .ok (.bipush 59, 2) := by decide +kernel
theorem dX4_read_117 : decode cX4_read 117 = .ok (.invokevirtual 63, 3) := by decide +kernel
theorem dX4_read_120 : decode cX4_read 120 = .ok (.aload_n 0, 1) := by decide +kernel
theorem dX4_read_121 : decode cX4_read 121 = .ok (.invokevirtual 67, 3) := by decide +kernel
theorem dX4_read_124 : decode cX4_read 124 = .ok (.goto 25, 3) := by decide +kernel
theorem dX4_read_127 : decode cX4_read 127 = .ok (.iload_n 3, 1) := by decide +kernel
theorem dX4_read_128 : decode cX4_read 128 = .ok (.iconst (-1), 1) := by decide +kernel
theorem dX4_read_129 : decode cX4_read 129 = .ok (.if_icmp .eq 15, 3) := by decide +kernel
theorem dX4_read_132 : decode cX4_read 132 = .ok (.aload_n 0, 1) := by decide +kernel
theorem dX4_read_133 : decode cX4_read 133 = .ok (.iload_n 3, 1) := by decide +kernel
theorem dX4_read_134 : decode cX4_read 134 = .ok (.aload_n 0, 1) := by decide +kernel
theorem dX4_read_135 : decode cX4_read 135 = .ok (.getfield 70, 3) := by decide +kernel
theorem dX4_read_138 : decode cX4_read 138 = .ok (.invokevirtual 73, 3) := by decide +kernel
theorem dX4_read_141 : decode cX4_read 141 = .ok (.goto 8, 3) := by decide +kernel
theorem dX4_read_144 : decode cX4_read 144 = .ok (.aload_n 0, 1) := by decide +kernel
theorem dX4_read_145 : decode cX4_read 145 = .ok (.iconst 2, 1) := by decide +kernel
theorem dX4_read_146 : decode cX4_read 146 = .ok (.invokevirtual 77, 3) := by decide +kernel
theorem dX4_read_149 : decode cX4_read 149 = .ok (.iinc 2 1, 3) := by decide +kernel
theorem dX4_read_152 : decode cX4_read 152 = .ok (.goto (-105), 3) := by decide +kernel
theorem dX4_read_155 : decode cX4_read 155 = .ok (.return_, 1) := by decide +kernel
theorem dX4_fail_0 : decode cX4_fail 0 = .ok (.aload_n 0, 1) := by decide +kernel
theorem dX4_fail_1 : decode cX4_fail 1 = .ok (.getfield 42, 3) := by decide +kernel
theorem dX4_fail_4 : decode cX4_fail 4 = .ok (.ifCond .ne 16, 3) := by decide +kernel
theorem dX4_fail_7 : decode cX4_fail 7 = .ok (.aload_n 0, 1) := by decide +kernel
theorem dX4_fail_8 : decode cX4_fail 8 = .ok (.iload_n 1, 1) := by decide +kernel
theorem dX4_fail_9 : decode cX4_fail 9 = .ok (.putfield 42, 3) := by decide +kernel
theorem dX4_fail_12 : decode cX4_fail 12 = .ok (.aload_n 0, 1) := by decide +kernel
theorem dX4_fail_13 : decode cX4_fail 13 = .ok (.aload_n 0, 1) := by decide +kernel
theorem dX4_fail_14 : decode cX4_fail 14 = .ok (.getfield 70, 3) := by decide +kernel
theorem dX4_fail_17 : decode cX4_fail 17 = .ok (.putfield 45, 3) := by decide +kernel
theorem dX4_fail_20 : decode cX4_fail 20 = .ok (.return_, 1) := by decide +kernel
theorem dX4_worded_0 : decode cX4_worded 0 = .ok (.iconst 1, 1) := by decide +kernel
theorem dX4_worded_1 : decode cX4_worded 1 = .ok (.istore_n 3, 1) := by decide +kernel
theorem dX4_worded_2 : decode cX4_worded 2 = .ok (.iconst 0, 1) := by decide +kernel
theorem dX4_worded_3 : decode cX4_worded 3 = .ok (.istore 4, 2) := by decide +kernel
theorem dX4_worded_5 : decode cX4_worded 5 = .ok (.iload_n 1, 1) := by decide +kernel
theorem dX4_worded_6 : decode cX4_worded 6 = .ok (.bipush 8, 2) := by decide +kernel
theorem dX4_worded_8 : decode cX4_worded 8 = .ok (.if_icmp .ge 14, 3) := by decide +kernel
theorem dX4_worded_11 : decode cX4_worded 11 = .ok (.aload_n 0, 1) := by decide +kernel
theorem dX4_worded_12 : decode cX4_worded 12 = .ok (.iconst 1, 1) := by decide +kernel
theorem dX4_worded_13 : decode cX4_worded 13 = .ok (.bipush 11, 2) := by decide +kernel
theorem dX4_worded_15 : decode cX4_worded 15 = .ok (.invokevirtual 80, 3) := by decide +kernel
theorem dX4_worded_18 : decode cX4_worded 18 = .ok (.istore_n 3, 1) := by decide +kernel
theorem dX4_worded_19 : decode cX4_worded 19 = .ok (.goto 59, 3) := by decide +kernel
theorem dX4_worded_22 : decode cX4_worded 22 = .ok (.iload_n 1, 1) := by decide +kernel
theorem dX4_worded_23 : decode cX4_worded 23 = .ok (.bipush 9, 2) := by decide +kernel
theorem dX4_worded_25 : decode cX4_worded 25 = .ok (.if_icmp .ne 13, 3) := by decide +kernel
theorem dX4_worded_28 : decode cX4_worded 28 = .ok (.aload_n 0, 1) := by decide +kernel
theorem dX4_worded_29 : decode cX4_worded 29 = .ok (.iconst 0, 1) := by decide +kernel
theorem dX4_worded_30 : decode cX4_worded 30 = .ok (.iconst 3, 1) := by decide +kernel
theorem dX4_worded_31 : decode cX4_worded 31 = .ok (.invokevirtual 80, 3) := by decide +kernel
theorem dX4_worded_34 : decode cX4_worded 34 = .ok (.istore_n 3, 1) := by decide +kernel
theorem dX4_worded_35 : decode cX4_worded 35 = .ok (.goto 43, 3) := by decide +kernel
theorem dX4_worded_38 : decode cX4_worded 38 = .ok (.iload_n 1, 1) := by decide +kernel
theorem dX4_worded_39 : decode cX4_worded 39 = .ok (.bipush 11, 2) := by decide +kernel
theorem dX4_worded_41 : decode cX4_worded 41 = .ok (.if_icmp .ne 14, 3) := by decide +kernel
theorem dX4_worded_44 : decode cX4_worded 44 = .ok (.aload_n 0, 1) := by decide +kernel
theorem dX4_worded_45 : decode cX4_worded 45 = .ok (.iconst 1, 1) := by decide +kernel
theorem dX4_worded_46 : decode cX4_worded 46 = .ok (.bipush 12, 2) := by decide +kernel
theorem dX4_worded_48 : decode cX4_worded 48 = .ok (.invokevirtual 80, 3) := by decide +kernel
theorem dX4_worded_51 : decode cX4_worded 51 = .ok (.istore_n 3, 1) := by decide +kernel
theorem dX4_worded_52 : decode cX4_worded 52 = .ok (.goto 26, 3) := by decide +kernel
theorem dX4_worded_55 : decode cX4_worded 55 = .ok (.iload_n 1, 1) := by decide +kernel
theorem dX4_worded_56 : decode cX4_worded 56 = .ok (.bipush 11, 2) := by decide +kernel
theorem dX4_worded_58 : decode cX4_worded 58 = .ok (.if_icmp .ge 20, 3) := by decide +kernel
theorem dX4_worded_61 : decode cX4_worded 61 = .ok (.aload_n 0, 1) := by decide +kernel
theorem dX4_worded_62 : decode cX4_worded 62 = .ok (.iconst 0, 1) := by decide +kernel
theorem dX4_worded_63 : decode cX4_worded 63 = .ok (.bipush 11, 2) := by decide +kernel
theorem dX4_worded_65 : decode cX4_worded 65 = .ok (.invokevirtual 80, 3) := by decide +kernel
theorem dX4_worded_68 : decode cX4_worded 68 = .ok (.istore_n 3, 1) := by decide +kernel
theorem dX4_worded_69 : decode cX4_worded 69 = .ok (.aload_n 0, 1) := by decide +kernel
theorem dX4_worded_70 : decode cX4_worded 70 = .ok (.iconst 0, 1) := by decide +kernel
theorem dX4_worded_71 : decode cX4_worded 71 = .ok (.bipush 11, 2) := by decide +kernel
theorem dX4_worded_73 : decode cX4_worded 73 = .ok (.invokevirtual 80, 3) := by decide +kernel
theorem dX4_worded_76 : decode cX4_worded 76 = .ok (.istore 4, 2) := by decide +kernel
theorem dX4_worded_78 : decode cX4_worded 78 = .ok (.aload_n 0, 1) := by decide +kernel
theorem dX4_worded_79 : decode cX4_worded 79 = .ok (.iload_n 1, 1) := by decide +kernel
theorem dX4_worded_80 : decode cX4_worded 80 = .ok (.bipush 11, 2) := by decide +kernel
theorem dX4_worded_82 : decode cX4_worded 82 = .ok (.if_icmp .ge 8, 3) := by decide +kernel
theorem dX4_worded_85 : decode cX4_worded 85 = .ok (.bipush 59, 2) := by decide +kernel
theorem dX4_worded_87 : decode cX4_worded 87 = .ok (.goto 5, 3) := by decide +kernel
theorem dX4_worded_90 : decode cX4_worded 90 = .ok (.bipush 40, 2) := by decide +kernel
theorem dX4_worded_92 : decode cX4_worded 92 = .ok (.invokevirtual 63, 3) := by decide +kernel
theorem dX4_worded_95 : decode cX4_worded 95 = .ok (.iload_n 1, 1) := by decide +kernel
theorem dX4_worded_96 : decode cX4_worded 96 = .ok (.bipush 11, 2) := by decide +kernel
theorem dX4_worded_98 : decode cX4_worded 98 = .ok (.if_icmp .lt 7, 3) := by decide +kernel
theorem dX4_worded_101 : decode cX4_worded 101 = .ok (.aload_n 0, 1) := by decide +kernel
theorem dX4_worded_102 : decode cX4_worded 102 = .ok (.invokevirtual 83, 3) := by decide +kernel
theorem dX4_worded_105 : decode cX4_worded 105 = .ok (.aload_n 0, 1) := by decide +kernel
theorem dX4_worded_106 : decode cX4_worded 106 = .ok (.getfield 42, 3) := by decide +kernel
theorem dX4_worded_109 : decode cX4_worded 109 = .ok (.ifCond .ne 15, 3) := by decide +kernel
theorem dX4_worded_112 : decode cX4_worded 112 = .ok (.aload_n 0, 1) := by decide +kernel
theorem dX4_worded_113 : decode cX4_worded 113 = .ok (.getfield 19, 3) := by decide +kernel
theorem dX4_worded_116 : decode cX4_worded 116 = .ok (.iload_n 1, 1) := by decide +kernel
theorem dX4_worded_117 : decode cX4_worded 117 = .ok (.iload_n 3, 1) := by decide +kernel
theorem dX4_worded_118 : decode cX4_worded 118 = .ok (.iload 4, 2) := by decide +kernel
theorem dX4_worded_120 : decode cX4_worded 120 = .ok (.iload_n 2, 1) := by decide +kernel
theorem dX4_worded_121 : decode cX4_worded 121 = .ok (.invokevirtual 86, 3) := by decide +kernel
theorem dX4_worded_124 : decode cX4_worded 124 = .ok (.return_, 1) := by decide +kernel
theorem dX4_openBlock_0 : decode cX4_openBlock 0 = .ok (.aload_n 0, 1) := by decide +kernel
theorem dX4_openBlock_1 : decode cX4_openBlock 1 = .ok (.getfield 39, 3) := by decide +kernel
theorem dX4_openBlock_4 : decode cX4_openBlock 4 = .ok (.ifCond .lt 15, 3) := by decide +kernel
theorem dX4_openBlock_7 : decode cX4_openBlock 7 = .ok (.aload_n 0, 1) := by decide +kernel
theorem dX4_openBlock_8 : decode cX4_openBlock 8 = .ok (.getfield 39, 3) := by decide +kernel
theorem dX4_openBlock_11 : decode cX4_openBlock 11 = .ok (.aload_n 0, 1) := by decide +kernel
theorem dX4_openBlock_12 : decode cX4_openBlock 12 = .ok (.getfield 15, 3) := by decide +kernel
theorem dX4_openBlock_15 : decode cX4_openBlock 15 = .ok (.arraylength, 1) := by decide +kernel
theorem dX4_openBlock_16 : decode cX4_openBlock 16 = .ok (.if_icmp .lt 9, 3) := by decide +kernel
theorem dX4_openBlock_19 : decode cX4_openBlock 19 = .ok (.aload_n 0, 1) := by decide +kernel
theorem dX4_openBlock_20 : decode cX4_openBlock 20 = .ok (.iconst 4, 1) := by decide +kernel
theorem dX4_openBlock_21 : decode cX4_openBlock 21 = .ok (.invokevirtual 77, 3) := by decide +kernel
theorem dX4_openBlock_24 : decode cX4_openBlock 24 = .ok (.return_, 1) := by decide +kernel
theorem dX4_openBlock_25 : decode cX4_openBlock 25 = .ok (.aload_n 0, 1) := by decide +kernel
theorem dX4_openBlock_26 : decode cX4_openBlock 26 = .ok (.getfield 15, 3) := by decide +kernel
theorem dX4_openBlock_29 : decode cX4_openBlock 29 = .ok (.aload_n 0, 1) := by decide +kernel
theorem dX4_openBlock_30 : decode cX4_openBlock 30 = .ok (.getfield 39, 3) := by decide +kernel
theorem dX4_openBlock_33 : decode cX4_openBlock 33 = .ok (.aload_n 0, 1) := by decide +kernel
theorem dX4_openBlock_34 : decode cX4_openBlock 34 = .ok (.getfield 19, 3) := by decide +kernel
theorem dX4_openBlock_37 : decode cX4_openBlock 37 = .ok (.getfield 90, 3) := by decide +kernel
theorem dX4_openBlock_40 : decode cX4_openBlock 40 = .ok (.iastore, 1) := by decide +kernel
theorem dX4_openBlock_41 : decode cX4_openBlock 41 = .ok (.aload_n 0, 1) := by decide +kernel
theorem dX4_openBlock_42 : decode cX4_openBlock 42 = .ok (.dup, 1) := by decide +kernel
theorem dX4_openBlock_43 : decode cX4_openBlock 43 = .ok (.getfield 39, 3) := by decide +kernel
theorem dX4_openBlock_46 : decode cX4_openBlock 46 = .ok (.iconst 1, 1) := by decide +kernel
theorem dX4_openBlock_47 : decode cX4_openBlock 47 = .ok (.iadd, 1) := by decide +kernel
theorem dX4_openBlock_48 : decode cX4_openBlock 48 = .ok (.putfield 39, 3) := by decide +kernel
theorem dX4_openBlock_51 : decode cX4_openBlock 51 = .ok (.return_, 1) := by decide +kernel
theorem dX4_closeBlock_0 : decode cX4_closeBlock 0 = .ok (.aload_n 0, 1) := by decide +kernel
theorem dX4_closeBlock_1 : decode cX4_closeBlock 1 = .ok (.dup, 1) := by decide +kernel
theorem dX4_closeBlock_2 : decode cX4_closeBlock 2 = .ok (.getfield 39, 3) := by decide +kernel
theorem dX4_closeBlock_5 : decode cX4_closeBlock 5 = .ok (.iconst 1, 1) := by decide +kernel
theorem dX4_closeBlock_6 : decode cX4_closeBlock 6 = .ok (.isub, 1) := by decide +kernel
theorem dX4_closeBlock_7 : decode cX4_closeBlock 7 = .ok (.putfield 39, 3) := by decide +kernel
theorem dX4_closeBlock_10 : decode cX4_closeBlock 10 = .ok (.aload_n 0, 1) := by decide +kernel
theorem dX4_closeBlock_11 : decode cX4_closeBlock 11 = .ok (.getfield 39, 3) := by decide +kernel
theorem dX4_closeBlock_14 : decode cX4_closeBlock 14 = .ok (.ifCond .lt 31, 3) := by decide +kernel
theorem dX4_closeBlock_17 : decode cX4_closeBlock 17 = .ok (.aload_n 0, 1) := by decide +kernel
theorem dX4_closeBlock_18 : decode cX4_closeBlock 18 = .ok (.getfield 39, 3) := by decide +kernel
theorem dX4_closeBlock_21 : decode cX4_closeBlock 21 = .ok (.aload_n 0, 1) := by decide +kernel
theorem dX4_closeBlock_22 : decode cX4_closeBlock 22 = .ok (.getfield 15, 3) := by decide +kernel
theorem dX4_closeBlock_25 : decode cX4_closeBlock 25 = .ok (.arraylength, 1) := by decide +kernel
theorem dX4_closeBlock_26 : decode cX4_closeBlock 26 = .ok (.if_icmp .ge 19, 3) := by decide +kernel
theorem dX4_closeBlock_29 : decode cX4_closeBlock 29 = .ok (.aload_n 0, 1) := by decide +kernel
theorem dX4_closeBlock_30 : decode cX4_closeBlock 30 = .ok (.getfield 19, 3) := by decide +kernel
theorem dX4_closeBlock_33 : decode cX4_closeBlock 33 = .ok (.aload_n 0, 1) := by decide +kernel
theorem dX4_closeBlock_34 : decode cX4_closeBlock 34 = .ok (.getfield 15, 3) := by decide +kernel
theorem dX4_closeBlock_37 : decode cX4_closeBlock 37 = .ok (.aload_n 0, 1) := by decide +kernel
theorem dX4_closeBlock_38 : decode cX4_closeBlock 38 = .ok (.getfield 39, 3) := by decide +kernel
theorem dX4_closeBlock_41 : decode cX4_closeBlock 41 = .ok (.iaload, 1) := by decide +kernel
theorem dX4_closeBlock_42 : decode cX4_closeBlock 42 = .ok (.invokevirtual 93, 3) := by decide +kernel
theorem dX4_closeBlock_45 : decode cX4_closeBlock 45 = .ok (.return_, 1) := by decide +kernel
theorem dX4_sign_0 : decode cX4_sign 0 = .ok (.aload_n 0, 1) := by decide +kernel
theorem dX4_sign_1 : decode cX4_sign 1 = .ok (.invokevirtual 53, 3) := by decide +kernel
theorem dX4_sign_4 : decode cX4_sign 4 = .ok (.aload_n 0, 1) := by decide +kernel
theorem dX4_sign_5 : decode cX4_sign 5 = .ok (.getfield 56, 3) := by decide +kernel
theorem dX4_sign_8 : decode cX4_sign 8 = .ok (.iload_n 1, 1) := by decide +kernel
theorem dX4_sign_9 : decode cX4_sign 9 = .ok (.if_icmp .eq 8, 3) := by decide +kernel
theorem dX4_sign_12 : decode cX4_sign 12 = .ok (.aload_n 0, 1) := by decide +kernel
theorem dX4_sign_13 : decode cX4_sign 13 = .ok (.iconst 2, 1) := by decide +kernel
theorem dX4_sign_14 : decode cX4_sign 14 = .ok (.invokevirtual 77, 3) := by decide +kernel
theorem dX4_sign_17 : decode cX4_sign 17 = .ok (.return_, 1) := by decide +kernel
theorem dX4_number_0 : decode cX4_number 0 = .ok (.aload_n 0, 1) := by decide +kernel
theorem dX4_number_1 : decode cX4_number 1 = .ok (.invokevirtual 53, 3) := by decide +kernel
theorem dX4_number_4 : decode cX4_number 4 = .ok (.aload_n 0, 1) := by decide +kernel
theorem dX4_number_5 : decode cX4_number 5 = .ok (.getfield 56, 3) := by decide +kernel
theorem dX4_number_8 : decode cX4_number 8 = .ok (.iconst 2, 1) := by decide +kernel
theorem dX4_number_9 : decode cX4_number 9 = .ok (.if_icmp .eq 11, 3) := by decide +kernel
theorem dX4_number_12 : decode cX4_number 12 = .ok (.aload_n 0, 1) := by decide +kernel
theorem dX4_number_13 : decode cX4_number 13 = .ok (.iconst 2, 1) := by decide +kernel
theorem dX4_number_14 : decode cX4_number 14 = .ok (.invokevirtual 77, 3) := by decide +kernel
theorem dX4_number_17 : decode cX4_number 17 = .ok (.goto 24, 3) := by decide +kernel
theorem dX4_number_20 : decode cX4_number 20 = .ok (.aload_n 0, 1) := by decide +kernel
theorem dX4_number_21 : decode cX4_number 21 = .ok (.getfield 96, 3) := by decide +kernel
theorem dX4_number_24 : decode cX4_number 24 = .ok (.iload_n 1, 1) := by decide +kernel
theorem dX4_number_25 : decode cX4_number 25 = .ok (.if_icmp .lt 11, 3) := by decide +kernel
theorem dX4_number_28 : decode cX4_number 28 = .ok (.aload_n 0, 1) := by decide +kernel
theorem dX4_number_29 : decode cX4_number 29 = .ok (.getfield 96, 3) := by decide +kernel
theorem dX4_number_32 : decode cX4_number 32 = .ok (.iload_n 2, 1) := by decide +kernel
theorem dX4_number_33 : decode cX4_number 33 = .ok (.if_icmp .le 8, 3) := by decide +kernel
theorem dX4_number_36 : decode cX4_number 36 = .ok (.aload_n 0, 1) := by decide +kernel
theorem dX4_number_37 : decode cX4_number 37 = .ok (.iconst 3, 1) := by decide +kernel
theorem dX4_number_38 : decode cX4_number 38 = .ok (.invokevirtual 77, 3) := by decide +kernel
theorem dX4_number_41 : decode cX4_number 41 = .ok (.aload_n 0, 1) := by decide +kernel
theorem dX4_number_42 : decode cX4_number 42 = .ok (.getfield 96, 3) := by decide +kernel
theorem dX4_number_45 : decode cX4_number 45 = .ok (.ireturn, 1) := by decide +kernel
theorem dX4_token_0 : decode cX4_token 0 = .ok (.aload_n 0, 1) := by decide +kernel
theorem dX4_token_1 : decode cX4_token 1 = .ok (.getfield 42, 3) := by decide +kernel
theorem dX4_token_4 : decode cX4_token 4 = .ok (.ifCond .eq 4, 3) := by decide +kernel
theorem dX4_token_7 : decode cX4_token 7 = .ok (.return_, 1) := by decide +kernel
theorem dX4_token_8 : decode cX4_token 8 = .ok (.aload_n 0, 1) := by decide +kernel
theorem dX4_token_9 : decode cX4_token 9 = .ok (.invokevirtual 99, 3) := by decide +kernel
theorem dX4_token_12 : decode cX4_token 12 = .ok (.aload_n 0, 1) := by decide +kernel
theorem dX4_token_13 : decode cX4_token 13 = .ok (.aload_n 0, 1) := by decide +kernel
theorem dX4_token_14 : decode cX4_token 14 = .ok (.getfield 36, 3) := by decide +kernel
theorem dX4_token_17 : decode cX4_token 17 = .ok (.putfield 70, 3) := by decide +kernel
theorem dX4_token_20 : decode cX4_token 20 = .ok (.aload_n 0, 1) := by decide +kernel
theorem dX4_token_21 : decode cX4_token 21 = .ok (.aload_n 0, 1) := by decide +kernel
theorem dX4_token_22 : decode cX4_token 22 = .ok (.getfield 36, 3) := by decide +kernel
theorem dX4_token_25 : decode cX4_token 25 = .ok (.invokevirtual 102, 3) := by decide +kernel
theorem dX4_token_28 : decode cX4_token 28 = .ok (.istore_n 1, 1) := by decide +kernel
theorem dX4_token_29 : decode cX4_token 29 = .ok (.aload_n 0, 1) := by decide +kernel
theorem dX4_token_30 : decode cX4_token 30 = .ok (.getfield 36, 3) := by decide +kernel
theorem dX4_token_33 : decode cX4_token 33 = .ok (.aload_n 0, 1) := by decide +kernel
theorem dX4_token_34 : decode cX4_token 34 = .ok (.getfield 33, 3) := by decide +kernel
theorem dX4_token_37 : decode cX4_token 37 = .ok (.if_icmp .lt 11, 3) := by decide +kernel
theorem dX4_token_40 : decode cX4_token 40 = .ok (.aload_n 0, 1) := by decide +kernel
theorem dX4_token_41 : decode cX4_token 41 = .ok (.iconst 0, 1) := by decide +kernel
theorem dX4_token_42 : decode cX4_token 42 = .ok (.putfield 56, 3) := by decide +kernel
theorem dX4_token_45 : decode cX4_token 45 = .ok (.goto 68, 3) := by decide +kernel
theorem dX4_token_48 : decode cX4_token 48 = .ok (.iload_n 1, 1) := by decide +kernel
theorem dX4_token_49 : decode cX4_token 49 = .ok (.invokestatic 106, 3) := by decide +kernel
theorem dX4_token_52 : decode cX4_token 52 = .ok (.ifCond .eq 10, 3) := by decide +kernel
theorem dX4_token_55 : decode cX4_token 55 = .ok (.aload_n 0, 1) := by decide +kernel
theorem dX4_token_56 : decode cX4_token 56 = .ok (.invokevirtual 110, 3) := by decide +kernel
theorem dX4_token_59 : decode cX4_token 59 = .ok (.goto 54, 3) := by decide +kernel
theorem dX4_token_62 : decode cX4_token 62 = .ok (.iload_n 1, 1) := by decide +kernel
theorem dX4_token_63 : decode cX4_token 63 = .ok (.invokestatic 113, 3) := by decide +kernel
theorem dX4_token_66 : decode cX4_token 66 = .ok (.ifCond .eq 10, 3) := by decide +kernel
theorem dX4_token_69 : decode cX4_token 69 = .ok (.aload_n 0, 1) := by decide +kernel
theorem dX4_token_70 : decode cX4_token 70 = .ok (.invokevirtual 116, 3) := by decide +kernel
theorem dX4_token_73 : decode cX4_token 73 = .ok (.goto 40, 3) := by decide +kernel
theorem dX4_token_76 : decode cX4_token 76 = .ok (.aload_n 0, 1) := by decide +kernel
theorem dX4_token_77 : decode cX4_token 77 = .ok (.iload_n 1, 1) := by decide +kernel
theorem dX4_token_78 : decode cX4_token 78 = .ok (.bipush 59, 2) := by decide +kernel
theorem dX4_token_80 : decode cX4_token 80 = .ok (.if_icmp .eq 15, 3) := by decide +kernel
theorem dX4_token_83 : decode cX4_token 83 = .ok (.iload_n 1, 1) := by decide +kernel
theorem dX4_token_84 : decode cX4_token 84 = .ok (.bipush 40, 2) := by decide +kernel
theorem dX4_token_86 : decode cX4_token 86 = .ok (.if_icmp .eq 9, 3) := by decide +kernel
theorem dX4_token_89 : decode cX4_token 89 = .ok (.iload_n 1, 1) := by decide +kernel
theorem dX4_token_90 : decode cX4_token 90 = .ok (.bipush 41, 2) := by decide +kernel
theorem dX4_token_92 : decode cX4_token 92 = .ok (.if_icmp .ne 7, 3) := by decide +kernel
theorem dX4_token_95 : decode cX4_token 95 = .ok (.iload_n 1, 1) := by decide +kernel
theorem dX4_token_96 : decode cX4_token 96 = .ok (.goto 4, 3) := by decide +kernel
theorem dX4_token_99 : decode cX4_token 99 = .ok (.iconst 3, 1) := by decide +kernel
theorem dX4_token_100 : decode cX4_token 100 = .ok (.putfield 56, 3) := by decide +kernel
theorem dX4_token_103 : decode cX4_token 103 = .ok (.aload_n 0, 1) := by decide +kernel
theorem dX4_token_104 : decode cX4_token 104 = .ok (.dup, 1) := by decide +kernel
theorem dX4_token_105 : decode cX4_token 105 = .ok (.getfield 36, 3) := by decide +kernel
theorem dX4_token_108 : decode cX4_token 108 = .ok (.iconst 1, 1) := by decide +kernel
theorem dX4_token_109 : decode cX4_token 109 = .ok (.iadd, 1) := by decide +kernel
theorem dX4_token_110 : decode cX4_token 110 = .ok (.putfield 36, 3) := by decide +kernel
theorem dX4_token_113 : decode cX4_token 113 = .ok (.aload_n 0, 1) := by decide +kernel
theorem dX4_token_114 : decode cX4_token 114 = .ok (.getfield 56, 3) := by decide +kernel
theorem dX4_token_117 : decode cX4_token 117 = .ok (.iconst 3, 1) := by decide +kernel
theorem dX4_token_118 : decode cX4_token 118 = .ok (.if_icmp .ne 8, 3) := by decide +kernel
theorem dX4_token_121 : decode cX4_token 121 = .ok (.aload_n 0, 1) := by decide +kernel
theorem dX4_token_122 : decode cX4_token 122 = .ok (.iconst 1, 1) := by decide +kernel
theorem dX4_token_123 : decode cX4_token 123 = .ok (.invokevirtual 77, 3) := by decide +kernel
theorem dX4_token_126 : decode cX4_token 126 = .ok (.return_, 1) := by decide +kernel
theorem dX4_skipBlanks_0 : decode cX4_skipBlanks 0 = .ok (.aload_n 0, 1) := by decide +kernel
theorem dX4_skipBlanks_1 : decode cX4_skipBlanks 1 = .ok (.getfield 36, 3) := by decide +kernel
theorem dX4_skipBlanks_4 : decode cX4_skipBlanks 4 = .ok (.istore_n 1, 1) := by decide +kernel
theorem dX4_skipBlanks_5 : decode cX4_skipBlanks 5 = .ok (.iload_n 1, 1) := by decide +kernel
theorem dX4_skipBlanks_6 : decode cX4_skipBlanks 6 = .ok (.aload_n 0, 1) := by decide +kernel
theorem dX4_skipBlanks_7 : decode cX4_skipBlanks 7 = .ok (.getfield 33, 3) := by decide +kernel
theorem dX4_skipBlanks_10 : decode cX4_skipBlanks 10 = .ok (.if_icmp .ge 36, 3) := by decide +kernel
theorem dX4_skipBlanks_13 : decode cX4_skipBlanks 13 = .ok (.aload_n 0, 1) := by decide +kernel
theorem dX4_skipBlanks_14 : decode cX4_skipBlanks 14 = .ok (.iload_n 1, 1) := by decide +kernel
theorem dX4_skipBlanks_15 : decode cX4_skipBlanks 15 = .ok (.invokevirtual 102, 3) := by decide +kernel
theorem dX4_skipBlanks_18 : decode cX4_skipBlanks 18 = .ok (.bipush 10, 2) := by decide +kernel
theorem dX4_skipBlanks_20 : decode cX4_skipBlanks 20 = .ok (.if_icmp .eq 13, 3) := by decide +kernel
theorem dX4_skipBlanks_23 : decode cX4_skipBlanks 23 = .ok (.aload_n 0, 1) := by decide +kernel
theorem dX4_skipBlanks_24 : decode cX4_skipBlanks 24 = .ok (.iload_n 1, 1) := by decide +kernel
theorem dX4_skipBlanks_25 : decode cX4_skipBlanks 25 = .ok (.invokevirtual 102, 3) := by decide +kernel
theorem dX4_skipBlanks_28 : decode cX4_skipBlanks 28 = .ok (.bipush 32, 2) := by decide +kernel
theorem dX4_skipBlanks_30 : decode cX4_skipBlanks 30 = .ok (.if_icmp .ne 16, 3) := by decide +kernel
theorem dX4_skipBlanks_33 : decode cX4_skipBlanks 33 = .ok (.aload_n 0, 1) := by decide +kernel
theorem dX4_skipBlanks_34 : decode cX4_skipBlanks 34 = .ok (.iload_n 1, 1) := by decide +kernel
theorem dX4_skipBlanks_35 : decode cX4_skipBlanks 35 = .ok (.iconst 1, 1) := by decide +kernel
theorem dX4_skipBlanks_36 : decode cX4_skipBlanks 36 = .ok (.iadd, 1) := by decide +kernel
theorem dX4_skipBlanks_37 : decode cX4_skipBlanks 37 = .ok (.putfield 36, 3) := by decide +kernel
theorem dX4_skipBlanks_40 : decode cX4_skipBlanks 40 = .ok (.iinc 1 1, 3) := by decide +kernel
theorem dX4_skipBlanks_43 : decode cX4_skipBlanks 43 = .ok (.goto (-38), 3) := by decide +kernel
theorem dX4_skipBlanks_46 : decode cX4_skipBlanks 46 = .ok (.return_, 1) := by decide +kernel
theorem dX4_letters_0 : decode cX4_letters 0 = .ok (.aload_n 0, 1) := by decide +kernel
theorem dX4_letters_1 : decode cX4_letters 1 = .ok (.getfield 36, 3) := by decide +kernel
theorem dX4_letters_4 : decode cX4_letters 4 = .ok (.istore_n 1, 1) := by decide +kernel
theorem dX4_letters_5 : decode cX4_letters 5 = .ok (.iload_n 1, 1) := by decide +kernel
theorem dX4_letters_6 : decode cX4_letters 6 = .ok (.aload_n 0, 1) := by decide +kernel
theorem dX4_letters_7 : decode cX4_letters 7 = .ok (.getfield 33, 3) := by decide +kernel
theorem dX4_letters_10 : decode cX4_letters 10 = .ok (.if_icmp .ge 27, 3) := by decide +kernel
theorem dX4_letters_13 : decode cX4_letters 13 = .ok (.aload_n 0, 1) := by decide +kernel
theorem dX4_letters_14 : decode cX4_letters 14 = .ok (.iload_n 1, 1) := by decide +kernel
theorem dX4_letters_15 : decode cX4_letters 15 = .ok (.invokevirtual 102, 3) := by decide +kernel
theorem dX4_letters_18 : decode cX4_letters 18 = .ok (.invokestatic 106, 3) := by decide +kernel
theorem dX4_letters_21 : decode cX4_letters 21 = .ok (.ifCond .eq 16, 3) := by decide +kernel
theorem dX4_letters_24 : decode cX4_letters 24 = .ok (.aload_n 0, 1) := by decide +kernel
theorem dX4_letters_25 : decode cX4_letters 25 = .ok (.iload_n 1, 1) := by decide +kernel
theorem dX4_letters_26 : decode cX4_letters 26 = .ok (.iconst 1, 1) := by decide +kernel
theorem dX4_letters_27 : decode cX4_letters 27 = .ok (.iadd, 1) := by decide +kernel
theorem dX4_letters_28 : decode cX4_letters 28 = .ok (.putfield 36, 3) := by decide +kernel
theorem dX4_letters_31 : decode cX4_letters 31 = .ok (.iinc 1 1, 3) := by decide +kernel
theorem dX4_letters_34 : decode cX4_letters 34 = .ok (.goto (-29), 3) := by decide +kernel
theorem dX4_letters_37 : decode cX4_letters 37 = .ok (.aload_n 0, 1) := by decide +kernel
theorem dX4_letters_38 : decode cX4_letters 38 = .ok (.iconst 1, 1) := by decide +kernel
theorem dX4_letters_39 : decode cX4_letters 39 = .ok (.putfield 56, 3) := by decide +kernel
theorem dX4_letters_42 : decode cX4_letters 42 = .ok (.return_, 1) := by decide +kernel
theorem dX4_wordTold_0 : decode cX4_wordTold 0 = .ok (.iconst 0, 1) := by decide +kernel
theorem dX4_wordTold_1 : decode cX4_wordTold 1 = .ok (.istore_n 1, 1) := by decide +kernel
theorem dX4_wordTold_2 : decode cX4_wordTold 2 = .ok (.iload_n 1, 1) := by decide +kernel
theorem dX4_wordTold_3 : decode cX4_wordTold 3 = .ok (.bipush 14, 2) := by decide +kernel
theorem dX4_wordTold_5 : decode cX4_wordTold 5 = .ok (.if_icmp .ge 22, 3) := by decide +kernel
theorem dX4_wordTold_8 : decode cX4_wordTold 8 = .ok (.aload_n 0, 1) := by decide +kernel
theorem dX4_wordTold_9 : decode cX4_wordTold 9 = .ok (.iload_n 1, 1) := by decide +kernel
theorem dX4_wordTold_10 : decode cX4_wordTold 10 = .ok (.invokestatic 119, 3) := by decide +kernel
theorem dX4_wordTold_13 : decode cX4_wordTold 13 = .ok (.invokevirtual 123, 3) := by decide +kernel
theorem dX4_wordTold_16 : decode cX4_wordTold 16 = .ok (.ifCond .eq 5, 3) := by decide +kernel
theorem dX4_wordTold_19 : decode cX4_wordTold 19 = .ok (.iload_n 1, 1) := by decide +kernel
theorem dX4_wordTold_20 : decode cX4_wordTold 20 = .ok (.ireturn, 1) := by decide +kernel
theorem dX4_wordTold_21 : decode cX4_wordTold 21 = .ok (.iinc 1 1, 3) := by decide +kernel
theorem dX4_wordTold_24 : decode cX4_wordTold 24 = .ok (.goto (-22), 3) := by decide +kernel
theorem dX4_wordTold_27 : decode cX4_wordTold 27 = .ok (.iconst (-1), 1) := by decide +kernel
theorem dX4_wordTold_28 : decode cX4_wordTold 28 = .ok (.ireturn, 1) := by decide +kernel
theorem dX4_isSpelled_0 : decode cX4_isSpelled 0 = .ok (.aload_n 1, 1) := by decide +kernel
theorem dX4_isSpelled_1 : decode cX4_isSpelled 1 = .ok (.invokevirtual 127, 3) := by decide +kernel
theorem dX4_isSpelled_4 : decode cX4_isSpelled 4 = .ok (.aload_n 0, 1) := by decide +kernel
theorem dX4_isSpelled_5 : decode cX4_isSpelled 5 = .ok (.getfield 36, 3) := by decide +kernel
theorem dX4_isSpelled_8 : decode cX4_isSpelled 8 = .ok (.aload_n 0, 1) := by decide +kernel
theorem dX4_isSpelled_9 : decode cX4_isSpelled 9 = .ok (.getfield 70, 3) := by decide +kernel
theorem dX4_isSpelled_12 : decode cX4_isSpelled 12 = .ok (.isub, 1) := by decide +kernel
theorem dX4_isSpelled_13 : decode cX4_isSpelled 13 = .ok (.if_icmp .eq 5, 3) := by decide +kernel
theorem dX4_isSpelled_16 : decode cX4_isSpelled 16 = .ok (.iconst 0, 1) := by decide +kernel
theorem dX4_isSpelled_17 : decode cX4_isSpelled 17 = .ok (.ireturn, 1) := by decide +kernel
theorem dX4_isSpelled_18 : decode cX4_isSpelled 18 = .ok (.iconst 0, 1) := by decide +kernel
theorem dX4_isSpelled_19 : decode cX4_isSpelled 19 = .ok (.istore_n 2, 1) := by decide +kernel
theorem dX4_isSpelled_20 : decode cX4_isSpelled 20 = .ok (.iload_n 2, 1) := by decide +kernel
theorem dX4_isSpelled_21 : decode cX4_isSpelled 21 = .ok (.aload_n 1, 1) := by decide +kernel
theorem dX4_isSpelled_22 : decode cX4_isSpelled 22 = .ok (.invokevirtual 127, 3) := by decide +kernel
theorem dX4_isSpelled_25 : decode cX4_isSpelled 25 = .ok (.if_icmp .ge 29, 3) := by decide +kernel
theorem dX4_isSpelled_28 : decode cX4_isSpelled 28 = .ok (.aload_n 1, 1) := by decide +kernel
theorem dX4_isSpelled_29 : decode cX4_isSpelled 29 = .ok (.iload_n 2, 1) := by decide +kernel
theorem dX4_isSpelled_30 : decode cX4_isSpelled 30 = .ok (.invokevirtual 132, 3) := by decide +kernel
theorem dX4_isSpelled_33 : decode cX4_isSpelled 33 = .ok (.aload_n 0, 1) := by decide +kernel
theorem dX4_isSpelled_34 : decode cX4_isSpelled 34 = .ok (.aload_n 0, 1) := by decide +kernel
theorem dX4_isSpelled_35 : decode cX4_isSpelled 35 = .ok (.getfield 70, 3) := by decide +kernel
theorem dX4_isSpelled_38 : decode cX4_isSpelled 38 = .ok (.iload_n 2, 1) := by decide +kernel
theorem dX4_isSpelled_39 : decode cX4_isSpelled 39 = .ok (.iadd, 1) := by decide +kernel
theorem dX4_isSpelled_40 : decode cX4_isSpelled 40 = .ok (.invokevirtual 102, 3) := by decide +kernel
theorem dX4_isSpelled_43 : decode cX4_isSpelled 43 = .ok (.if_icmp .eq 5, 3) := by decide +kernel
theorem dX4_isSpelled_46 : decode cX4_isSpelled 46 = .ok (.iconst 0, 1) := by decide +kernel
theorem dX4_isSpelled_47 : decode cX4_isSpelled 47 = .ok (.ireturn, 1) := by decide +kernel
theorem dX4_isSpelled_48 : decode cX4_isSpelled 48 = .ok (.iinc 2 1, 3) := by decide +kernel
theorem dX4_isSpelled_51 : decode cX4_isSpelled 51 = .ok (.goto (-31), 3) := by decide +kernel
theorem dX4_isSpelled_54 : decode cX4_isSpelled 54 = .ok (.iconst 1, 1) := by decide +kernel
theorem dX4_isSpelled_55 : decode cX4_isSpelled 55 = .ok (.ireturn, 1) := by decide +kernel
theorem dX4_digits_0 : decode cX4_digits 0 = .ok (.aload_n 0, 1) := by decide +kernel
theorem dX4_digits_1 : decode cX4_digits 1 = .ok (.iconst 0, 1) := by decide +kernel
theorem dX4_digits_2 : decode cX4_digits 2 = .ok (.putfield 96, 3) := by decide +kernel
theorem dX4_digits_5 : decode cX4_digits 5 = .ok (.aload_n 0, 1) := by decide +kernel
theorem dX4_digits_6 : decode cX4_digits 6 = .ok (.getfield 36, 3) := by decide +kernel
theorem dX4_digits_9 : decode cX4_digits 9 = .ok (.istore_n 1, 1) := by decide +kernel
theorem dX4_digits_10 : decode cX4_digits 10 = .ok (.iload_n 1, 1) := by decide +kernel
theorem dX4_digits_11 : decode cX4_digits 11 = .ok (.aload_n 0, 1) := by decide +kernel
theorem dX4_digits_12 : decode cX4_digits 12 = .ok (.getfield 33, 3) := by decide +kernel
theorem dX4_digits_15 : decode cX4_digits 15 = .ok (.if_icmp .ge 64, 3) := by decide +kernel
theorem dX4_digits_18 : decode cX4_digits 18 = .ok (.aload_n 0, 1) := by decide +kernel
theorem dX4_digits_19 : decode cX4_digits 19 = .ok (.iload_n 1, 1) := by decide +kernel
theorem dX4_digits_20 : decode cX4_digits 20 = .ok (.invokevirtual 102, 3) := by decide +kernel
theorem dX4_digits_23 : decode cX4_digits 23 = .ok (.invokestatic 113, 3) := by decide +kernel
theorem dX4_digits_26 : decode cX4_digits 26 = .ok (.ifCond .eq 53, 3) := by decide +kernel
theorem dX4_digits_29 : decode cX4_digits 29 = .ok (.aload_n 0, 1) := by decide +kernel
theorem dX4_digits_30 : decode cX4_digits 30 = .ok (.aload_n 0, 1) := by decide +kernel
theorem dX4_digits_31 : decode cX4_digits 31 = .ok (.getfield 96, 3) := by decide +kernel
theorem dX4_digits_34 : decode cX4_digits 34 = .ok (.sipush 1000, 3) := by decide +kernel
theorem dX4_digits_37 : decode cX4_digits 37 = .ok (.if_icmp .ge 22, 3) := by decide +kernel
theorem dX4_digits_40 : decode cX4_digits 40 = .ok (.bipush 10, 2) := by decide +kernel
theorem dX4_digits_42 : decode cX4_digits 42 = .ok (.aload_n 0, 1) := by decide +kernel
theorem dX4_digits_43 : decode cX4_digits 43 = .ok (.getfield 96, 3) := by decide +kernel
theorem dX4_digits_46 : decode cX4_digits 46 = .ok (.imul, 1) := by decide +kernel
theorem dX4_digits_47 : decode cX4_digits 47 = .ok (.aload_n 0, 1) := by decide +kernel
theorem dX4_digits_48 : decode cX4_digits 48 = .ok (.iload_n 1, 1) := by decide +kernel
theorem dX4_digits_49 : decode cX4_digits 49 = .ok (.invokevirtual 102, 3) := by decide +kernel
theorem dX4_digits_52 : decode cX4_digits 52 = .ok (.iadd, 1) := by decide +kernel
theorem dX4_digits_53 : decode cX4_digits 53 = .ok (.bipush 48, 2) := by decide +kernel
theorem dX4_digits_55 : decode cX4_digits 55 = .ok (.isub, 1) := by decide +kernel
theorem dX4_digits_56 : decode cX4_digits 56 = .ok (.goto 7, 3) := by decide +kernel
theorem dX4_digits_59 : decode cX4_digits 59 = .ok (.aload_n 0, 1) := by decide +kernel
theorem dX4_digits_60 : decode cX4_digits 60 = .ok (.getfield 96, 3) := by decide +kernel
theorem dX4_digits_63 : decode cX4_digits 63 = .ok (.putfield 96, 3) := by decide +kernel
theorem dX4_digits_66 : decode cX4_digits 66 = .ok (.aload_n 0, 1) := by decide +kernel
theorem dX4_digits_67 : decode cX4_digits 67 = .ok (.iload_n 1, 1) := by decide +kernel
theorem dX4_digits_68 : decode cX4_digits 68 = .ok (.iconst 1, 1) := by decide +kernel
theorem dX4_digits_69 : decode cX4_digits 69 = .ok (.iadd, 1) := by decide +kernel
theorem dX4_digits_70 : decode cX4_digits 70 = .ok (.putfield 36, 3) := by decide +kernel
theorem dX4_digits_73 : decode cX4_digits 73 = .ok (.iinc 1 1, 3) := by decide +kernel
theorem dX4_digits_76 : decode cX4_digits 76 = .ok (.goto (-66), 3) := by decide +kernel
theorem dX4_digits_79 : decode cX4_digits 79 = .ok (.aload_n 0, 1) := by decide +kernel
theorem dX4_digits_80 : decode cX4_digits 80 = .ok (.aload_n 0, 1) := by decide +kernel
theorem dX4_digits_81 : decode cX4_digits 81 = .ok (.getfield 36, 3) := by decide +kernel
theorem dX4_digits_84 : decode cX4_digits 84 = .ok (.aload_n 0, 1) := by decide +kernel
theorem dX4_digits_85 : decode cX4_digits 85 = .ok (.getfield 70, 3) := by decide +kernel
theorem dX4_digits_88 : decode cX4_digits 88 = .ok (.isub, 1) := by decide +kernel
theorem dX4_digits_89 : decode cX4_digits 89 = .ok (.iconst 3, 1) := by decide +kernel
theorem dX4_digits_90 : decode cX4_digits 90 = .ok (.if_icmp .le 7, 3) := by decide +kernel
theorem dX4_digits_93 : decode cX4_digits 93 = .ok (.iconst 3, 1) := by decide +kernel
theorem dX4_digits_94 : decode cX4_digits 94 = .ok (.goto 4, 3) := by decide +kernel
theorem dX4_digits_97 : decode cX4_digits 97 = .ok (.iconst 2, 1) := by decide +kernel
theorem dX4_digits_98 : decode cX4_digits 98 = .ok (.putfield 56, 3) := by decide +kernel
theorem dX4_digits_101 : decode cX4_digits 101 = .ok (.return_, 1) := by decide +kernel
theorem dX4_byteAt_0 : decode cX4_byteAt 0 = .ok (.iload_n 1, 1) := by decide +kernel
theorem dX4_byteAt_1 : decode cX4_byteAt 1 = .ok (.ifCond .lt 33, 3) := by decide +kernel
theorem dX4_byteAt_4 : decode cX4_byteAt 4 = .ok (.iload_n 1, 1) := by decide +kernel
theorem dX4_byteAt_5 : decode cX4_byteAt 5 = .ok (.aload_n 0, 1) := by decide +kernel
theorem dX4_byteAt_6 : decode cX4_byteAt 6 = .ok (.getfield 33, 3) := by decide +kernel
theorem dX4_byteAt_9 : decode cX4_byteAt 9 = .ok (.if_icmp .ge 25, 3) := by decide +kernel
theorem dX4_byteAt_12 : decode cX4_byteAt 12 = .ok (.iload_n 1, 1) := by decide +kernel
theorem dX4_byteAt_13 : decode cX4_byteAt 13 = .ok (.aload_n 0, 1) := by decide +kernel
theorem dX4_byteAt_14 : decode cX4_byteAt 14 = .ok (.getfield 9, 3) := by decide +kernel
theorem dX4_byteAt_17 : decode cX4_byteAt 17 = .ok (.arraylength, 1) := by decide +kernel
theorem dX4_byteAt_18 : decode cX4_byteAt 18 = .ok (.if_icmp .ge 16, 3) := by decide +kernel
theorem dX4_byteAt_21 : decode cX4_byteAt 21 = .ok (.aload_n 0, 1) := by decide +kernel
theorem dX4_byteAt_22 : decode cX4_byteAt 22 = .ok (.getfield 9, 3) := by decide +kernel
theorem dX4_byteAt_25 : decode cX4_byteAt 25 = .ok (.iload_n 1, 1) := by decide +kernel
theorem dX4_byteAt_26 : decode cX4_byteAt 26 = .ok (.baload, 1) := by decide +kernel
theorem dX4_byteAt_27 : decode cX4_byteAt 27 = .ok (.sipush 255, 3) := by decide +kernel
theorem dX4_byteAt_30 : decode cX4_byteAt 30 = .ok (.iand, 1) := by decide +kernel
theorem dX4_byteAt_31 : decode cX4_byteAt 31 = .ok (.goto 4, 3) := by decide +kernel
theorem dX4_byteAt_34 : decode cX4_byteAt 34 = .ok (.iconst 0, 1) := by decide +kernel
theorem dX4_byteAt_35 : decode cX4_byteAt 35 = .ok (.ireturn, 1) := by decide +kernel
theorem dX4_isLetter_0 : decode cX4_isLetter 0 = .ok (.iload_n 0, 1) := by decide +kernel
theorem dX4_isLetter_1 : decode cX4_isLetter 1 = .ok (.bipush 97, 2) := by decide +kernel
theorem dX4_isLetter_3 : decode cX4_isLetter 3 = .ok (.if_icmp .lt 13, 3) := by decide +kernel
theorem dX4_isLetter_6 : decode cX4_isLetter 6 = .ok (.iload_n 0, 1) := by decide +kernel
theorem dX4_isLetter_7 : decode cX4_isLetter 7 = .ok (.bipush 122, 2) := by decide +kernel
theorem dX4_isLetter_9 : decode cX4_isLetter 9 = .ok (.if_icmp .gt 7, 3) := by decide +kernel
theorem dX4_isLetter_12 : decode cX4_isLetter 12 = .ok (.iconst 1, 1) := by decide +kernel
theorem dX4_isLetter_13 : decode cX4_isLetter 13 = .ok (.goto 4, 3) := by decide +kernel
theorem dX4_isLetter_16 : decode cX4_isLetter 16 = .ok (.iconst 0, 1) := by decide +kernel
theorem dX4_isLetter_17 : decode cX4_isLetter 17 = .ok (.ireturn, 1) := by decide +kernel
theorem dX4_isDigit_0 : decode cX4_isDigit 0 = .ok (.iload_n 0, 1) := by decide +kernel
theorem dX4_isDigit_1 : decode cX4_isDigit 1 = .ok (.bipush 48, 2) := by decide +kernel
theorem dX4_isDigit_3 : decode cX4_isDigit 3 = .ok (.if_icmp .lt 13, 3) := by decide +kernel
theorem dX4_isDigit_6 : decode cX4_isDigit 6 = .ok (.iload_n 0, 1) := by decide +kernel
theorem dX4_isDigit_7 : decode cX4_isDigit 7 = .ok (.bipush 57, 2) := by decide +kernel
theorem dX4_isDigit_9 : decode cX4_isDigit 9 = .ok (.if_icmp .gt 7, 3) := by decide +kernel
theorem dX4_isDigit_12 : decode cX4_isDigit 12 = .ok (.iconst 1, 1) := by decide +kernel
theorem dX4_isDigit_13 : decode cX4_isDigit 13 = .ok (.goto 4, 3) := by decide +kernel
theorem dX4_isDigit_16 : decode cX4_isDigit 16 = .ok (.iconst 0, 1) := by decide +kernel
theorem dX4_isDigit_17 : decode cX4_isDigit 17 = .ok (.ireturn, 1) := by decide +kernel
theorem dX4_nameOf_0 : decode cX4_nameOf 0 = .ok (.iload_n 0, 1) := by decide +kernel
theorem dX4_nameOf_1 : decode cX4_nameOf 1 = .ok (.tableswitch 106 0 12 #[67, 70, 73, 76, 79, 82, 85, 88, 91, 94, 97, 100, 103], 67) := by decide +kernel
theorem dX4_nameOf_68 : decode cX4_nameOf 68 = .ok (.ldc 136, 2) := by decide +kernel
theorem dX4_nameOf_70 : decode cX4_nameOf 70 = .ok (.areturn, 1) := by decide +kernel
theorem dX4_nameOf_71 : decode cX4_nameOf 71 = .ok (.ldc 138, 2) := by decide +kernel
theorem dX4_nameOf_73 : decode cX4_nameOf 73 = .ok (.areturn, 1) := by decide +kernel
theorem dX4_nameOf_74 : decode cX4_nameOf 74 = .ok (.ldc 140, 2) := by decide +kernel
theorem dX4_nameOf_76 : decode cX4_nameOf 76 = .ok (.areturn, 1) := by decide +kernel
theorem dX4_nameOf_77 : decode cX4_nameOf 77 = .ok (.ldc 142, 2) := by decide +kernel
theorem dX4_nameOf_79 : decode cX4_nameOf 79 = .ok (.areturn, 1) := by decide +kernel
theorem dX4_nameOf_80 : decode cX4_nameOf 80 = .ok (.ldc 144, 2) := by decide +kernel
theorem dX4_nameOf_82 : decode cX4_nameOf 82 = .ok (.areturn, 1) := by decide +kernel
theorem dX4_nameOf_83 : decode cX4_nameOf 83 = .ok (.ldc 146, 2) := by decide +kernel
theorem dX4_nameOf_85 : decode cX4_nameOf 85 = .ok (.areturn, 1) := by decide +kernel
theorem dX4_nameOf_86 : decode cX4_nameOf 86 = .ok (.ldc 148, 2) := by decide +kernel
theorem dX4_nameOf_88 : decode cX4_nameOf 88 = .ok (.areturn, 1) := by decide +kernel
theorem dX4_nameOf_89 : decode cX4_nameOf 89 = .ok (.ldc 150, 2) := by decide +kernel
theorem dX4_nameOf_91 : decode cX4_nameOf 91 = .ok (.areturn, 1) := by decide +kernel
theorem dX4_nameOf_92 : decode cX4_nameOf 92 = .ok (.ldc 152, 2) := by decide +kernel
theorem dX4_nameOf_94 : decode cX4_nameOf 94 = .ok (.areturn, 1) := by decide +kernel
theorem dX4_nameOf_95 : decode cX4_nameOf 95 = .ok (.ldc 154, 2) := by decide +kernel
theorem dX4_nameOf_97 : decode cX4_nameOf 97 = .ok (.areturn, 1) := by decide +kernel
theorem dX4_nameOf_98 : decode cX4_nameOf 98 = .ok (.ldc 156, 2) := by decide +kernel
theorem dX4_nameOf_100 : decode cX4_nameOf 100 = .ok (.areturn, 1) := by decide +kernel
theorem dX4_nameOf_101 : decode cX4_nameOf 101 = .ok (.ldc 158, 2) := by decide +kernel
theorem dX4_nameOf_103 : decode cX4_nameOf 103 = .ok (.areturn, 1) := by decide +kernel
theorem dX4_nameOf_104 : decode cX4_nameOf 104 = .ok (.ldc 160, 2) := by decide +kernel
theorem dX4_nameOf_106 : decode cX4_nameOf 106 = .ok (.areturn, 1) := by decide +kernel
theorem dX4_nameOf_107 : decode cX4_nameOf 107 = .ok (.ldc 162, 2) := by decide +kernel
theorem dX4_nameOf_109 : decode cX4_nameOf 109 = .ok (.areturn, 1) := by decide +kernel
theorem dX5_init_0 : decode cX5_init 0 = .ok (.aload_n 0, 1) := by decide +kernel
theorem dX5_init_1 : decode cX5_init 1 = .ok (.invokespecial 3, 3) := by decide +kernel
theorem dX5_init_4 : decode cX5_init 4 = .ok (.aload_n 0, 1) := by decide +kernel
theorem dX5_init_5 : decode cX5_init 5 = .ok (.bipush 120, 2) := by decide +kernel
theorem dX5_init_7 : decode cX5_init 7 = .ok (.newarray .int, 2) := by decide +kernel
theorem dX5_init_9 : decode cX5_init 9 = .ok (.putfield 9, 3) := by decide +kernel
theorem dX5_init_12 : decode cX5_init 12 = .ok (.aload_n 0, 1) := by decide +kernel
theorem dX5_init_13 : decode cX5_init 13 = .ok (.aload_n 1, 1) := by decide +kernel
theorem dX5_init_14 : decode cX5_init 14 = .ok (.putfield 15, 3) := by decide +kernel
theorem dX5_init_17 : decode cX5_init 17 = .ok (.return_, 1) := by decide +kernel
theorem dX5_behind_0 : decode cX5_behind 0 = .ok (.aload_n 0, 1) := by decide +kernel
theorem dX5_behind_1 : decode cX5_behind 1 = .ok (.aload_n 1, 1) := by decide +kernel
theorem dX5_behind_2 : decode cX5_behind 2 = .ok (.aload_n 1, 1) := by decide +kernel
theorem dX5_behind_3 : decode cX5_behind 3 = .ok (.getfield 19, 3) := by decide +kernel
theorem dX5_behind_6 : decode cX5_behind 6 = .ok (.invokevirtual 25, 3) := by decide +kernel
theorem dX5_behind_9 : decode cX5_behind 9 = .ok (.aload_n 1, 1) := by decide +kernel
theorem dX5_behind_10 : decode cX5_behind 10 = .ok (.aload_n 1, 1) := by decide +kernel
theorem dX5_behind_11 : decode cX5_behind 11 = .ok (.getfield 19, 3) := by decide +kernel
theorem dX5_behind_14 : decode cX5_behind 14 = .ok (.invokevirtual 29, 3) := by decide +kernel
theorem dX5_behind_17 : decode cX5_behind 17 = .ok (.aload_n 1, 1) := by decide +kernel
theorem dX5_behind_18 : decode cX5_behind 18 = .ok (.getfield 32, 3) := by decide +kernel
theorem dX5_behind_21 : decode cX5_behind 21 = .ok (.aload_n 1, 1) := by decide +kernel
theorem dX5_behind_22 : decode cX5_behind 22 = .ok (.invokevirtual 35, 3) := by decide +kernel
theorem dX5_behind_25 : decode cX5_behind 25 = .ok (.invokevirtual 39, 3) := by decide +kernel
theorem dX5_behind_28 : decode cX5_behind 28 = .ok (.return_, 1) := by decide +kernel
theorem dX5_put_0 : decode cX5_put 0 = .ok (.aload_n 0, 1) := by decide +kernel
theorem dX5_put_1 : decode cX5_put 1 = .ok (.lload_n 1, 1) := by decide +kernel
theorem dX5_put_2 : decode cX5_put 2 = .ok (.putfield 43, 3) := by decide +kernel
theorem dX5_put_5 : decode cX5_put 5 = .ok (.aload_n 0, 1) := by decide +kernel
theorem dX5_put_6 : decode cX5_put 6 = .ok (.lload_n 3, 1) := by decide +kernel
theorem dX5_put_7 : decode cX5_put 7 = .ok (.putfield 47, 3) := by decide +kernel
theorem dX5_put_10 : decode cX5_put 10 = .ok (.aload_n 0, 1) := by decide +kernel
theorem dX5_put_11 : decode cX5_put 11 = .ok (.iload 5, 2) := by decide +kernel
theorem dX5_put_13 : decode cX5_put 13 = .ok (.putfield 50, 3) := by decide +kernel
theorem dX5_put_16 : decode cX5_put 16 = .ok (.aload_n 0, 1) := by decide +kernel
theorem dX5_put_17 : decode cX5_put 17 = .ok (.iload 6, 2) := by decide +kernel
theorem dX5_put_19 : decode cX5_put 19 = .ok (.putfield 51, 3) := by decide +kernel
theorem dX5_put_22 : decode cX5_put 22 = .ok (.return_, 1) := by decide +kernel
theorem dX5_many_0 : decode cX5_many 0 = .ok (.aload_n 0, 1) := by decide +kernel
theorem dX5_many_1 : decode cX5_many 1 = .ok (.getfield 43, 3) := by decide +kernel
theorem dX5_many_4 : decode cX5_many 4 = .ok (.invokestatic 54, 3) := by decide +kernel
theorem dX5_many_7 : decode cX5_many 7 = .ok (.aload_n 0, 1) := by decide +kernel
theorem dX5_many_8 : decode cX5_many 8 = .ok (.getfield 47, 3) := by decide +kernel
theorem dX5_many_11 : decode cX5_many 11 = .ok (.invokestatic 54, 3) := by decide +kernel
theorem dX5_many_14 : decode cX5_many 14 = .ok (.iadd, 1) := by decide +kernel
theorem dX5_many_15 : decode cX5_many 15 = .ok (.ireturn, 1) := by decide +kernel
theorem dX5_apart_0 : decode cX5_apart 0 = .ok (.aload_n 0, 1) := by decide +kernel
theorem dX5_apart_1 : decode cX5_apart 1 = .ok (.getfield 43, 3) := by decide +kernel
theorem dX5_apart_4 : decode cX5_apart 4 = .ok (.aload_n 0, 1) := by decide +kernel
theorem dX5_apart_5 : decode cX5_apart 5 = .ok (.getfield 47, 3) := by decide +kernel
theorem dX5_apart_8 : decode cX5_apart 8 = .ok (.lor, 1) := by decide +kernel
theorem dX5_apart_9 : decode cX5_apart 9 = .ok (.aload_n 0, 1) := by decide +kernel
theorem dX5_apart_10 : decode cX5_apart 10 = .ok (.getfield 15, 3) := by decide +kernel
theorem dX5_apart_13 : decode cX5_apart 13 = .ok (.aload_n 0, 1) := by decide +kernel
theorem dX5_apart_14 : decode cX5_apart 14 = .ok (.getfield 43, 3) := by decide +kernel
theorem dX5_apart_17 : decode cX5_apart 17 = .ok (.aload_n 0, 1) := by decide +kernel
theorem dX5_apart_18 : decode cX5_apart 18 = .ok (.getfield 47, 3) := by decide +kernel
theorem dX5_apart_21 : decode cX5_apart 21 = .ok (.lor, 1) := by decide +kernel
theorem dX5_apart_22 : decode cX5_apart 22 = .ok (.aload_n 0, 1) := by decide +kernel
theorem dX5_apart_23 : decode cX5_apart 23 = .ok (.getfield 50, 3) := by decide +kernel
theorem dX5_apart_26 : decode cX5_apart 26 = .ok (.invokevirtual 60, 3) := by decide +kernel
theorem dX5_apart_29 : decode cX5_apart 29 = .ok (.ldc2_w 66, 3) := by decide +kernel
theorem dX5_apart_32 : decode cX5_apart 32 = .ok (.lxor, 1) := by decide +kernel
theorem dX5_apart_33 : decode cX5_apart 33 = .ok (.land, 1) := by decide +kernel
theorem dX5_apart_34 : decode cX5_apart 34 = .ok (.lreturn, 1) := by decide +kernel
theorem dX5_hangs_0 : decode cX5_hangs 0 = .ok (.aload_n 0, 1) := by decide +kernel
theorem dX5_hangs_1 : decode cX5_hangs 1 = .ok (.invokevirtual 68, 3) := by decide +kernel
theorem dX5_hangs_4 : decode cX5_hangs 4 = .ok (.lconst 0, 1) := by decide +kernel
theorem dX5_hangs_5 : decode cX5_hangs 5 = .ok (.lcmp, 1) := by decide +kernel
theorem dX5_hangs_6 : decode cX5_hangs 6 = .ok (.ifCond .ne 7, 3) := by decide +kernel
theorem dX5_hangs_9 : decode cX5_hangs 9 = .ok (.iconst 1, 1) := by decide +kernel
theorem dX5_hangs_10 : decode cX5_hangs 10 = .ok (.goto 4, 3) := by decide +kernel
theorem dX5_hangs_13 : decode cX5_hangs 13 = .ok (.iconst 0, 1) := by decide +kernel
theorem dX5_hangs_14 : decode cX5_hangs 14 = .ok (.ireturn, 1) := by decide +kernel
theorem dX5_endsWell_0 : decode cX5_endsWell 0 = .ok (.aload_n 0, 1) := by decide +kernel
theorem dX5_endsWell_1 : decode cX5_endsWell 1 = .ok (.invokevirtual 72, 3) := by decide +kernel
theorem dX5_endsWell_4 : decode cX5_endsWell 4 = .ok (.ifCond .eq 14, 3) := by decide +kernel
theorem dX5_endsWell_7 : decode cX5_endsWell 7 = .ok (.aload_n 0, 1) := by decide +kernel
theorem dX5_endsWell_8 : decode cX5_endsWell 8 = .ok (.invokevirtual 75, 3) := by decide +kernel
theorem dX5_endsWell_11 : decode cX5_endsWell 11 = .ok (.ifCond .eq 7, 3) := by decide +kernel
theorem dX5_endsWell_14 : decode cX5_endsWell 14 = .ok (.iconst 1, 1) := by decide +kernel
theorem dX5_endsWell_15 : decode cX5_endsWell 15 = .ok (.goto 4, 3) := by decide +kernel
theorem dX5_endsWell_18 : decode cX5_endsWell 18 = .ok (.iconst 0, 1) := by decide +kernel
theorem dX5_endsWell_19 : decode cX5_endsWell 19 = .ok (.ireturn, 1) := by decide +kernel
theorem dX5_look_0 : decode cX5_look 0 = .ok (.aload_n 0, 1) := by decide +kernel
theorem dX5_look_1 : decode cX5_look 1 = .ok (.iconst 0, 1) := by decide +kernel
theorem dX5_look_2 : decode cX5_look 2 = .ok (.putfield 78, 3) := by decide +kernel
theorem dX5_look_5 : decode cX5_look 5 = .ok (.aload_n 0, 1) := by decide +kernel
theorem dX5_look_6 : decode cX5_look 6 = .ok (.iconst (-1), 1) := by decide +kernel
theorem dX5_look_7 : decode cX5_look 7 = .ok (.putfield 81, 3) := by decide +kernel
theorem dX5_look_10 : decode cX5_look 10 = .ok (.aload_n 0, 1) := by decide +kernel
theorem dX5_look_11 : decode cX5_look 11 = .ok (.iconst (-1), 1) := by decide +kernel
theorem dX5_look_12 : decode cX5_look 12 = .ok (.putfield 84, 3) := by decide +kernel
theorem dX5_look_15 : decode cX5_look 15 = .ok (.aload_n 0, 1) := by decide +kernel
theorem dX5_look_16 : decode cX5_look 16 = .ok (.invokevirtual 68, 3) := by decide +kernel
theorem dX5_look_19 : decode cX5_look 19 = .ok (.lstore_n 1, 1) := by decide +kernel
theorem dX5_look_20 : decode cX5_look 20 = .ok (.lload_n 1, 1) := by decide +kernel
theorem dX5_look_21 : decode cX5_look 21 = .ok (.lconst 0, 1) := by decide +kernel
theorem dX5_look_22 : decode cX5_look 22 = .ok (.lcmp, 1) := by decide +kernel
theorem dX5_look_23 : decode cX5_look 23 = .ok (.ifCond .eq 19, 3) := by decide +kernel
theorem dX5_look_26 : decode cX5_look 26 = .ok (.aload_n 0, 1) := by decide +kernel
theorem dX5_look_27 : decode cX5_look 27 = .ok (.iconst 1, 1) := by decide +kernel
theorem dX5_look_28 : decode cX5_look 28 = .ok (.putfield 78, 3) := by decide +kernel
theorem dX5_look_31 : decode cX5_look 31 = .ok (.aload_n 0, 1) := by decide +kernel
theorem dX5_look_32 : decode cX5_look 32 = .ok (.lload_n 1, 1) := by decide +kernel
theorem dX5_look_33 : decode cX5_look 33 = .ok (.invokestatic 87, 3) := by decide +kernel
theorem dX5_look_36 : decode cX5_look 36 = .ok (.putfield 81, 3) := by decide +kernel
theorem dX5_look_39 : decode cX5_look 39 = .ok (.goto 15, 3) := by decide +kernel
theorem dX5_look_42 : decode cX5_look 42 = .ok (.aload_n 0, 1) := by decide +kernel
theorem dX5_look_43 : decode cX5_look 43 = .ok (.invokevirtual 75, 3) := by decide +kernel
theorem dX5_look_46 : decode cX5_look 46 = .ok (.ifCond .ne 8, 3) := by decide +kernel
theorem dX5_look_49 : decode cX5_look 49 = .ok (.aload_n 0, 1) := by decide +kernel
theorem dX5_look_50 : decode cX5_look 50 = .ok (.iconst 2, 1) := by decide +kernel
theorem dX5_look_51 : decode cX5_look 51 = .ok (.putfield 78, 3) := by decide +kernel
theorem dX5_look_54 : decode cX5_look 54 = .ok (.return_, 1) := by decide +kernel
theorem dX5_matches_0 : decode cX5_matches 0 = .ok (.aload_n 0, 1) := by decide +kernel
theorem dX5_matches_1 : decode cX5_matches 1 = .ok (.iconst (-1), 1) := by decide +kernel
theorem dX5_matches_2 : decode cX5_matches 2 = .ok (.putfield 84, 3) := by decide +kernel
theorem dX5_matches_5 : decode cX5_matches 5 = .ok (.iconst 0, 1) := by decide +kernel
theorem dX5_matches_6 : decode cX5_matches 6 = .ok (.istore_n 1, 1) := by decide +kernel
theorem dX5_matches_7 : decode cX5_matches 7 = .ok (.iload_n 1, 1) := by decide +kernel
theorem dX5_matches_8 : decode cX5_matches 8 = .ok (.sipush 144, 3) := by decide +kernel
theorem dX5_matches_11 : decode cX5_matches 11 = .ok (.if_icmp .ge 58, 3) := by decide +kernel
theorem dX5_matches_14 : decode cX5_matches 14 = .ok (.aload_n 0, 1) := by decide +kernel
theorem dX5_matches_15 : decode cX5_matches 15 = .ok (.iload_n 1, 1) := by decide +kernel
theorem dX5_matches_16 : decode cX5_matches 16 = .ok (.invokevirtual 90, 3) := by decide +kernel
theorem dX5_matches_19 : decode cX5_matches 19 = .ok (.istore_n 2, 1) := by decide +kernel
theorem dX5_matches_20 : decode cX5_matches 20 = .ok (.iload_n 2, 1) := by decide +kernel
theorem dX5_matches_21 : decode cX5_matches 21 = .ok (.ifCond .eq 33, 3) := by decide +kernel
theorem dX5_matches_24 : decode cX5_matches 24 = .ok (.aload_n 0, 1) := by decide +kernel
theorem dX5_matches_25 : decode cX5_matches 25 = .ok (.getfield 84, 3) := by decide +kernel
theorem dX5_matches_28 : decode cX5_matches 28 = .ok (.iconst (-1), 1) := by decide +kernel
theorem dX5_matches_29 : decode cX5_matches 29 = .ok (.if_icmp .ne 13, 3) := by decide +kernel
theorem dX5_matches_32 : decode cX5_matches 32 = .ok (.iload_n 2, 1) := by decide +kernel
theorem dX5_matches_33 : decode cX5_matches 33 = .ok (.iconst 1, 1) := by decide +kernel
theorem dX5_matches_34 : decode cX5_matches 34 = .ok (.if_icmp .gt 8, 3) := by decide +kernel
theorem dX5_matches_37 : decode cX5_matches 37 = .ok (.iload_n 2, 1) := by decide +kernel
theorem dX5_matches_38 : decode cX5_matches 38 = .ok (.iconst (-1), 1) := by decide +kernel
theorem dX5_matches_39 : decode cX5_matches 39 = .ok (.if_icmp .ge 15, 3) := by decide +kernel
theorem dX5_matches_42 : decode cX5_matches 42 = .ok (.aload_n 0, 1) := by decide +kernel
theorem dX5_matches_43 : decode cX5_matches 43 = .ok (.iconst (-1), 1) := by decide +kernel
theorem dX5_matches_44 : decode cX5_matches 44 = .ok (.putfield 84, 3) := by decide +kernel
theorem dX5_matches_47 : decode cX5_matches 47 = .ok (.aload_n 0, 1) := by decide +kernel
theorem dX5_matches_48 : decode cX5_matches 48 = .ok (.iload_n 1, 1) := by decide +kernel
theorem dX5_matches_49 : decode cX5_matches 49 = .ok (.putfield 81, 3) := by decide +kernel
theorem dX5_matches_52 : decode cX5_matches 52 = .ok (.iconst 0, 1) := by decide +kernel
theorem dX5_matches_53 : decode cX5_matches 53 = .ok (.ireturn, 1) := by decide +kernel
theorem dX5_matches_54 : decode cX5_matches 54 = .ok (.iload_n 2, 1) := by decide +kernel
theorem dX5_matches_55 : decode cX5_matches 55 = .ok (.ifCond .eq 8, 3) := by decide +kernel
theorem dX5_matches_58 : decode cX5_matches 58 = .ok (.aload_n 0, 1) := by decide +kernel
theorem dX5_matches_59 : decode cX5_matches 59 = .ok (.iload_n 1, 1) := by decide +kernel
theorem dX5_matches_60 : decode cX5_matches 60 = .ok (.putfield 84, 3) := by decide +kernel
theorem dX5_matches_63 : decode cX5_matches 63 = .ok (.iinc 1 1, 3) := by decide +kernel
theorem dX5_matches_66 : decode cX5_matches 66 = .ok (.goto (-59), 3) := by decide +kernel
theorem dX5_matches_69 : decode cX5_matches 69 = .ok (.iconst 1, 1) := by decide +kernel
theorem dX5_matches_70 : decode cX5_matches 70 = .ok (.ireturn, 1) := by decide +kernel
theorem dX5_unmatched_0 : decode cX5_unmatched 0 = .ok (.aload_n 0, 1) := by decide +kernel
theorem dX5_unmatched_1 : decode cX5_unmatched 1 = .ok (.getfield 15, 3) := by decide +kernel
theorem dX5_unmatched_4 : decode cX5_unmatched 4 = .ok (.iload_n 1, 1) := by decide +kernel
theorem dX5_unmatched_5 : decode cX5_unmatched 5 = .ok (.invokevirtual 94, 3) := by decide +kernel
theorem dX5_unmatched_8 : decode cX5_unmatched 8 = .ok (.lstore_n 2, 1) := by decide +kernel
theorem dX5_unmatched_9 : decode cX5_unmatched 9 = .ok (.lload_n 2, 1) := by decide +kernel
theorem dX5_unmatched_10 : decode cX5_unmatched 10 = .ok (.aload_n 0, 1) := by decide +kernel
theorem dX5_unmatched_11 : decode cX5_unmatched 11 = .ok (.getfield 43, 3) := by decide +kernel
theorem dX5_unmatched_14 : decode cX5_unmatched 14 = .ok (.land, 1) := by decide +kernel
theorem dX5_unmatched_15 : decode cX5_unmatched 15 = .ok (.invokestatic 54, 3) := by decide +kernel
theorem dX5_unmatched_18 : decode cX5_unmatched 18 = .ok (.lload_n 2, 1) := by decide +kernel
theorem dX5_unmatched_19 : decode cX5_unmatched 19 = .ok (.aload_n 0, 1) := by decide +kernel
theorem dX5_unmatched_20 : decode cX5_unmatched 20 = .ok (.getfield 47, 3) := by decide +kernel
theorem dX5_unmatched_23 : decode cX5_unmatched 23 = .ok (.land, 1) := by decide +kernel
theorem dX5_unmatched_24 : decode cX5_unmatched 24 = .ok (.invokestatic 54, 3) := by decide +kernel
theorem dX5_unmatched_27 : decode cX5_unmatched 27 = .ok (.isub, 1) := by decide +kernel
theorem dX5_unmatched_28 : decode cX5_unmatched 28 = .ok (.istore 4, 2) := by decide +kernel
theorem dX5_unmatched_30 : decode cX5_unmatched 30 = .ok (.iload_n 1, 1) := by decide +kernel
theorem dX5_unmatched_31 : decode cX5_unmatched 31 = .ok (.aload_n 0, 1) := by decide +kernel
theorem dX5_unmatched_32 : decode cX5_unmatched 32 = .ok (.getfield 50, 3) := by decide +kernel
theorem dX5_unmatched_35 : decode cX5_unmatched 35 = .ok (.if_icmp .eq 6, 3) := by decide +kernel
theorem dX5_unmatched_38 : decode cX5_unmatched 38 = .ok (.iload 4, 2) := by decide +kernel
theorem dX5_unmatched_40 : decode cX5_unmatched 40 = .ok (.ireturn, 1) := by decide +kernel
theorem dX5_unmatched_41 : decode cX5_unmatched 41 = .ok (.aload_n 0, 1) := by decide +kernel
theorem dX5_unmatched_42 : decode cX5_unmatched 42 = .ok (.getfield 51, 3) := by decide +kernel
theorem dX5_unmatched_45 : decode cX5_unmatched 45 = .ok (.ifCond .eq 10, 3) := by decide +kernel
theorem dX5_unmatched_48 : decode cX5_unmatched 48 = .ok (.iload 4, 2) := by decide +kernel
theorem dX5_unmatched_50 : decode cX5_unmatched 50 = .ok (.iconst 1, 1) := by decide +kernel
theorem dX5_unmatched_51 : decode cX5_unmatched 51 = .ok (.isub, 1) := by decide +kernel
theorem dX5_unmatched_52 : decode cX5_unmatched 52 = .ok (.goto 7, 3) := by decide +kernel
theorem dX5_unmatched_55 : decode cX5_unmatched 55 = .ok (.iload 4, 2) := by decide +kernel
theorem dX5_unmatched_57 : decode cX5_unmatched 57 = .ok (.iconst 1, 1) := by decide +kernel
theorem dX5_unmatched_58 : decode cX5_unmatched 58 = .ok (.iadd, 1) := by decide +kernel
theorem dX5_unmatched_59 : decode cX5_unmatched 59 = .ok (.ireturn, 1) := by decide +kernel
theorem dX5_wayOf_0 : decode cX5_wayOf 0 = .ok (.iload_n 1, 1) := by decide +kernel
theorem dX5_wayOf_1 : decode cX5_wayOf 1 = .ok (.ifCond .lt 29, 3) := by decide +kernel
theorem dX5_wayOf_4 : decode cX5_wayOf 4 = .ok (.iload_n 1, 1) := by decide +kernel
theorem dX5_wayOf_5 : decode cX5_wayOf 5 = .ok (.aload_n 0, 1) := by decide +kernel
theorem dX5_wayOf_6 : decode cX5_wayOf 6 = .ok (.getfield 97, 3) := by decide +kernel
theorem dX5_wayOf_9 : decode cX5_wayOf 9 = .ok (.if_icmp .ge 21, 3) := by decide +kernel
theorem dX5_wayOf_12 : decode cX5_wayOf 12 = .ok (.iload_n 1, 1) := by decide +kernel
theorem dX5_wayOf_13 : decode cX5_wayOf 13 = .ok (.aload_n 0, 1) := by decide +kernel
theorem dX5_wayOf_14 : decode cX5_wayOf 14 = .ok (.getfield 9, 3) := by decide +kernel
theorem dX5_wayOf_17 : decode cX5_wayOf 17 = .ok (.arraylength, 1) := by decide +kernel
theorem dX5_wayOf_18 : decode cX5_wayOf 18 = .ok (.if_icmp .ge 12, 3) := by decide +kernel
theorem dX5_wayOf_21 : decode cX5_wayOf 21 = .ok (.aload_n 0, 1) := by decide +kernel
theorem dX5_wayOf_22 : decode cX5_wayOf 22 = .ok (.getfield 9, 3) := by decide +kernel
theorem dX5_wayOf_25 : decode cX5_wayOf 25 = .ok (.iload_n 1, 1) := by decide +kernel
theorem dX5_wayOf_26 : decode cX5_wayOf 26 = .ok (.iaload, 1) := by decide +kernel
theorem dX5_wayOf_27 : decode cX5_wayOf 27 = .ok (.goto 4, 3) := by decide +kernel
theorem dX5_wayOf_30 : decode cX5_wayOf 30 = .ok (.iconst (-1), 1) := by decide +kernel
theorem dX5_wayOf_31 : decode cX5_wayOf 31 = .ok (.ireturn, 1) := by decide +kernel
theorem dX5_firstWorking_0 : decode cX5_firstWorking 0 = .ok (.aload_n 0, 1) := by decide +kernel
theorem dX5_firstWorking_1 : decode cX5_firstWorking 1 = .ok (.iconst 0, 1) := by decide +kernel
theorem dX5_firstWorking_2 : decode cX5_firstWorking 2 = .ok (.putfield 97, 3) := by decide +kernel
theorem dX5_firstWorking_5 : decode cX5_firstWorking 5 = .ok (.aload_n 0, 1) := by decide +kernel
theorem dX5_firstWorking_6 : decode cX5_firstWorking 6 = .ok (.invokevirtual 100, 3) := by decide +kernel
theorem dX5_firstWorking_9 : decode cX5_firstWorking 9 = .ok (.ifCond .ne 5, 3) := by decide +kernel
theorem dX5_firstWorking_12 : decode cX5_firstWorking 12 = .ok (.iconst (-1), 1) := by decide +kernel
theorem dX5_firstWorking_13 : decode cX5_firstWorking 13 = .ok (.ireturn, 1) := by decide +kernel
theorem dX5_firstWorking_14 : decode cX5_firstWorking 14 = .ok (.aload_n 0, 1) := by decide +kernel
theorem dX5_firstWorking_15 : decode cX5_firstWorking 15 = .ok (.invokevirtual 103, 3) := by decide +kernel
theorem dX5_firstWorking_18 : decode cX5_firstWorking 18 = .ok (.istore_n 1, 1) := by decide +kernel
theorem dX5_firstWorking_19 : decode cX5_firstWorking 19 = .ok (.iconst 0, 1) := by decide +kernel
theorem dX5_firstWorking_20 : decode cX5_firstWorking 20 = .ok (.istore_n 2, 1) := by decide +kernel
theorem dX5_firstWorking_21 : decode cX5_firstWorking 21 = .ok (.iload_n 2, 1) := by decide +kernel
theorem dX5_firstWorking_22 : decode cX5_firstWorking 22 = .ok (.iload_n 1, 1) := by decide +kernel
theorem dX5_firstWorking_23 : decode cX5_firstWorking 23 = .ok (.if_icmp .ge 38, 3) := by decide +kernel
theorem dX5_firstWorking_26 : decode cX5_firstWorking 26 = .ok (.iload_n 2, 1) := by decide +kernel
theorem dX5_firstWorking_27 : decode cX5_firstWorking 27 = .ok (.aload_n 0, 1) := by decide +kernel
theorem dX5_firstWorking_28 : decode cX5_firstWorking 28 = .ok (.getfield 9, 3) := by decide +kernel
theorem dX5_firstWorking_31 : decode cX5_firstWorking 31 = .ok (.arraylength, 1) := by decide +kernel
theorem dX5_firstWorking_32 : decode cX5_firstWorking 32 = .ok (.if_icmp .ge 29, 3) := by decide +kernel
theorem dX5_firstWorking_35 : decode cX5_firstWorking 35 = .ok (.aload_n 0, 1) := by decide +kernel
theorem dX5_firstWorking_36 : decode cX5_firstWorking 36 = .ok (.getfield 9, 3) := by decide +kernel
theorem dX5_firstWorking_39 : decode cX5_firstWorking 39 = .ok (.iload_n 2, 1) := by decide +kernel
theorem dX5_firstWorking_40 : decode cX5_firstWorking 40 = .ok (.aload_n 0, 1) := by decide +kernel
theorem dX5_firstWorking_41 : decode cX5_firstWorking 41 = .ok (.invokevirtual 107, 3) := by decide +kernel
theorem dX5_firstWorking_44 : decode cX5_firstWorking 44 = .ok (.iastore, 1) := by decide +kernel
theorem dX5_firstWorking_45 : decode cX5_firstWorking 45 = .ok (.aload_n 0, 1) := by decide +kernel
theorem dX5_firstWorking_46 : decode cX5_firstWorking 46 = .ok (.dup, 1) := by decide +kernel
theorem dX5_firstWorking_47 : decode cX5_firstWorking 47 = .ok (.getfield 97, 3) := by decide +kernel
theorem dX5_firstWorking_50 : decode cX5_firstWorking 50 = .ok (.iconst 1, 1) := by decide +kernel
theorem dX5_firstWorking_51 : decode cX5_firstWorking 51 = .ok (.iadd, 1) := by decide +kernel
theorem dX5_firstWorking_52 : decode cX5_firstWorking 52 = .ok (.putfield 97, 3) := by decide +kernel
theorem dX5_firstWorking_55 : decode cX5_firstWorking 55 = .ok (.iinc 2 1, 3) := by decide +kernel
theorem dX5_firstWorking_58 : decode cX5_firstWorking 58 = .ok (.goto (-37), 3) := by decide +kernel
theorem dX5_firstWorking_61 : decode cX5_firstWorking 61 = .ok (.iload_n 1, 1) := by decide +kernel
theorem dX5_firstWorking_62 : decode cX5_firstWorking 62 = .ok (.ireturn, 1) := by decide +kernel
theorem dX5_leastWay_0 : decode cX5_leastWay 0 = .ok (.aload_n 0, 1) := by decide +kernel
theorem dX5_leastWay_1 : decode cX5_leastWay 1 = .ok (.getfield 50, 3) := by decide +kernel
theorem dX5_leastWay_4 : decode cX5_leastWay 4 = .ok (.istore_n 1, 1) := by decide +kernel
theorem dX5_leastWay_5 : decode cX5_leastWay 5 = .ok (.iconst 0, 1) := by decide +kernel
theorem dX5_leastWay_6 : decode cX5_leastWay 6 = .ok (.istore_n 2, 1) := by decide +kernel
theorem dX5_leastWay_7 : decode cX5_leastWay 7 = .ok (.iload_n 2, 1) := by decide +kernel
theorem dX5_leastWay_8 : decode cX5_leastWay 8 = .ok (.bipush 8, 2) := by decide +kernel
theorem dX5_leastWay_10 : decode cX5_leastWay 10 = .ok (.if_icmp .ge 70, 3) := by decide +kernel
theorem dX5_leastWay_13 : decode cX5_leastWay 13 = .ok (.aload_n 0, 1) := by decide +kernel
theorem dX5_leastWay_14 : decode cX5_leastWay 14 = .ok (.getfield 15, 3) := by decide +kernel
theorem dX5_leastWay_17 : decode cX5_leastWay 17 = .ok (.iload_n 1, 1) := by decide +kernel
theorem dX5_leastWay_18 : decode cX5_leastWay 18 = .ok (.iload_n 2, 1) := by decide +kernel
theorem dX5_leastWay_19 : decode cX5_leastWay 19 = .ok (.invokevirtual 110, 3) := by decide +kernel
theorem dX5_leastWay_22 : decode cX5_leastWay 22 = .ok (.istore_n 3, 1) := by decide +kernel
theorem dX5_leastWay_23 : decode cX5_leastWay 23 = .ok (.iload_n 3, 1) := by decide +kernel
theorem dX5_leastWay_24 : decode cX5_leastWay 24 = .ok (.iconst (-1), 1) := by decide +kernel
theorem dX5_leastWay_25 : decode cX5_leastWay 25 = .ok (.if_icmp .eq 49, 3) := by decide +kernel
theorem dX5_leastWay_28 : decode cX5_leastWay 28 = .ok (.aload_n 0, 1) := by decide +kernel
theorem dX5_leastWay_29 : decode cX5_leastWay 29 = .ok (.getfield 51, 3) := by decide +kernel
theorem dX5_leastWay_32 : decode cX5_leastWay 32 = .ok (.ifCond .eq 10, 3) := by decide +kernel
theorem dX5_leastWay_35 : decode cX5_leastWay 35 = .ok (.aload_n 0, 1) := by decide +kernel
theorem dX5_leastWay_36 : decode cX5_leastWay 36 = .ok (.getfield 43, 3) := by decide +kernel
theorem dX5_leastWay_39 : decode cX5_leastWay 39 = .ok (.goto 7, 3) := by decide +kernel
theorem dX5_leastWay_42 : decode cX5_leastWay 42 = .ok (.aload_n 0, 1) := by decide +kernel
theorem dX5_leastWay_43 : decode cX5_leastWay 43 = .ok (.getfield 47, 3) := by decide +kernel
theorem dX5_leastWay_46 : decode cX5_leastWay 46 = .ok (.iload_n 3, 1) := by decide +kernel
theorem dX5_leastWay_47 : decode cX5_leastWay 47 = .ok (.lshr, 1) := by decide +kernel
theorem dX5_leastWay_48 : decode cX5_leastWay 48 = .ok (.lconst 1, 1) := by decide +kernel
theorem dX5_leastWay_49 : decode cX5_leastWay 49 = .ok (.land, 1) := by decide +kernel
theorem dX5_leastWay_50 : decode cX5_leastWay 50 = .ok (.lconst 0, 1) := by decide +kernel
theorem dX5_leastWay_51 : decode cX5_leastWay 51 = .ok (.lcmp, 1) := by decide +kernel
theorem dX5_leastWay_52 : decode cX5_leastWay 52 = .ok (.ifCond .eq 22, 3) := by decide +kernel
theorem dX5_leastWay_55 : decode cX5_leastWay 55 = .ok (.aload_n 0, 1) := by decide +kernel
theorem dX5_leastWay_56 : decode cX5_leastWay 56 = .ok (.iload_n 3, 1) := by decide +kernel
theorem dX5_leastWay_57 : decode cX5_leastWay 57 = .ok (.invokevirtual 114, 3) := by decide +kernel
theorem dX5_leastWay_60 : decode cX5_leastWay 60 = .ok (.aload_n 0, 1) := by decide +kernel
theorem dX5_leastWay_61 : decode cX5_leastWay 61 = .ok (.invokevirtual 72, 3) := by decide +kernel
theorem dX5_leastWay_64 : decode cX5_leastWay 64 = .ok (.ifCond .eq 5, 3) := by decide +kernel
theorem dX5_leastWay_67 : decode cX5_leastWay 67 = .ok (.iload_n 2, 1) := by decide +kernel
theorem dX5_leastWay_68 : decode cX5_leastWay 68 = .ok (.ireturn, 1) := by decide +kernel
theorem dX5_leastWay_69 : decode cX5_leastWay 69 = .ok (.aload_n 0, 1) := by decide +kernel
theorem dX5_leastWay_70 : decode cX5_leastWay 70 = .ok (.iload_n 3, 1) := by decide +kernel
theorem dX5_leastWay_71 : decode cX5_leastWay 71 = .ok (.invokevirtual 118, 3) := by decide +kernel
theorem dX5_leastWay_74 : decode cX5_leastWay 74 = .ok (.iinc 2 1, 3) := by decide +kernel
theorem dX5_leastWay_77 : decode cX5_leastWay 77 = .ok (.goto (-70), 3) := by decide +kernel
theorem dX5_leastWay_80 : decode cX5_leastWay 80 = .ok (.iconst (-1), 1) := by decide +kernel
theorem dX5_leastWay_81 : decode cX5_leastWay 81 = .ok (.ireturn, 1) := by decide +kernel
theorem dX5_goAlong_0 : decode cX5_goAlong 0 = .ok (.aload_n 0, 1) := by decide +kernel
theorem dX5_goAlong_1 : decode cX5_goAlong 1 = .ok (.iload_n 1, 1) := by decide +kernel
theorem dX5_goAlong_2 : decode cX5_goAlong 2 = .ok (.invokevirtual 121, 3) := by decide +kernel
theorem dX5_goAlong_5 : decode cX5_goAlong 5 = .ok (.aload_n 0, 1) := by decide +kernel
theorem dX5_goAlong_6 : decode cX5_goAlong 6 = .ok (.aload_n 0, 1) := by decide +kernel
theorem dX5_goAlong_7 : decode cX5_goAlong 7 = .ok (.getfield 51, 3) := by decide +kernel
theorem dX5_goAlong_10 : decode cX5_goAlong 10 = .ok (.ifCond .ne 7, 3) := by decide +kernel
theorem dX5_goAlong_13 : decode cX5_goAlong 13 = .ok (.iconst 1, 1) := by decide +kernel
theorem dX5_goAlong_14 : decode cX5_goAlong 14 = .ok (.goto 4, 3) := by decide +kernel
theorem dX5_goAlong_17 : decode cX5_goAlong 17 = .ok (.iconst 0, 1) := by decide +kernel
theorem dX5_goAlong_18 : decode cX5_goAlong 18 = .ok (.putfield 51, 3) := by decide +kernel
theorem dX5_goAlong_21 : decode cX5_goAlong 21 = .ok (.aload_n 0, 1) := by decide +kernel
theorem dX5_goAlong_22 : decode cX5_goAlong 22 = .ok (.aload_n 0, 1) := by decide +kernel
theorem dX5_goAlong_23 : decode cX5_goAlong 23 = .ok (.getfield 15, 3) := by decide +kernel
theorem dX5_goAlong_26 : decode cX5_goAlong 26 = .ok (.iload_n 1, 1) := by decide +kernel
theorem dX5_goAlong_27 : decode cX5_goAlong 27 = .ok (.aload_n 0, 1) := by decide +kernel
theorem dX5_goAlong_28 : decode cX5_goAlong 28 = .ok (.getfield 50, 3) := by decide +kernel
theorem dX5_goAlong_31 : decode cX5_goAlong 31 = .ok (.invokevirtual 124, 3) := by decide +kernel
theorem dX5_goAlong_34 : decode cX5_goAlong 34 = .ok (.putfield 50, 3) := by decide +kernel
theorem dX5_goAlong_37 : decode cX5_goAlong 37 = .ok (.return_, 1) := by decide +kernel
theorem dX5_goBackAlong_0 : decode cX5_goBackAlong 0 = .ok (.aload_n 0, 1) := by decide +kernel
theorem dX5_goBackAlong_1 : decode cX5_goBackAlong 1 = .ok (.aload_n 0, 1) := by decide +kernel
theorem dX5_goBackAlong_2 : decode cX5_goBackAlong 2 = .ok (.getfield 51, 3) := by decide +kernel
theorem dX5_goBackAlong_5 : decode cX5_goBackAlong 5 = .ok (.ifCond .ne 7, 3) := by decide +kernel
theorem dX5_goBackAlong_8 : decode cX5_goBackAlong 8 = .ok (.iconst 1, 1) := by decide +kernel
theorem dX5_goBackAlong_9 : decode cX5_goBackAlong 9 = .ok (.goto 4, 3) := by decide +kernel
theorem dX5_goBackAlong_12 : decode cX5_goBackAlong 12 = .ok (.iconst 0, 1) := by decide +kernel
theorem dX5_goBackAlong_13 : decode cX5_goBackAlong 13 = .ok (.putfield 51, 3) := by decide +kernel
theorem dX5_goBackAlong_16 : decode cX5_goBackAlong 16 = .ok (.aload_n 0, 1) := by decide +kernel
theorem dX5_goBackAlong_17 : decode cX5_goBackAlong 17 = .ok (.iload_n 1, 1) := by decide +kernel
theorem dX5_goBackAlong_18 : decode cX5_goBackAlong 18 = .ok (.invokevirtual 121, 3) := by decide +kernel
theorem dX5_goBackAlong_21 : decode cX5_goBackAlong 21 = .ok (.aload_n 0, 1) := by decide +kernel
theorem dX5_goBackAlong_22 : decode cX5_goBackAlong 22 = .ok (.aload_n 0, 1) := by decide +kernel
theorem dX5_goBackAlong_23 : decode cX5_goBackAlong 23 = .ok (.getfield 15, 3) := by decide +kernel
theorem dX5_goBackAlong_26 : decode cX5_goBackAlong 26 = .ok (.iload_n 1, 1) := by decide +kernel
theorem dX5_goBackAlong_27 : decode cX5_goBackAlong 27 = .ok (.aload_n 0, 1) := by decide +kernel
theorem dX5_goBackAlong_28 : decode cX5_goBackAlong 28 = .ok (.getfield 50, 3) := by decide +kernel
theorem dX5_goBackAlong_31 : decode cX5_goBackAlong 31 = .ok (.invokevirtual 124, 3) := by decide +kernel
theorem dX5_goBackAlong_34 : decode cX5_goBackAlong 34 = .ok (.putfield 50, 3) := by decide +kernel
theorem dX5_goBackAlong_37 : decode cX5_goBackAlong 37 = .ok (.return_, 1) := by decide +kernel
theorem dX5_turn_0 : decode cX5_turn 0 = .ok (.aload_n 0, 1) := by decide +kernel
theorem dX5_turn_1 : decode cX5_turn 1 = .ok (.getfield 51, 3) := by decide +kernel
theorem dX5_turn_4 : decode cX5_turn 4 = .ok (.ifCond .eq 18, 3) := by decide +kernel
theorem dX5_turn_7 : decode cX5_turn 7 = .ok (.aload_n 0, 1) := by decide +kernel
theorem dX5_turn_8 : decode cX5_turn 8 = .ok (.dup, 1) := by decide +kernel
theorem dX5_turn_9 : decode cX5_turn 9 = .ok (.getfield 43, 3) := by decide +kernel
theorem dX5_turn_12 : decode cX5_turn 12 = .ok (.lconst 1, 1) := by decide +kernel
theorem dX5_turn_13 : decode cX5_turn 13 = .ok (.iload_n 1, 1) := by decide +kernel
theorem dX5_turn_14 : decode cX5_turn 14 = .ok (.lshl, 1) := by decide +kernel
theorem dX5_turn_15 : decode cX5_turn 15 = .ok (.lxor, 1) := by decide +kernel
theorem dX5_turn_16 : decode cX5_turn 16 = .ok (.putfield 43, 3) := by decide +kernel
theorem dX5_turn_19 : decode cX5_turn 19 = .ok (.goto 15, 3) := by decide +kernel
theorem dX5_turn_22 : decode cX5_turn 22 = .ok (.aload_n 0, 1) := by decide +kernel
theorem dX5_turn_23 : decode cX5_turn 23 = .ok (.dup, 1) := by decide +kernel
theorem dX5_turn_24 : decode cX5_turn 24 = .ok (.getfield 47, 3) := by decide +kernel
theorem dX5_turn_27 : decode cX5_turn 27 = .ok (.lconst 1, 1) := by decide +kernel
theorem dX5_turn_28 : decode cX5_turn 28 = .ok (.iload_n 1, 1) := by decide +kernel
theorem dX5_turn_29 : decode cX5_turn 29 = .ok (.lshl, 1) := by decide +kernel
theorem dX5_turn_30 : decode cX5_turn 30 = .ok (.lxor, 1) := by decide +kernel
theorem dX5_turn_31 : decode cX5_turn 31 = .ok (.putfield 47, 3) := by decide +kernel
theorem dX5_turn_34 : decode cX5_turn 34 = .ok (.return_, 1) := by decide +kernel
theorem dX5_countWorkings_0 : decode cX5_countWorkings 0 = .ok (.aload_n 0, 1) := by decide +kernel
theorem dX5_countWorkings_1 : decode cX5_countWorkings 1 = .ok (.invokevirtual 103, 3) := by decide +kernel
theorem dX5_countWorkings_4 : decode cX5_countWorkings 4 = .ok (.bipush 16, 2) := by decide +kernel
theorem dX5_countWorkings_6 : decode cX5_countWorkings 6 = .ok (.if_icmp .le 6, 3) := by decide +kernel
theorem dX5_countWorkings_9 : decode cX5_countWorkings 9 = .ok (.bipush (-2), 2) := by decide +kernel
theorem dX5_countWorkings_11 : decode cX5_countWorkings 11 = .ok (.ireturn, 1) := by decide +kernel
theorem dX5_countWorkings_12 : decode cX5_countWorkings 12 = .ok (.aload_n 0, 1) := by decide +kernel
theorem dX5_countWorkings_13 : decode cX5_countWorkings 13 = .ok (.invokevirtual 100, 3) := by decide +kernel
theorem dX5_countWorkings_16 : decode cX5_countWorkings 16 = .ok (.ifCond .eq 30, 3) := by decide +kernel
theorem dX5_countWorkings_19 : decode cX5_countWorkings 19 = .ok (.aload_n 0, 1) := by decide +kernel
theorem dX5_countWorkings_20 : decode cX5_countWorkings 20 = .ok (.getfield 15, 3) := by decide +kernel
theorem dX5_countWorkings_23 : decode cX5_countWorkings 23 = .ok (.aload_n 0, 1) := by decide +kernel
theorem dX5_countWorkings_24 : decode cX5_countWorkings 24 = .ok (.getfield 43, 3) := by decide +kernel
theorem dX5_countWorkings_27 : decode cX5_countWorkings 27 = .ok (.aload_n 0, 1) := by decide +kernel
theorem dX5_countWorkings_28 : decode cX5_countWorkings 28 = .ok (.getfield 47, 3) := by decide +kernel
theorem dX5_countWorkings_31 : decode cX5_countWorkings 31 = .ok (.aload_n 0, 1) := by decide +kernel
theorem dX5_countWorkings_32 : decode cX5_countWorkings 32 = .ok (.getfield 50, 3) := by decide +kernel
theorem dX5_countWorkings_35 : decode cX5_countWorkings 35 = .ok (.aload_n 0, 1) := by decide +kernel
theorem dX5_countWorkings_36 : decode cX5_countWorkings 36 = .ok (.getfield 51, 3) := by decide +kernel
theorem dX5_countWorkings_39 : decode cX5_countWorkings 39 = .ok (.iconst 0, 1) := by decide +kernel
theorem dX5_countWorkings_40 : decode cX5_countWorkings 40 = .ok (.invokestatic 127, 3) := by decide +kernel
theorem dX5_countWorkings_43 : decode cX5_countWorkings 43 = .ok (.goto 4, 3) := by decide +kernel
theorem dX5_countWorkings_46 : decode cX5_countWorkings 46 = .ok (.iconst 0, 1) := by decide +kernel
theorem dX5_countWorkings_47 : decode cX5_countWorkings 47 = .ok (.ireturn, 1) := by decide +kernel
theorem dX5_workings_0 : decode cX5_workings 0 = .ok (.lload_n 1, 1) := by decide +kernel
theorem dX5_workings_1 : decode cX5_workings 1 = .ok (.lload_n 3, 1) := by decide +kernel
theorem dX5_workings_2 : decode cX5_workings 2 = .ok (.lor, 1) := by decide +kernel
theorem dX5_workings_3 : decode cX5_workings 3 = .ok (.lconst 0, 1) := by decide +kernel
theorem dX5_workings_4 : decode cX5_workings 4 = .ok (.lcmp, 1) := by decide +kernel
theorem dX5_workings_5 : decode cX5_workings 5 = .ok (.ifCond .eq 10, 3) := by decide +kernel
theorem dX5_workings_8 : decode cX5_workings 8 = .ok (.iload 7, 2) := by decide +kernel
theorem dX5_workings_10 : decode cX5_workings 10 = .ok (.bipush 16, 2) := by decide +kernel
theorem dX5_workings_12 : decode cX5_workings 12 = .ok (.if_icmp .le 5, 3) := by decide +kernel
theorem dX5_workings_15 : decode cX5_workings 15 = .ok (.iconst 1, 1) := by decide +kernel
theorem dX5_workings_16 : decode cX5_workings 16 = .ok (.ireturn, 1) := by decide +kernel
theorem dX5_workings_17 : decode cX5_workings 17 = .ok (.iconst 0, 1) := by decide +kernel
theorem dX5_workings_18 : decode cX5_workings 18 = .ok (.istore 8, 2) := by decide +kernel
theorem dX5_workings_20 : decode cX5_workings 20 = .ok (.aload_n 0, 1) := by decide +kernel
theorem dX5_workings_21 : decode cX5_workings 21 = .ok (.iload 5, 2) := by decide +kernel
theorem dX5_workings_23 : decode cX5_workings 23 = .ok (.invokevirtual 94, 3) := by decide +kernel
theorem dX5_workings_26 : decode cX5_workings 26 = .ok (.iload 6, 2) := by decide +kernel
theorem dX5_workings_28 : decode cX5_workings 28 = .ok (.ifCond .eq 7, 3) := by decide +kernel
theorem dX5_workings_31 : decode cX5_workings 31 = .ok (.lload_n 1, 1) := by decide +kernel
theorem dX5_workings_32 : decode cX5_workings 32 = .ok (.goto 4, 3) := by decide +kernel
theorem dX5_workings_35 : decode cX5_workings 35 = .ok (.lload_n 3, 1) := by decide +kernel
theorem dX5_workings_36 : decode cX5_workings 36 = .ok (.land, 1) := by decide +kernel
theorem dX5_workings_37 : decode cX5_workings 37 = .ok (.lstore 9, 2) := by decide +kernel
theorem dX5_workings_39 : decode cX5_workings 39 = .ok (.iconst 0, 1) := by decide +kernel
theorem dX5_workings_40 : decode cX5_workings 40 = .ok (.istore 11, 2) := by decide +kernel
theorem dX5_workings_42 : decode cX5_workings 42 = .ok (.iload 11, 2) := by decide +kernel
theorem dX5_workings_44 : decode cX5_workings 44 = .ok (.bipush 8, 2) := by decide +kernel
theorem dX5_workings_46 : decode cX5_workings 46 = .ok (.if_icmp .ge 94, 3) := by decide +kernel
theorem dX5_workings_49 : decode cX5_workings 49 = .ok (.lload 9, 2) := by decide +kernel
theorem dX5_workings_51 : decode cX5_workings 51 = .ok (.lconst 0, 1) := by decide +kernel
theorem dX5_workings_52 : decode cX5_workings 52 = .ok (.lcmp, 1) := by decide +kernel
theorem dX5_workings_53 : decode cX5_workings 53 = .ok (.ifCond .eq 87, 3) := by decide +kernel
theorem dX5_workings_56 : decode cX5_workings 56 = .ok (.lload 9, 2) := by decide +kernel
theorem dX5_workings_58 : decode cX5_workings 58 = .ok (.lload 9, 2) := by decide +kernel
theorem dX5_workings_60 : decode cX5_workings 60 = .ok (.lneg, 1) := by decide +kernel
theorem dX5_workings_61 : decode cX5_workings 61 = .ok (.land, 1) := by decide +kernel
theorem dX5_workings_62 : decode cX5_workings 62 = .ok (.lstore 12, 2) := by decide +kernel
theorem dX5_workings_64 : decode cX5_workings 64 = .ok (.aload_n 0, 1) := by decide +kernel
theorem dX5_workings_65 : decode cX5_workings 65 = .ok (.lload 12, 2) := by decide +kernel
theorem dX5_workings_67 : decode cX5_workings 67 = .ok (.invokestatic 87, 3) := by decide +kernel
theorem dX5_workings_70 : decode cX5_workings 70 = .ok (.iload 5, 2) := by decide +kernel
theorem dX5_workings_72 : decode cX5_workings 72 = .ok (.invokevirtual 124, 3) := by decide +kernel
theorem dX5_workings_75 : decode cX5_workings 75 = .ok (.istore 14, 2) := by decide +kernel
theorem dX5_workings_77 : decode cX5_workings 77 = .ok (.iload 6, 2) := by decide +kernel
theorem dX5_workings_79 : decode cX5_workings 79 = .ok (.ifCond .eq 27, 3) := by decide +kernel
theorem dX5_workings_82 : decode cX5_workings 82 = .ok (.iload 8, 2) := by decide +kernel
theorem dX5_workings_84 : decode cX5_workings 84 = .ok (.aload_n 0, 1) := by decide +kernel
theorem dX5_workings_85 : decode cX5_workings 85 = .ok (.lload_n 1, 1) := by decide +kernel
theorem dX5_workings_86 : decode cX5_workings 86 = .ok (.lload 12, 2) := by decide +kernel
theorem dX5_workings_88 : decode cX5_workings 88 = .ok (.lxor, 1) := by decide +kernel
theorem dX5_workings_89 : decode cX5_workings 89 = .ok (.lload_n 3, 1) := by decide +kernel
theorem dX5_workings_90 : decode cX5_workings 90 = .ok (.iload 14, 2) := by decide +kernel
theorem dX5_workings_92 : decode cX5_workings 92 = .ok (.iconst 0, 1) := by decide +kernel
theorem dX5_workings_93 : decode cX5_workings 93 = .ok (.iload 7, 2) := by decide +kernel
theorem dX5_workings_95 : decode cX5_workings 95 = .ok (.iconst 1, 1) := by decide +kernel
theorem dX5_workings_96 : decode cX5_workings 96 = .ok (.iadd, 1) := by decide +kernel
theorem dX5_workings_97 : decode cX5_workings 97 = .ok (.invokestatic 127, 3) := by decide +kernel
theorem dX5_workings_100 : decode cX5_workings 100 = .ok (.iadd, 1) := by decide +kernel
theorem dX5_workings_101 : decode cX5_workings 101 = .ok (.istore 8, 2) := by decide +kernel
theorem dX5_workings_103 : decode cX5_workings 103 = .ok (.goto 24, 3) := by decide +kernel
theorem dX5_workings_106 : decode cX5_workings 106 = .ok (.iload 8, 2) := by decide +kernel
theorem dX5_workings_108 : decode cX5_workings 108 = .ok (.aload_n 0, 1) := by decide +kernel
theorem dX5_workings_109 : decode cX5_workings 109 = .ok (.lload_n 1, 1) := by decide +kernel
theorem dX5_workings_110 : decode cX5_workings 110 = .ok (.lload_n 3, 1) := by decide +kernel
theorem dX5_workings_111 : decode cX5_workings 111 = .ok (.lload 12, 2) := by decide +kernel
theorem dX5_workings_113 : decode cX5_workings 113 = .ok (.lxor, 1) := by decide +kernel
theorem dX5_workings_114 : decode cX5_workings 114 = .ok (.iload 14, 2) := by decide +kernel
theorem dX5_workings_116 : decode cX5_workings 116 = .ok (.iconst 1, 1) := by decide +kernel
theorem dX5_workings_117 : decode cX5_workings 117 = .ok (.iload 7, 2) := by decide +kernel
theorem dX5_workings_119 : decode cX5_workings 119 = .ok (.iconst 1, 1) := by decide +kernel
theorem dX5_workings_120 : decode cX5_workings 120 = .ok (.iadd, 1) := by decide +kernel
theorem dX5_workings_121 : decode cX5_workings 121 = .ok (.invokestatic 127, 3) := by decide +kernel
theorem dX5_workings_124 : decode cX5_workings 124 = .ok (.iadd, 1) := by decide +kernel
theorem dX5_workings_125 : decode cX5_workings 125 = .ok (.istore 8, 2) := by decide +kernel
theorem dX5_workings_127 : decode cX5_workings 127 = .ok (.lload 9, 2) := by decide +kernel
theorem dX5_workings_129 : decode cX5_workings 129 = .ok (.lload 12, 2) := by decide +kernel
theorem dX5_workings_131 : decode cX5_workings 131 = .ok (.lxor, 1) := by decide +kernel
theorem dX5_workings_132 : decode cX5_workings 132 = .ok (.lstore 9, 2) := by decide +kernel
theorem dX5_workings_134 : decode cX5_workings 134 = .ok (.iinc 11 1, 3) := by decide +kernel
theorem dX5_workings_137 : decode cX5_workings 137 = .ok (.goto (-95), 3) := by decide +kernel
theorem dX5_workings_140 : decode cX5_workings 140 = .ok (.iload 8, 2) := by decide +kernel
theorem dX5_workings_142 : decode cX5_workings 142 = .ok (.ireturn, 1) := by decide +kernel
theorem dX5_countPlaces_0 : decode cX5_countPlaces 0 = .ok (.iconst 0, 1) := by decide +kernel
theorem dX5_countPlaces_1 : decode cX5_countPlaces 1 = .ok (.istore_n 3, 1) := by decide +kernel
theorem dX5_countPlaces_2 : decode cX5_countPlaces 2 = .ok (.iconst 0, 1) := by decide +kernel
theorem dX5_countPlaces_3 : decode cX5_countPlaces 3 = .ok (.istore 4, 2) := by decide +kernel
theorem dX5_countPlaces_5 : decode cX5_countPlaces 5 = .ok (.iload 4, 2) := by decide +kernel
theorem dX5_countPlaces_7 : decode cX5_countPlaces 7 = .ok (.sipush 144, 3) := by decide +kernel
theorem dX5_countPlaces_10 : decode cX5_countPlaces 10 = .ok (.if_icmp .ge 73, 3) := by decide +kernel
theorem dX5_countPlaces_13 : decode cX5_countPlaces 13 = .ok (.aload_n 0, 1) := by decide +kernel
theorem dX5_countPlaces_14 : decode cX5_countPlaces 14 = .ok (.aload_n 1, 1) := by decide +kernel
theorem dX5_countPlaces_15 : decode cX5_countPlaces 15 = .ok (.iload_n 2, 1) := by decide +kernel
theorem dX5_countPlaces_16 : decode cX5_countPlaces 16 = .ok (.invokevirtual 25, 3) := by decide +kernel
theorem dX5_countPlaces_19 : decode cX5_countPlaces 19 = .ok (.aload_n 1, 1) := by decide +kernel
theorem dX5_countPlaces_20 : decode cX5_countPlaces 20 = .ok (.iload_n 2, 1) := by decide +kernel
theorem dX5_countPlaces_21 : decode cX5_countPlaces 21 = .ok (.invokevirtual 29, 3) := by decide +kernel
theorem dX5_countPlaces_24 : decode cX5_countPlaces 24 = .ok (.iload 4, 2) := by decide +kernel
theorem dX5_countPlaces_26 : decode cX5_countPlaces 26 = .ok (.iconst 1, 1) := by decide +kernel
theorem dX5_countPlaces_27 : decode cX5_countPlaces 27 = .ok (.invokevirtual 39, 3) := by decide +kernel
theorem dX5_countPlaces_30 : decode cX5_countPlaces 30 = .ok (.iload_n 3, 1) := by decide +kernel
theorem dX5_countPlaces_31 : decode cX5_countPlaces 31 = .ok (.aload_n 0, 1) := by decide +kernel
theorem dX5_countPlaces_32 : decode cX5_countPlaces 32 = .ok (.invokevirtual 100, 3) := by decide +kernel
theorem dX5_countPlaces_35 : decode cX5_countPlaces 35 = .ok (.ifCond .eq 7, 3) := by decide +kernel
theorem dX5_countPlaces_38 : decode cX5_countPlaces 38 = .ok (.iconst 1, 1) := by decide +kernel
theorem dX5_countPlaces_39 : decode cX5_countPlaces 39 = .ok (.goto 4, 3) := by decide +kernel
theorem dX5_countPlaces_42 : decode cX5_countPlaces 42 = .ok (.iconst 0, 1) := by decide +kernel
theorem dX5_countPlaces_43 : decode cX5_countPlaces 43 = .ok (.iadd, 1) := by decide +kernel
theorem dX5_countPlaces_44 : decode cX5_countPlaces 44 = .ok (.istore_n 3, 1) := by decide +kernel
theorem dX5_countPlaces_45 : decode cX5_countPlaces 45 = .ok (.aload_n 0, 1) := by decide +kernel
theorem dX5_countPlaces_46 : decode cX5_countPlaces 46 = .ok (.aload_n 1, 1) := by decide +kernel
theorem dX5_countPlaces_47 : decode cX5_countPlaces 47 = .ok (.iload_n 2, 1) := by decide +kernel
theorem dX5_countPlaces_48 : decode cX5_countPlaces 48 = .ok (.invokevirtual 25, 3) := by decide +kernel
theorem dX5_countPlaces_51 : decode cX5_countPlaces 51 = .ok (.aload_n 1, 1) := by decide +kernel
theorem dX5_countPlaces_52 : decode cX5_countPlaces 52 = .ok (.iload_n 2, 1) := by decide +kernel
theorem dX5_countPlaces_53 : decode cX5_countPlaces 53 = .ok (.invokevirtual 29, 3) := by decide +kernel
theorem dX5_countPlaces_56 : decode cX5_countPlaces 56 = .ok (.iload 4, 2) := by decide +kernel
theorem dX5_countPlaces_58 : decode cX5_countPlaces 58 = .ok (.iconst 0, 1) := by decide +kernel
theorem dX5_countPlaces_59 : decode cX5_countPlaces 59 = .ok (.invokevirtual 39, 3) := by decide +kernel
theorem dX5_countPlaces_62 : decode cX5_countPlaces 62 = .ok (.iload_n 3, 1) := by decide +kernel
theorem dX5_countPlaces_63 : decode cX5_countPlaces 63 = .ok (.aload_n 0, 1) := by decide +kernel
theorem dX5_countPlaces_64 : decode cX5_countPlaces 64 = .ok (.invokevirtual 100, 3) := by decide +kernel
theorem dX5_countPlaces_67 : decode cX5_countPlaces 67 = .ok (.ifCond .eq 7, 3) := by decide +kernel
theorem dX5_countPlaces_70 : decode cX5_countPlaces 70 = .ok (.iconst 1, 1) := by decide +kernel
theorem dX5_countPlaces_71 : decode cX5_countPlaces 71 = .ok (.goto 4, 3) := by decide +kernel
theorem dX5_countPlaces_74 : decode cX5_countPlaces 74 = .ok (.iconst 0, 1) := by decide +kernel
theorem dX5_countPlaces_75 : decode cX5_countPlaces 75 = .ok (.iadd, 1) := by decide +kernel
theorem dX5_countPlaces_76 : decode cX5_countPlaces 76 = .ok (.istore_n 3, 1) := by decide +kernel
theorem dX5_countPlaces_77 : decode cX5_countPlaces 77 = .ok (.iinc 4 1, 3) := by decide +kernel
theorem dX5_countPlaces_80 : decode cX5_countPlaces 80 = .ok (.goto (-75), 3) := by decide +kernel
theorem dX5_countPlaces_83 : decode cX5_countPlaces 83 = .ok (.iload_n 3, 1) := by decide +kernel
theorem dX5_countPlaces_84 : decode cX5_countPlaces 84 = .ok (.ireturn, 1) := by decide +kernel
theorem dX6_init_0 : decode cX6_init 0 = .ok (.aload_n 0, 1) := by decide +kernel
theorem dX6_init_1 : decode cX6_init 1 = .ok (.invokespecial 3, 3) := by decide +kernel
theorem dX6_init_4 : decode cX6_init 4 = .ok (.aload_n 0, 1) := by decide +kernel
theorem dX6_init_5 : decode cX6_init 5 = .ok (.sipush 200, 3) := by decide +kernel
theorem dX6_init_8 : decode cX6_init 8 = .ok (.newarray .int, 2) := by decide +kernel
theorem dX6_init_10 : decode cX6_init 10 = .ok (.putfield 11, 3) := by decide +kernel
theorem dX6_init_13 : decode cX6_init 13 = .ok (.aload_n 0, 1) := by decide +kernel
theorem dX6_init_14 : decode cX6_init 14 = .ok (.sipush 200, 3) := by decide +kernel
theorem dX6_init_17 : decode cX6_init 17 = .ok (.newarray .int, 2) := by decide +kernel
theorem dX6_init_19 : decode cX6_init 19 = .ok (.putfield 15, 3) := by decide +kernel
theorem dX6_init_22 : decode cX6_init 22 = .ok (.aload_n 0, 1) := by decide +kernel
theorem dX6_init_23 : decode cX6_init 23 = .ok (.sipush 200, 3) := by decide +kernel
theorem dX6_init_26 : decode cX6_init 26 = .ok (.newarray .int, 2) := by decide +kernel
theorem dX6_init_28 : decode cX6_init 28 = .ok (.putfield 18, 3) := by decide +kernel
theorem dX6_init_31 : decode cX6_init 31 = .ok (.aload_n 0, 1) := by decide +kernel
theorem dX6_init_32 : decode cX6_init 32 = .ok (.sipush 200, 3) := by decide +kernel
theorem dX6_init_35 : decode cX6_init 35 = .ok (.newarray .int, 2) := by decide +kernel
theorem dX6_init_37 : decode cX6_init 37 = .ok (.putfield 21, 3) := by decide +kernel
theorem dX6_init_40 : decode cX6_init 40 = .ok (.return_, 1) := by decide +kernel
theorem dX6_clear_0 : decode cX6_clear 0 = .ok (.aload_n 0, 1) := by decide +kernel
theorem dX6_clear_1 : decode cX6_clear 1 = .ok (.iconst 0, 1) := by decide +kernel
theorem dX6_clear_2 : decode cX6_clear 2 = .ok (.putfield 24, 3) := by decide +kernel
theorem dX6_clear_5 : decode cX6_clear 5 = .ok (.return_, 1) := by decide +kernel
theorem dX6_add_0 : decode cX6_add 0 = .ok (.aload_n 0, 1) := by decide +kernel
theorem dX6_add_1 : decode cX6_add 1 = .ok (.getfield 24, 3) := by decide +kernel
theorem dX6_add_4 : decode cX6_add 4 = .ok (.ifCond .lt 64, 3) := by decide +kernel
theorem dX6_add_7 : decode cX6_add 7 = .ok (.aload_n 0, 1) := by decide +kernel
theorem dX6_add_8 : decode cX6_add 8 = .ok (.getfield 24, 3) := by decide +kernel
theorem dX6_add_11 : decode cX6_add 11 = .ok (.sipush 200, 3) := by decide +kernel
theorem dX6_add_14 : decode cX6_add 14 = .ok (.if_icmp .ge 54, 3) := by decide +kernel
theorem dX6_add_17 : decode cX6_add 17 = .ok (.aload_n 0, 1) := by decide +kernel
theorem dX6_add_18 : decode cX6_add 18 = .ok (.getfield 11, 3) := by decide +kernel
theorem dX6_add_21 : decode cX6_add 21 = .ok (.aload_n 0, 1) := by decide +kernel
theorem dX6_add_22 : decode cX6_add 22 = .ok (.getfield 24, 3) := by decide +kernel
theorem dX6_add_25 : decode cX6_add 25 = .ok (.iload_n 1, 1) := by decide +kernel
theorem dX6_add_26 : decode cX6_add 26 = .ok (.iastore, 1) := by decide +kernel
theorem dX6_add_27 : decode cX6_add 27 = .ok (.aload_n 0, 1) := by decide +kernel
theorem dX6_add_28 : decode cX6_add 28 = .ok (.getfield 15, 3) := by decide +kernel
theorem dX6_add_31 : decode cX6_add 31 = .ok (.aload_n 0, 1) := by decide +kernel
theorem dX6_add_32 : decode cX6_add 32 = .ok (.getfield 24, 3) := by decide +kernel
theorem dX6_add_35 : decode cX6_add 35 = .ok (.iload_n 2, 1) := by decide +kernel
theorem dX6_add_36 : decode cX6_add 36 = .ok (.iastore, 1) := by decide +kernel
theorem dX6_add_37 : decode cX6_add 37 = .ok (.aload_n 0, 1) := by decide +kernel
theorem dX6_add_38 : decode cX6_add 38 = .ok (.getfield 18, 3) := by decide +kernel
theorem dX6_add_41 : decode cX6_add 41 = .ok (.aload_n 0, 1) := by decide +kernel
theorem dX6_add_42 : decode cX6_add 42 = .ok (.getfield 24, 3) := by decide +kernel
theorem dX6_add_45 : decode cX6_add 45 = .ok (.iload_n 3, 1) := by decide +kernel
theorem dX6_add_46 : decode cX6_add 46 = .ok (.iastore, 1) := by decide +kernel
theorem dX6_add_47 : decode cX6_add 47 = .ok (.aload_n 0, 1) := by decide +kernel
theorem dX6_add_48 : decode cX6_add 48 = .ok (.getfield 21, 3) := by decide +kernel
theorem dX6_add_51 : decode cX6_add 51 = .ok (.aload_n 0, 1) := by decide +kernel
theorem dX6_add_52 : decode cX6_add 52 = .ok (.getfield 24, 3) := by decide +kernel
theorem dX6_add_55 : decode cX6_add 55 = .ok (.iload 4, 2) := by decide +kernel
theorem dX6_add_57 : decode cX6_add 57 = .ok (.iastore, 1) := by decide +kernel
theorem dX6_add_58 : decode cX6_add 58 = .ok (.aload_n 0, 1) := by decide +kernel
theorem dX6_add_59 : decode cX6_add 59 = .ok (.dup, 1) := by decide +kernel
theorem dX6_add_60 : decode cX6_add 60 = .ok (.getfield 24, 3) := by decide +kernel
theorem dX6_add_63 : decode cX6_add 63 = .ok (.iconst 1, 1) := by decide +kernel
theorem dX6_add_64 : decode cX6_add 64 = .ok (.iadd, 1) := by decide +kernel
theorem dX6_add_65 : decode cX6_add 65 = .ok (.putfield 24, 3) := by decide +kernel
theorem dX6_add_68 : decode cX6_add 68 = .ok (.return_, 1) := by decide +kernel
theorem dX6_close_0 : decode cX6_close 0 = .ok (.iload_n 1, 1) := by decide +kernel
theorem dX6_close_1 : decode cX6_close 1 = .ok (.ifCond .lt 10, 3) := by decide +kernel
theorem dX6_close_4 : decode cX6_close 4 = .ok (.iload_n 1, 1) := by decide +kernel
theorem dX6_close_5 : decode cX6_close 5 = .ok (.sipush 200, 3) := by decide +kernel
theorem dX6_close_8 : decode cX6_close 8 = .ok (.if_icmp .lt 4, 3) := by decide +kernel
theorem dX6_close_11 : decode cX6_close 11 = .ok (.return_, 1) := by decide +kernel
theorem dX6_close_12 : decode cX6_close 12 = .ok (.aload_n 0, 1) := by decide +kernel
theorem dX6_close_13 : decode cX6_close 13 = .ok (.getfield 18, 3) := by decide +kernel
theorem dX6_close_16 : decode cX6_close 16 = .ok (.iload_n 1, 1) := by decide +kernel
theorem dX6_close_17 : decode cX6_close 17 = .ok (.aload_n 0, 1) := by decide +kernel
theorem dX6_close_18 : decode cX6_close 18 = .ok (.getfield 24, 3) := by decide +kernel
theorem dX6_close_21 : decode cX6_close 21 = .ok (.iastore, 1) := by decide +kernel
theorem dX6_close_22 : decode cX6_close 22 = .ok (.aload_n 0, 1) := by decide +kernel
theorem dX6_close_23 : decode cX6_close 23 = .ok (.iload_n 1, 1) := by decide +kernel
theorem dX6_close_24 : decode cX6_close 24 = .ok (.invokevirtual 28, 3) := by decide +kernel
theorem dX6_close_27 : decode cX6_close 27 = .ok (.ifCond .ne 10, 3) := by decide +kernel
theorem dX6_close_30 : decode cX6_close 30 = .ok (.aload_n 0, 1) := by decide +kernel
theorem dX6_close_31 : decode cX6_close 31 = .ok (.getfield 15, 3) := by decide +kernel
theorem dX6_close_34 : decode cX6_close 34 = .ok (.iload_n 1, 1) := by decide +kernel
theorem dX6_close_35 : decode cX6_close 35 = .ok (.iconst 1, 1) := by decide +kernel
theorem dX6_close_36 : decode cX6_close 36 = .ok (.iastore, 1) := by decide +kernel
theorem dX6_close_37 : decode cX6_close 37 = .ok (.return_, 1) := by decide +kernel
theorem dX6_drawsBehind_0 : decode cX6_drawsBehind 0 = .ok (.iload_n 1, 1) := by decide +kernel
theorem dX6_drawsBehind_1 : decode cX6_drawsBehind 1 = .ok (.iconst 1, 1) := by decide +kernel
theorem dX6_drawsBehind_2 : decode cX6_drawsBehind 2 = .ok (.iadd, 1) := by decide +kernel
theorem dX6_drawsBehind_3 : decode cX6_drawsBehind 3 = .ok (.istore_n 2, 1) := by decide +kernel
theorem dX6_drawsBehind_4 : decode cX6_drawsBehind 4 = .ok (.iload_n 2, 1) := by decide +kernel
theorem dX6_drawsBehind_5 : decode cX6_drawsBehind 5 = .ok (.aload_n 0, 1) := by decide +kernel
theorem dX6_drawsBehind_6 : decode cX6_drawsBehind 6 = .ok (.getfield 24, 3) := by decide +kernel
theorem dX6_drawsBehind_9 : decode cX6_drawsBehind 9 = .ok (.if_icmp .ge 21, 3) := by decide +kernel
theorem dX6_drawsBehind_12 : decode cX6_drawsBehind 12 = .ok (.aload_n 0, 1) := by decide +kernel
theorem dX6_drawsBehind_13 : decode cX6_drawsBehind 13 = .ok (.iload_n 2, 1) := by decide +kernel
theorem dX6_drawsBehind_14 : decode cX6_drawsBehind 14 = .ok (.invokevirtual 32, 3) := by decide +kernel
theorem dX6_drawsBehind_17 : decode cX6_drawsBehind 17 = .ok (.bipush 8, 2) := by decide +kernel
theorem dX6_drawsBehind_19 : decode cX6_drawsBehind 19 = .ok (.if_icmp .ge 5, 3) := by decide +kernel
theorem dX6_drawsBehind_22 : decode cX6_drawsBehind 22 = .ok (.iconst 1, 1) := by decide +kernel
theorem dX6_drawsBehind_23 : decode cX6_drawsBehind 23 = .ok (.ireturn, 1) := by decide +kernel
theorem dX6_drawsBehind_24 : decode cX6_drawsBehind 24 = .ok (.iinc 2 1, 3) := by decide +kernel
theorem dX6_drawsBehind_27 : decode cX6_drawsBehind 27 = .ok (.goto (-23), 3) := by decide +kernel
theorem dX6_drawsBehind_30 : decode cX6_drawsBehind 30 = .ok (.iconst 0, 1) := by decide +kernel
theorem dX6_drawsBehind_31 : decode cX6_drawsBehind 31 = .ok (.ireturn, 1) := by decide +kernel
theorem dX6_wordOf_0 : decode cX6_wordOf 0 = .ok (.iload_n 1, 1) := by decide +kernel
theorem dX6_wordOf_1 : decode cX6_wordOf 1 = .ok (.ifCond .lt 19, 3) := by decide +kernel
theorem dX6_wordOf_4 : decode cX6_wordOf 4 = .ok (.iload_n 1, 1) := by decide +kernel
theorem dX6_wordOf_5 : decode cX6_wordOf 5 = .ok (.sipush 200, 3) := by decide +kernel
theorem dX6_wordOf_8 : decode cX6_wordOf 8 = .ok (.if_icmp .ge 12, 3) := by decide +kernel
theorem dX6_wordOf_11 : decode cX6_wordOf 11 = .ok (.aload_n 0, 1) := by decide +kernel
theorem dX6_wordOf_12 : decode cX6_wordOf 12 = .ok (.getfield 11, 3) := by decide +kernel
theorem dX6_wordOf_15 : decode cX6_wordOf 15 = .ok (.iload_n 1, 1) := by decide +kernel
theorem dX6_wordOf_16 : decode cX6_wordOf 16 = .ok (.iaload, 1) := by decide +kernel
theorem dX6_wordOf_17 : decode cX6_wordOf 17 = .ok (.goto 5, 3) := by decide +kernel
theorem dX6_wordOf_20 : decode cX6_wordOf 20 = .ok (.bipush 8, 2) := by decide +kernel
theorem dX6_wordOf_22 : decode cX6_wordOf 22 = .ok (.ireturn, 1) := by decide +kernel
theorem dX6_firstOf_0 : decode cX6_firstOf 0 = .ok (.iload_n 1, 1) := by decide +kernel
theorem dX6_firstOf_1 : decode cX6_firstOf 1 = .ok (.ifCond .lt 19, 3) := by decide +kernel
theorem dX6_firstOf_4 : decode cX6_firstOf 4 = .ok (.iload_n 1, 1) := by decide +kernel
theorem dX6_firstOf_5 : decode cX6_firstOf 5 = .ok (.sipush 200, 3) := by decide +kernel
theorem dX6_firstOf_8 : decode cX6_firstOf 8 = .ok (.if_icmp .ge 12, 3) := by decide +kernel
theorem dX6_firstOf_11 : decode cX6_firstOf 11 = .ok (.aload_n 0, 1) := by decide +kernel
theorem dX6_firstOf_12 : decode cX6_firstOf 12 = .ok (.getfield 15, 3) := by decide +kernel
theorem dX6_firstOf_15 : decode cX6_firstOf 15 = .ok (.iload_n 1, 1) := by decide +kernel
theorem dX6_firstOf_16 : decode cX6_firstOf 16 = .ok (.iaload, 1) := by decide +kernel
theorem dX6_firstOf_17 : decode cX6_firstOf 17 = .ok (.goto 4, 3) := by decide +kernel
theorem dX6_firstOf_20 : decode cX6_firstOf 20 = .ok (.iconst 0, 1) := by decide +kernel
theorem dX6_firstOf_21 : decode cX6_firstOf 21 = .ok (.ireturn, 1) := by decide +kernel
theorem dX6_secondOf_0 : decode cX6_secondOf 0 = .ok (.iload_n 1, 1) := by decide +kernel
theorem dX6_secondOf_1 : decode cX6_secondOf 1 = .ok (.ifCond .lt 19, 3) := by decide +kernel
theorem dX6_secondOf_4 : decode cX6_secondOf 4 = .ok (.iload_n 1, 1) := by decide +kernel
theorem dX6_secondOf_5 : decode cX6_secondOf 5 = .ok (.sipush 200, 3) := by decide +kernel
theorem dX6_secondOf_8 : decode cX6_secondOf 8 = .ok (.if_icmp .ge 12, 3) := by decide +kernel
theorem dX6_secondOf_11 : decode cX6_secondOf 11 = .ok (.aload_n 0, 1) := by decide +kernel
theorem dX6_secondOf_12 : decode cX6_secondOf 12 = .ok (.getfield 18, 3) := by decide +kernel
theorem dX6_secondOf_15 : decode cX6_secondOf 15 = .ok (.iload_n 1, 1) := by decide +kernel
theorem dX6_secondOf_16 : decode cX6_secondOf 16 = .ok (.iaload, 1) := by decide +kernel
theorem dX6_secondOf_17 : decode cX6_secondOf 17 = .ok (.goto 4, 3) := by decide +kernel
theorem dX6_secondOf_20 : decode cX6_secondOf 20 = .ok (.iconst 0, 1) := by decide +kernel
theorem dX6_secondOf_21 : decode cX6_secondOf 21 = .ok (.ireturn, 1) := by decide +kernel
theorem dX6_placeOf_0 : decode cX6_placeOf 0 = .ok (.iload_n 1, 1) := by decide +kernel
theorem dX6_placeOf_1 : decode cX6_placeOf 1 = .ok (.ifCond .lt 19, 3) := by decide +kernel
theorem dX6_placeOf_4 : decode cX6_placeOf 4 = .ok (.iload_n 1, 1) := by decide +kernel
theorem dX6_placeOf_5 : decode cX6_placeOf 5 = .ok (.sipush 200, 3) := by decide +kernel
theorem dX6_placeOf_8 : decode cX6_placeOf 8 = .ok (.if_icmp .ge 12, 3) := by decide +kernel
theorem dX6_placeOf_11 : decode cX6_placeOf 11 = .ok (.aload_n 0, 1) := by decide +kernel
theorem dX6_placeOf_12 : decode cX6_placeOf 12 = .ok (.getfield 21, 3) := by decide +kernel
theorem dX6_placeOf_15 : decode cX6_placeOf 15 = .ok (.iload_n 1, 1) := by decide +kernel
theorem dX6_placeOf_16 : decode cX6_placeOf 16 = .ok (.iaload, 1) := by decide +kernel
theorem dX6_placeOf_17 : decode cX6_placeOf 17 = .ok (.goto 4, 3) := by decide +kernel
theorem dX6_placeOf_20 : decode cX6_placeOf 20 = .ok (.iconst 0, 1) := by decide +kernel
theorem dX6_placeOf_21 : decode cX6_placeOf 21 = .ok (.ireturn, 1) := by decide +kernel
theorem dX7_init_0 : decode cX7_init 0 = .ok (.aload_n 0, 1) := by decide +kernel
theorem dX7_init_1 : decode cX7_init 1 = .ok (.invokespecial 3, 3) := by decide +kernel
theorem dX7_init_4 : decode cX7_init 4 = .ok (.aload_n 0, 1) := by decide +kernel
theorem dX7_init_5 : decode cX7_init 5 = .ok (.sipush 4096, 3) := by decide +kernel
theorem dX7_init_8 : decode cX7_init 8 = .ok (.newarray .int, 2) := by decide +kernel
theorem dX7_init_10 : decode cX7_init 10 = .ok (.putfield 11, 3) := by decide +kernel
theorem dX7_init_13 : decode cX7_init 13 = .ok (.aload_n 0, 1) := by decide +kernel
theorem dX7_init_14 : decode cX7_init 14 = .ok (.sipush 4096, 3) := by decide +kernel
theorem dX7_init_17 : decode cX7_init 17 = .ok (.newarray .int, 2) := by decide +kernel
theorem dX7_init_19 : decode cX7_init 19 = .ok (.putfield 15, 3) := by decide +kernel
theorem dX7_init_22 : decode cX7_init 22 = .ok (.aload_n 0, 1) := by decide +kernel
theorem dX7_init_23 : decode cX7_init 23 = .ok (.bipush 12, 2) := by decide +kernel
theorem dX7_init_25 : decode cX7_init 25 = .ok (.newarray .int, 2) := by decide +kernel
theorem dX7_init_27 : decode cX7_init 27 = .ok (.putfield 18, 3) := by decide +kernel
theorem dX7_init_30 : decode cX7_init 30 = .ok (.aload_n 0, 1) := by decide +kernel
theorem dX7_init_31 : decode cX7_init 31 = .ok (.bipush 6, 2) := by decide +kernel
theorem dX7_init_33 : decode cX7_init 33 = .ok (.newarray .int, 2) := by decide +kernel
theorem dX7_init_35 : decode cX7_init 35 = .ok (.putfield 21, 3) := by decide +kernel
theorem dX7_init_38 : decode cX7_init 38 = .ok (.aload_n 0, 1) := by decide +kernel
theorem dX7_init_39 : decode cX7_init 39 = .ok (.bipush 6, 2) := by decide +kernel
theorem dX7_init_41 : decode cX7_init 41 = .ok (.newarray .int, 2) := by decide +kernel
theorem dX7_init_43 : decode cX7_init 43 = .ok (.putfield 24, 3) := by decide +kernel
theorem dX7_init_46 : decode cX7_init 46 = .ok (.aload_n 0, 1) := by decide +kernel
theorem dX7_init_47 : decode cX7_init 47 = .ok (.aload_n 1, 1) := by decide +kernel
theorem dX7_init_48 : decode cX7_init 48 = .ok (.putfield 27, 3) := by decide +kernel
theorem dX7_init_51 : decode cX7_init 51 = .ok (.return_, 1) := by decide +kernel
theorem dX7_fewestOf_0 : decode cX7_fewestOf 0 = .ok (.aload_n 0, 1) := by decide +kernel
theorem dX7_fewestOf_1 : decode cX7_fewestOf 1 = .ok (.getfield 27, 3) := by decide +kernel
theorem dX7_fewestOf_4 : decode cX7_fewestOf 4 = .ok (.iload_n 1, 1) := by decide +kernel
theorem dX7_fewestOf_5 : decode cX7_fewestOf 5 = .ok (.invokevirtual 31, 3) := by decide +kernel
theorem dX7_fewestOf_8 : decode cX7_fewestOf 8 = .ok (.lstore_n 3, 1) := by decide +kernel
theorem dX7_fewestOf_9 : decode cX7_fewestOf 9 = .ok (.lload_n 3, 1) := by decide +kernel
theorem dX7_fewestOf_10 : decode cX7_fewestOf 10 = .ok (.invokestatic 37, 3) := by decide +kernel
theorem dX7_fewestOf_13 : decode cX7_fewestOf 13 = .ok (.bipush 6, 2) := by decide +kernel
theorem dX7_fewestOf_15 : decode cX7_fewestOf 15 = .ok (.if_icmp .le 6, 3) := by decide +kernel
theorem dX7_fewestOf_18 : decode cX7_fewestOf 18 = .ok (.bipush (-2), 2) := by decide +kernel
theorem dX7_fewestOf_20 : decode cX7_fewestOf 20 = .ok (.ireturn, 1) := by decide +kernel
theorem dX7_fewestOf_21 : decode cX7_fewestOf 21 = .ok (.aload_n 0, 1) := by decide +kernel
theorem dX7_fewestOf_22 : decode cX7_fewestOf 22 = .ok (.lload_n 3, 1) := by decide +kernel
theorem dX7_fewestOf_23 : decode cX7_fewestOf 23 = .ok (.invokevirtual 43, 3) := by decide +kernel
theorem dX7_fewestOf_26 : decode cX7_fewestOf 26 = .ok (.iconst 1, 1) := by decide +kernel
theorem dX7_fewestOf_27 : decode cX7_fewestOf 27 = .ok (.iconst 2, 1) := by decide +kernel
theorem dX7_fewestOf_28 : decode cX7_fewestOf 28 = .ok (.aload_n 0, 1) := by decide +kernel
theorem dX7_fewestOf_29 : decode cX7_fewestOf 29 = .ok (.getfield 47, 3) := by decide +kernel
theorem dX7_fewestOf_32 : decode cX7_fewestOf 32 = .ok (.imul, 1) := by decide +kernel
theorem dX7_fewestOf_33 : decode cX7_fewestOf 33 = .ok (.ishl, 1) := by decide +kernel
theorem dX7_fewestOf_34 : decode cX7_fewestOf 34 = .ok (.iconst 1, 1) := by decide +kernel
theorem dX7_fewestOf_35 : decode cX7_fewestOf 35 = .ok (.isub, 1) := by decide +kernel
theorem dX7_fewestOf_36 : decode cX7_fewestOf 36 = .ok (.istore 5, 2) := by decide +kernel
theorem dX7_fewestOf_38 : decode cX7_fewestOf 38 = .ok (.aload_n 0, 1) := by decide +kernel
theorem dX7_fewestOf_39 : decode cX7_fewestOf 39 = .ok (.invokevirtual 51, 3) := by decide +kernel
theorem dX7_fewestOf_42 : decode cX7_fewestOf 42 = .ok (.istore 6, 2) := by decide +kernel
theorem dX7_fewestOf_44 : decode cX7_fewestOf 44 = .ok (.aload_n 0, 1) := by decide +kernel
theorem dX7_fewestOf_45 : decode cX7_fewestOf 45 = .ok (.iload 5, 2) := by decide +kernel
theorem dX7_fewestOf_47 : decode cX7_fewestOf 47 = .ok (.iload_n 2, 1) := by decide +kernel
theorem dX7_fewestOf_48 : decode cX7_fewestOf 48 = .ok (.iload 6, 2) := by decide +kernel
theorem dX7_fewestOf_50 : decode cX7_fewestOf 50 = .ok (.invokevirtual 55, 3) := by decide +kernel
theorem dX7_fewestOf_53 : decode cX7_fewestOf 53 = .ok (.aload_n 0, 1) := by decide +kernel
theorem dX7_fewestOf_54 : decode cX7_fewestOf 54 = .ok (.iload 5, 2) := by decide +kernel
theorem dX7_fewestOf_56 : decode cX7_fewestOf 56 = .ok (.iload 6, 2) := by decide +kernel
theorem dX7_fewestOf_58 : decode cX7_fewestOf 58 = .ok (.invokevirtual 59, 3) := by decide +kernel
theorem dX7_fewestOf_61 : decode cX7_fewestOf 61 = .ok (.ireturn, 1) := by decide +kernel
theorem dX7_gather_0 : decode cX7_gather 0 = .ok (.aload_n 0, 1) := by decide +kernel
theorem dX7_gather_1 : decode cX7_gather 1 = .ok (.iconst 0, 1) := by decide +kernel
theorem dX7_gather_2 : decode cX7_gather 2 = .ok (.putfield 47, 3) := by decide +kernel
theorem dX7_gather_5 : decode cX7_gather 5 = .ok (.aload_n 0, 1) := by decide +kernel
theorem dX7_gather_6 : decode cX7_gather 6 = .ok (.iconst 0, 1) := by decide +kernel
theorem dX7_gather_7 : decode cX7_gather 7 = .ok (.putfield 63, 3) := by decide +kernel
theorem dX7_gather_10 : decode cX7_gather 10 = .ok (.lload_n 1, 1) := by decide +kernel
theorem dX7_gather_11 : decode cX7_gather 11 = .ok (.lstore_n 3, 1) := by decide +kernel
theorem dX7_gather_12 : decode cX7_gather 12 = .ok (.iconst 0, 1) := by decide +kernel
theorem dX7_gather_13 : decode cX7_gather 13 = .ok (.istore 5, 2) := by decide +kernel
theorem dX7_gather_15 : decode cX7_gather 15 = .ok (.iload 5, 2) := by decide +kernel
theorem dX7_gather_17 : decode cX7_gather 17 = .ok (.bipush 6, 2) := by decide +kernel
theorem dX7_gather_19 : decode cX7_gather 19 = .ok (.if_icmp .ge 77, 3) := by decide +kernel
theorem dX7_gather_22 : decode cX7_gather 22 = .ok (.lload_n 3, 1) := by decide +kernel
theorem dX7_gather_23 : decode cX7_gather 23 = .ok (.lconst 0, 1) := by decide +kernel
theorem dX7_gather_24 : decode cX7_gather 24 = .ok (.lcmp, 1) := by decide +kernel
theorem dX7_gather_25 : decode cX7_gather 25 = .ok (.ifCond .eq 71, 3) := by decide +kernel
theorem dX7_gather_28 : decode cX7_gather 28 = .ok (.lload_n 3, 1) := by decide +kernel
theorem dX7_gather_29 : decode cX7_gather 29 = .ok (.invokestatic 66, 3) := by decide +kernel
theorem dX7_gather_32 : decode cX7_gather 32 = .ok (.istore 6, 2) := by decide +kernel
theorem dX7_gather_34 : decode cX7_gather 34 = .ok (.aload_n 0, 1) := by decide +kernel
theorem dX7_gather_35 : decode cX7_gather 35 = .ok (.getfield 21, 3) := by decide +kernel
theorem dX7_gather_38 : decode cX7_gather 38 = .ok (.iload 5, 2) := by decide +kernel
theorem dX7_gather_40 : decode cX7_gather 40 = .ok (.aload_n 0, 1) := by decide +kernel
theorem dX7_gather_41 : decode cX7_gather 41 = .ok (.aload_n 0, 1) := by decide +kernel
theorem dX7_gather_42 : decode cX7_gather 42 = .ok (.getfield 27, 3) := by decide +kernel
theorem dX7_gather_45 : decode cX7_gather 45 = .ok (.iload 6, 2) := by decide +kernel
theorem dX7_gather_47 : decode cX7_gather 47 = .ok (.invokevirtual 69, 3) := by decide +kernel
theorem dX7_gather_50 : decode cX7_gather 50 = .ok (.invokevirtual 73, 3) := by decide +kernel
theorem dX7_gather_53 : decode cX7_gather 53 = .ok (.iastore, 1) := by decide +kernel
theorem dX7_gather_54 : decode cX7_gather 54 = .ok (.aload_n 0, 1) := by decide +kernel
theorem dX7_gather_55 : decode cX7_gather 55 = .ok (.getfield 24, 3) := by decide +kernel
theorem dX7_gather_58 : decode cX7_gather 58 = .ok (.iload 5, 2) := by decide +kernel
theorem dX7_gather_60 : decode cX7_gather 60 = .ok (.aload_n 0, 1) := by decide +kernel
theorem dX7_gather_61 : decode cX7_gather 61 = .ok (.aload_n 0, 1) := by decide +kernel
theorem dX7_gather_62 : decode cX7_gather 62 = .ok (.getfield 27, 3) := by decide +kernel
theorem dX7_gather_65 : decode cX7_gather 65 = .ok (.iload 6, 2) := by decide +kernel
theorem dX7_gather_67 : decode cX7_gather 67 = .ok (.invokevirtual 76, 3) := by decide +kernel
theorem dX7_gather_70 : decode cX7_gather 70 = .ok (.invokevirtual 73, 3) := by decide +kernel
theorem dX7_gather_73 : decode cX7_gather 73 = .ok (.iastore, 1) := by decide +kernel
theorem dX7_gather_74 : decode cX7_gather 74 = .ok (.aload_n 0, 1) := by decide +kernel
theorem dX7_gather_75 : decode cX7_gather 75 = .ok (.dup, 1) := by decide +kernel
theorem dX7_gather_76 : decode cX7_gather 76 = .ok (.getfield 47, 3) := by decide +kernel
theorem dX7_gather_79 : decode cX7_gather 79 = .ok (.iconst 1, 1) := by decide +kernel
theorem dX7_gather_80 : decode cX7_gather 80 = .ok (.iadd, 1) := by decide +kernel
theorem dX7_gather_81 : decode cX7_gather 81 = .ok (.putfield 47, 3) := by decide +kernel
theorem dX7_gather_84 : decode cX7_gather 84 = .ok (.lload_n 3, 1) := by decide +kernel
theorem dX7_gather_85 : decode cX7_gather 85 = .ok (.lload_n 3, 1) := by decide +kernel
theorem dX7_gather_86 : decode cX7_gather 86 = .ok (.lconst 1, 1) := by decide +kernel
theorem dX7_gather_87 : decode cX7_gather 87 = .ok (.lsub, 1) := by decide +kernel
theorem dX7_gather_88 : decode cX7_gather 88 = .ok (.land, 1) := by decide +kernel
theorem dX7_gather_89 : decode cX7_gather 89 = .ok (.lstore_n 3, 1) := by decide +kernel
theorem dX7_gather_90 : decode cX7_gather 90 = .ok (.iinc 5 1, 3) := by decide +kernel
theorem dX7_gather_93 : decode cX7_gather 93 = .ok (.goto (-78), 3) := by decide +kernel
theorem dX7_gather_96 : decode cX7_gather 96 = .ok (.return_, 1) := by decide +kernel
theorem dX7_endOf_0 : decode cX7_endOf 0 = .ok (.iconst 0, 1) := by decide +kernel
theorem dX7_endOf_1 : decode cX7_endOf 1 = .ok (.istore_n 2, 1) := by decide +kernel
theorem dX7_endOf_2 : decode cX7_endOf 2 = .ok (.iload_n 2, 1) := by decide +kernel
theorem dX7_endOf_3 : decode cX7_endOf 3 = .ok (.aload_n 0, 1) := by decide +kernel
theorem dX7_endOf_4 : decode cX7_endOf 4 = .ok (.getfield 63, 3) := by decide +kernel
theorem dX7_endOf_7 : decode cX7_endOf 7 = .ok (.if_icmp .ge 27, 3) := by decide +kernel
theorem dX7_endOf_10 : decode cX7_endOf 10 = .ok (.iload_n 2, 1) := by decide +kernel
theorem dX7_endOf_11 : decode cX7_endOf 11 = .ok (.bipush 12, 2) := by decide +kernel
theorem dX7_endOf_13 : decode cX7_endOf 13 = .ok (.if_icmp .ge 21, 3) := by decide +kernel
theorem dX7_endOf_16 : decode cX7_endOf 16 = .ok (.aload_n 0, 1) := by decide +kernel
theorem dX7_endOf_17 : decode cX7_endOf 17 = .ok (.getfield 18, 3) := by decide +kernel
theorem dX7_endOf_20 : decode cX7_endOf 20 = .ok (.iload_n 2, 1) := by decide +kernel
theorem dX7_endOf_21 : decode cX7_endOf 21 = .ok (.iaload, 1) := by decide +kernel
theorem dX7_endOf_22 : decode cX7_endOf 22 = .ok (.iload_n 1, 1) := by decide +kernel
theorem dX7_endOf_23 : decode cX7_endOf 23 = .ok (.if_icmp .ne 5, 3) := by decide +kernel
theorem dX7_endOf_26 : decode cX7_endOf 26 = .ok (.iload_n 2, 1) := by decide +kernel
theorem dX7_endOf_27 : decode cX7_endOf 27 = .ok (.ireturn, 1) := by decide +kernel
theorem dX7_endOf_28 : decode cX7_endOf 28 = .ok (.iinc 2 1, 3) := by decide +kernel
theorem dX7_endOf_31 : decode cX7_endOf 31 = .ok (.goto (-29), 3) := by decide +kernel
theorem dX7_endOf_34 : decode cX7_endOf 34 = .ok (.aload_n 0, 1) := by decide +kernel
theorem dX7_endOf_35 : decode cX7_endOf 35 = .ok (.getfield 63, 3) := by decide +kernel
theorem dX7_endOf_38 : decode cX7_endOf 38 = .ok (.ifCond .lt 32, 3) := by decide +kernel
theorem dX7_endOf_41 : decode cX7_endOf 41 = .ok (.aload_n 0, 1) := by decide +kernel
theorem dX7_endOf_42 : decode cX7_endOf 42 = .ok (.getfield 63, 3) := by decide +kernel
theorem dX7_endOf_45 : decode cX7_endOf 45 = .ok (.bipush 12, 2) := by decide +kernel
theorem dX7_endOf_47 : decode cX7_endOf 47 = .ok (.if_icmp .ge 23, 3) := by decide +kernel
theorem dX7_endOf_50 : decode cX7_endOf 50 = .ok (.aload_n 0, 1) := by decide +kernel
theorem dX7_endOf_51 : decode cX7_endOf 51 = .ok (.getfield 18, 3) := by decide +kernel
theorem dX7_endOf_54 : decode cX7_endOf 54 = .ok (.aload_n 0, 1) := by decide +kernel
theorem dX7_endOf_55 : decode cX7_endOf 55 = .ok (.getfield 63, 3) := by decide +kernel
theorem dX7_endOf_58 : decode cX7_endOf 58 = .ok (.iload_n 1, 1) := by decide +kernel
