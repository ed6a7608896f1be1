theorem dX0_init_0 : decode cX0_init 0 = .ok (.aload_n 0, 1) := by decide +kernel
theorem dX0_init_1 : decode cX0_init 1 = .ok (.invokespecial 3, 3) := by decide +kernel
theorem dX0_init_4 : decode cX0_init 4 = .ok (.aload_n 0, 1) := by decide +kernel
theorem dX0_init_5 : decode cX0_init 5 = .ok (.iconst 0, 1) := by decide +kernel
theorem dX0_init_6 : decode cX0_init 6 = .ok (.putfield 9, 3) := by decide +kernel
theorem dX0_init_9 : decode cX0_init 9 = .ok (.aload_n 0, 1) := by decide +kernel
theorem dX0_init_10 : decode cX0_init 10 = .ok (.iconst (-1), 1) := by decide +kernel
theorem dX0_init_11 : decode cX0_init 11 = .ok (.putfield 15, 3) := by decide +kernel
theorem dX0_init_14 : decode cX0_init 14 = .ok (.aload_n 0, 1) := by decide +kernel
theorem dX0_init_15 : decode cX0_init 15 = .ok (.iconst (-1), 1) := by decide +kernel
theorem dX0_init_16 : decode cX0_init 16 = .ok (.putfield 18, 3) := by decide +kernel
theorem dX0_init_19 : decode cX0_init 19 = .ok (.aload_n 0, 1) := by decide +kernel
theorem dX0_init_20 : decode cX0_init 20 = .ok (.aload_n 1, 1) := by decide +kernel
theorem dX0_init_21 : decode cX0_init 21 = .ok (.putfield 21, 3) := by decide +kernel
theorem dX0_init_24 : decode cX0_init 24 = .ok (.aload_n 0, 1) := by decide +kernel
theorem dX0_init_25 : decode cX0_init 25 = .ok (.aload_n 2, 1) := by decide +kernel
theorem dX0_init_26 : decode cX0_init 26 = .ok (.putfield 25, 3) := by decide +kernel
theorem dX0_init_29 : decode cX0_init 29 = .ok (.return_, 1) := by decide +kernel
theorem dX0_areWorking_0 : decode cX0_areWorking 0 = .ok (.aload_n 0, 1) := by decide +kernel
theorem dX0_areWorking_1 : decode cX0_areWorking 1 = .ok (.getfield 9, 3) := by decide +kernel
theorem dX0_areWorking_4 : decode cX0_areWorking 4 = .ok (.iconst 1, 1) := by decide +kernel
theorem dX0_areWorking_5 : decode cX0_areWorking 5 = .ok (.if_icmp .eq 11, 3) := by decide +kernel
theorem dX0_areWorking_8 : decode cX0_areWorking 8 = .ok (.aload_n 0, 1) := by decide +kernel
theorem dX0_areWorking_9 : decode cX0_areWorking 9 = .ok (.getfield 9, 3) := by decide +kernel
theorem dX0_areWorking_12 : decode cX0_areWorking 12 = .ok (.iconst 2, 1) := by decide +kernel
theorem dX0_areWorking_13 : decode cX0_areWorking 13 = .ok (.if_icmp .ne 7, 3) := by decide +kernel
theorem dX0_areWorking_16 : decode cX0_areWorking 16 = .ok (.iconst 1, 1) := by decide +kernel
theorem dX0_areWorking_17 : decode cX0_areWorking 17 = .ok (.goto 4, 3) := by decide +kernel
theorem dX0_areWorking_20 : decode cX0_areWorking 20 = .ok (.iconst 0, 1) := by decide +kernel
theorem dX0_areWorking_21 : decode cX0_areWorking 21 = .ok (.ireturn, 1) := by decide +kernel
theorem dX0_begin_0 : decode cX0_begin 0 = .ok (.aload_n 0, 1) := by decide +kernel
theorem dX0_begin_1 : decode cX0_begin 1 = .ok (.iconst 1, 1) := by decide +kernel
theorem dX0_begin_2 : decode cX0_begin 2 = .ok (.putfield 9, 3) := by decide +kernel
theorem dX0_begin_5 : decode cX0_begin 5 = .ok (.aload_n 0, 1) := by decide +kernel
theorem dX0_begin_6 : decode cX0_begin 6 = .ok (.iload_n 1, 1) := by decide +kernel
theorem dX0_begin_7 : decode cX0_begin 7 = .ok (.putfield 15, 3) := by decide +kernel
theorem dX0_begin_10 : decode cX0_begin 10 = .ok (.aload_n 0, 1) := by decide +kernel
theorem dX0_begin_11 : decode cX0_begin 11 = .ok (.iconst 1, 1) := by decide +kernel
theorem dX0_begin_12 : decode cX0_begin 12 = .ok (.putfield 29, 3) := by decide +kernel
theorem dX0_begin_15 : decode cX0_begin 15 = .ok (.return_, 1) := by decide +kernel
theorem dX0_fallBack_0 : decode cX0_fallBack 0 = .ok (.aload_n 0, 1) := by decide +kernel
theorem dX0_fallBack_1 : decode cX0_fallBack 1 = .ok (.iload_n 1, 1) := by decide +kernel
theorem dX0_fallBack_2 : decode cX0_fallBack 2 = .ok (.putfield 9, 3) := by decide +kernel
theorem dX0_fallBack_5 : decode cX0_fallBack 5 = .ok (.aload_n 0, 1) := by decide +kernel
theorem dX0_fallBack_6 : decode cX0_fallBack 6 = .ok (.iconst (-1), 1) := by decide +kernel
theorem dX0_fallBack_7 : decode cX0_fallBack 7 = .ok (.putfield 15, 3) := by decide +kernel
theorem dX0_fallBack_10 : decode cX0_fallBack 10 = .ok (.iconst 0, 1) := by decide +kernel
theorem dX0_fallBack_11 : decode cX0_fallBack 11 = .ok (.istore_n 2, 1) := by decide +kernel
theorem dX0_fallBack_12 : decode cX0_fallBack 12 = .ok (.iload_n 2, 1) := by decide +kernel
theorem dX0_fallBack_13 : decode cX0_fallBack 13 = .ok (.aload_n 0, 1) := by decide +kernel
theorem dX0_fallBack_14 : decode cX0_fallBack 14 = .ok (.getfield 21, 3) := by decide +kernel
theorem dX0_fallBack_17 : decode cX0_fallBack 17 = .ok (.getfield 33, 3) := by decide +kernel
theorem dX0_fallBack_20 : decode cX0_fallBack 20 = .ok (.if_icmp .ge 25, 3) := by decide +kernel
theorem dX0_fallBack_23 : decode cX0_fallBack 23 = .ok (.aload_n 0, 1) := by decide +kernel
theorem dX0_fallBack_24 : decode cX0_fallBack 24 = .ok (.getfield 21, 3) := by decide +kernel
theorem dX0_fallBack_27 : decode cX0_fallBack 27 = .ok (.getfield 38, 3) := by decide +kernel
theorem dX0_fallBack_30 : decode cX0_fallBack 30 = .ok (.iload_n 2, 1) := by decide +kernel
theorem dX0_fallBack_31 : decode cX0_fallBack 31 = .ok (.aaload, 1) := by decide +kernel
theorem dX0_fallBack_32 : decode cX0_fallBack 32 = .ok (.aload_n 0, 1) := by decide +kernel
theorem dX0_fallBack_33 : decode cX0_fallBack 33 = .ok (.getfield 42, 3) := by decide +kernel
theorem dX0_fallBack_36 : decode cX0_fallBack 36 = .ok (.invokevirtual 45, 3) := by decide +kernel
theorem dX0_fallBack_39 : decode cX0_fallBack 39 = .ok (.iinc 2 1, 3) := by decide +kernel
theorem dX0_fallBack_42 : decode cX0_fallBack 42 = .ok (.goto (-30), 3) := by decide +kernel
theorem dX0_fallBack_45 : decode cX0_fallBack 45 = .ok (.return_, 1) := by decide +kernel
theorem dX0_passSecond_0 : decode cX0_passSecond 0 = .ok (.aload_n 0, 1) := by decide +kernel
theorem dX0_passSecond_1 : decode cX0_passSecond 1 = .ok (.invokevirtual 51, 3) := by decide +kernel
theorem dX0_passSecond_4 : decode cX0_passSecond 4 = .ok (.aload_n 0, 1) := by decide +kernel
theorem dX0_passSecond_5 : decode cX0_passSecond 5 = .ok (.invokevirtual 54, 3) := by decide +kernel
theorem dX0_passSecond_8 : decode cX0_passSecond 8 = .ok (.aload_n 0, 1) := by decide +kernel
theorem dX0_passSecond_9 : decode cX0_passSecond 9 = .ok (.invokevirtual 57, 3) := by decide +kernel
theorem dX0_passSecond_12 : decode cX0_passSecond 12 = .ok (.aload_n 0, 1) := by decide +kernel
theorem dX0_passSecond_13 : decode cX0_passSecond 13 = .ok (.invokevirtual 60, 3) := by decide +kernel
theorem dX0_passSecond_16 : decode cX0_passSecond 16 = .ok (.aload_n 0, 1) := by decide +kernel
theorem dX0_passSecond_17 : decode cX0_passSecond 17 = .ok (.invokevirtual 63, 3) := by decide +kernel
theorem dX0_passSecond_20 : decode cX0_passSecond 20 = .ok (.aload_n 0, 1) := by decide +kernel
theorem dX0_passSecond_21 : decode cX0_passSecond 21 = .ok (.invokevirtual 66, 3) := by decide +kernel
theorem dX0_passSecond_24 : decode cX0_passSecond 24 = .ok (.aload_n 0, 1) := by decide +kernel
theorem dX0_passSecond_25 : decode cX0_passSecond 25 = .ok (.invokevirtual 69, 3) := by decide +kernel
theorem dX0_passSecond_28 : decode cX0_passSecond 28 = .ok (.aload_n 0, 1) := by decide +kernel
theorem dX0_passSecond_29 : decode cX0_passSecond 29 = .ok (.dup, 1) := by decide +kernel
theorem dX0_passSecond_30 : decode cX0_passSecond 30 = .ok (.getfield 42, 3) := by decide +kernel
theorem dX0_passSecond_33 : decode cX0_passSecond 33 = .ok (.iconst 1, 1) := by decide +kernel
theorem dX0_passSecond_34 : decode cX0_passSecond 34 = .ok (.iadd, 1) := by decide +kernel
theorem dX0_passSecond_35 : decode cX0_passSecond 35 = .ok (.putfield 42, 3) := by decide +kernel
theorem dX0_passSecond_38 : decode cX0_passSecond 38 = .ok (.return_, 1) := by decide +kernel
theorem dX0_leaveStage_0 : decode cX0_leaveStage 0 = .ok (.aload_n 0, 1) := by decide +kernel
theorem dX0_leaveStage_1 : decode cX0_leaveStage 1 = .ok (.getfield 9, 3) := by decide +kernel
theorem dX0_leaveStage_4 : decode cX0_leaveStage 4 = .ok (.iconst 2, 1) := by decide +kernel
theorem dX0_leaveStage_5 : decode cX0_leaveStage 5 = .ok (.if_icmp .eq 4, 3) := by decide +kernel
theorem dX0_leaveStage_8 : decode cX0_leaveStage 8 = .ok (.return_, 1) := by decide +kernel
theorem dX0_leaveStage_9 : decode cX0_leaveStage 9 = .ok (.aload_n 0, 1) := by decide +kernel
theorem dX0_leaveStage_10 : decode cX0_leaveStage 10 = .ok (.invokevirtual 72, 3) := by decide +kernel
theorem dX0_leaveStage_13 : decode cX0_leaveStage 13 = .ok (.istore_n 1, 1) := by decide +kernel
theorem dX0_leaveStage_14 : decode cX0_leaveStage 14 = .ok (.iload_n 1, 1) := by decide +kernel
theorem dX0_leaveStage_15 : decode cX0_leaveStage 15 = .ok (.iconst (-1), 1) := by decide +kernel
theorem dX0_leaveStage_16 : decode cX0_leaveStage 16 = .ok (.if_icmp .eq 7, 3) := by decide +kernel
theorem dX0_leaveStage_19 : decode cX0_leaveStage 19 = .ok (.iload_n 1, 1) := by decide +kernel
theorem dX0_leaveStage_20 : decode cX0_leaveStage 20 = .ok (.goto 7, 3) := by decide +kernel
theorem dX0_leaveStage_23 : decode cX0_leaveStage 23 = .ok (.aload_n 0, 1) := by decide +kernel
theorem dX0_leaveStage_24 : decode cX0_leaveStage 24 = .ok (.invokevirtual 76, 3) := by decide +kernel
theorem dX0_leaveStage_27 : decode cX0_leaveStage 27 = .ok (.istore_n 2, 1) := by decide +kernel
theorem dX0_leaveStage_28 : decode cX0_leaveStage 28 = .ok (.iload_n 2, 1) := by decide +kernel
theorem dX0_leaveStage_29 : decode cX0_leaveStage 29 = .ok (.iconst (-1), 1) := by decide +kernel
theorem dX0_leaveStage_30 : decode cX0_leaveStage 30 = .ok (.if_icmp .eq 11, 3) := by decide +kernel
theorem dX0_leaveStage_33 : decode cX0_leaveStage 33 = .ok (.iload_n 2, 1) := by decide +kernel
theorem dX0_leaveStage_34 : decode cX0_leaveStage 34 = .ok (.aload_n 0, 1) := by decide +kernel
theorem dX0_leaveStage_35 : decode cX0_leaveStage 35 = .ok (.getfield 15, 3) := by decide +kernel
theorem dX0_leaveStage_38 : decode cX0_leaveStage 38 = .ok (.if_icmp .ne 4, 3) := by decide +kernel
theorem dX0_leaveStage_41 : decode cX0_leaveStage 41 = .ok (.return_, 1) := by decide +kernel
theorem dX0_leaveStage_42 : decode cX0_leaveStage 42 = .ok (.aload_n 0, 1) := by decide +kernel
theorem dX0_leaveStage_43 : decode cX0_leaveStage 43 = .ok (.getfield 21, 3) := by decide +kernel
theorem dX0_leaveStage_46 : decode cX0_leaveStage 46 = .ok (.aload_n 0, 1) := by decide +kernel
theorem dX0_leaveStage_47 : decode cX0_leaveStage 47 = .ok (.getfield 15, 3) := by decide +kernel
theorem dX0_leaveStage_50 : decode cX0_leaveStage 50 = .ok (.invokevirtual 79, 3) := by decide +kernel
theorem dX0_leaveStage_53 : decode cX0_leaveStage 53 = .ok (.aload_n 0, 1) := by decide +kernel
theorem dX0_leaveStage_54 : decode cX0_leaveStage 54 = .ok (.getfield 21, 3) := by decide +kernel
theorem dX0_leaveStage_57 : decode cX0_leaveStage 57 = .ok (.iload_n 2, 1) := by decide +kernel
theorem dX0_leaveStage_58 : decode cX0_leaveStage 58 = .ok (.invokevirtual 79, 3) := by decide +kernel
theorem dX0_leaveStage_61 : decode cX0_leaveStage 61 = .ok (.iconst (-1), 1) := by decide +kernel
theorem dX0_leaveStage_62 : decode cX0_leaveStage 62 = .ok (.ixor, 1) := by decide +kernel
theorem dX0_leaveStage_63 : decode cX0_leaveStage 63 = .ok (.iand, 1) := by decide +kernel
theorem dX0_leaveStage_64 : decode cX0_leaveStage 64 = .ok (.istore_n 3, 1) := by decide +kernel
theorem dX0_leaveStage_65 : decode cX0_leaveStage 65 = .ok (.aload_n 0, 1) := by decide +kernel
theorem dX0_leaveStage_66 : decode cX0_leaveStage 66 = .ok (.iload_n 3, 1) := by decide +kernel
theorem dX0_leaveStage_67 : decode cX0_leaveStage 67 = .ok (.iload_n 1, 1) := by decide +kernel
theorem dX0_leaveStage_68 : decode cX0_leaveStage 68 = .ok (.iconst (-1), 1) := by decide +kernel
theorem dX0_leaveStage_69 : decode cX0_leaveStage 69 = .ok (.if_icmp .eq 7, 3) := by decide +kernel
theorem dX0_leaveStage_72 : decode cX0_leaveStage 72 = .ok (.iconst 1, 1) := by decide +kernel
theorem dX0_leaveStage_73 : decode cX0_leaveStage 73 = .ok (.goto 4, 3) := by decide +kernel
theorem dX0_leaveStage_76 : decode cX0_leaveStage 76 = .ok (.iconst 0, 1) := by decide +kernel
theorem dX0_leaveStage_77 : decode cX0_leaveStage 77 = .ok (.invokevirtual 83, 3) := by decide +kernel
theorem dX0_leaveStage_80 : decode cX0_leaveStage 80 = .ok (.ifCond .eq 18, 3) := by decide +kernel
theorem dX0_leaveStage_83 : decode cX0_leaveStage 83 = .ok (.aload_n 0, 1) := by decide +kernel
theorem dX0_leaveStage_84 : decode cX0_leaveStage 84 = .ok (.iload_n 3, 1) := by decide +kernel
theorem dX0_leaveStage_85 : decode cX0_leaveStage 85 = .ok (.invokevirtual 87, 3) := by decide +kernel
theorem dX0_leaveStage_88 : decode cX0_leaveStage 88 = .ok (.aload_n 0, 1) := by decide +kernel
theorem dX0_leaveStage_89 : decode cX0_leaveStage 89 = .ok (.iconst 1, 1) := by decide +kernel
theorem dX0_leaveStage_90 : decode cX0_leaveStage 90 = .ok (.putfield 9, 3) := by decide +kernel
theorem dX0_leaveStage_93 : decode cX0_leaveStage 93 = .ok (.aload_n 0, 1) := by decide +kernel
theorem dX0_leaveStage_94 : decode cX0_leaveStage 94 = .ok (.iload_n 2, 1) := by decide +kernel
theorem dX0_leaveStage_95 : decode cX0_leaveStage 95 = .ok (.putfield 15, 3) := by decide +kernel
theorem dX0_leaveStage_98 : decode cX0_leaveStage 98 = .ok (.return_, 1) := by decide +kernel
theorem dX0_stageForTram_0 : decode cX0_stageForTram 0 = .ok (.aload_n 0, 1) := by decide +kernel
theorem dX0_stageForTram_1 : decode cX0_stageForTram 1 = .ok (.getfield 18, 3) := by decide +kernel
theorem dX0_stageForTram_4 : decode cX0_stageForTram 4 = .ok (.iconst (-1), 1) := by decide +kernel
theorem dX0_stageForTram_5 : decode cX0_stageForTram 5 = .ok (.if_icmp .ne 5, 3) := by decide +kernel
theorem dX0_stageForTram_8 : decode cX0_stageForTram 8 = .ok (.iconst (-1), 1) := by decide +kernel
theorem dX0_stageForTram_9 : decode cX0_stageForTram 9 = .ok (.ireturn, 1) := by decide +kernel
theorem dX0_stageForTram_10 : decode cX0_stageForTram 10 = .ok (.aload_n 0, 1) := by decide +kernel
theorem dX0_stageForTram_11 : decode cX0_stageForTram 11 = .ok (.getfield 21, 3) := by decide +kernel
theorem dX0_stageForTram_14 : decode cX0_stageForTram 14 = .ok (.aload_n 0, 1) := by decide +kernel
theorem dX0_stageForTram_15 : decode cX0_stageForTram 15 = .ok (.getfield 15, 3) := by decide +kernel
theorem dX0_stageForTram_18 : decode cX0_stageForTram 18 = .ok (.invokevirtual 79, 3) := by decide +kernel
theorem dX0_stageForTram_21 : decode cX0_stageForTram 21 = .ok (.aload_n 0, 1) := by decide +kernel
theorem dX0_stageForTram_22 : decode cX0_stageForTram 22 = .ok (.getfield 18, 3) := by decide +kernel
theorem dX0_stageForTram_25 : decode cX0_stageForTram 25 = .ok (.invokestatic 90, 3) := by decide +kernel
theorem dX0_stageForTram_28 : decode cX0_stageForTram 28 = .ok (.ifCond .eq 8, 3) := by decide +kernel
theorem dX0_stageForTram_31 : decode cX0_stageForTram 31 = .ok (.aload_n 0, 1) := by decide +kernel
theorem dX0_stageForTram_32 : decode cX0_stageForTram 32 = .ok (.getfield 15, 3) := by decide +kernel
theorem dX0_stageForTram_35 : decode cX0_stageForTram 35 = .ok (.ireturn, 1) := by decide +kernel
theorem dX0_stageForTram_36 : decode cX0_stageForTram 36 = .ok (.iconst 0, 1) := by decide +kernel
theorem dX0_stageForTram_37 : decode cX0_stageForTram 37 = .ok (.istore_n 1, 1) := by decide +kernel
theorem dX0_stageForTram_38 : decode cX0_stageForTram 38 = .ok (.iload_n 1, 1) := by decide +kernel
theorem dX0_stageForTram_39 : decode cX0_stageForTram 39 = .ok (.aload_n 0, 1) := by decide +kernel
theorem dX0_stageForTram_40 : decode cX0_stageForTram 40 = .ok (.getfield 21, 3) := by decide +kernel
theorem dX0_stageForTram_43 : decode cX0_stageForTram 43 = .ok (.getfield 94, 3) := by decide +kernel
theorem dX0_stageForTram_46 : decode cX0_stageForTram 46 = .ok (.if_icmp .ge 29, 3) := by decide +kernel
theorem dX0_stageForTram_49 : decode cX0_stageForTram 49 = .ok (.aload_n 0, 1) := by decide +kernel
theorem dX0_stageForTram_50 : decode cX0_stageForTram 50 = .ok (.getfield 21, 3) := by decide +kernel
theorem dX0_stageForTram_53 : decode cX0_stageForTram 53 = .ok (.iload_n 1, 1) := by decide +kernel
theorem dX0_stageForTram_54 : decode cX0_stageForTram 54 = .ok (.invokevirtual 79, 3) := by decide +kernel
theorem dX0_stageForTram_57 : decode cX0_stageForTram 57 = .ok (.aload_n 0, 1) := by decide +kernel
theorem dX0_stageForTram_58 : decode cX0_stageForTram 58 = .ok (.getfield 18, 3) := by decide +kernel
theorem dX0_stageForTram_61 : decode cX0_stageForTram 61 = .ok (.invokestatic 90, 3) := by decide +kernel
theorem dX0_stageForTram_64 : decode cX0_stageForTram 64 = .ok (.ifCond .eq 5, 3) := by decide +kernel
theorem dX0_stageForTram_67 : decode cX0_stageForTram 67 = .ok (.iload_n 1, 1) := by decide +kernel
theorem dX0_stageForTram_68 : decode cX0_stageForTram 68 = .ok (.ireturn, 1) := by decide +kernel
theorem dX0_stageForTram_69 : decode cX0_stageForTram 69 = .ok (.iinc 1 1, 3) := by decide +kernel
theorem dX0_stageForTram_72 : decode cX0_stageForTram 72 = .ok (.goto (-34), 3) := by decide +kernel
theorem dX0_stageForTram_75 : decode cX0_stageForTram 75 = .ok (.iconst (-1), 1) := by decide +kernel
theorem dX0_stageForTram_76 : decode cX0_stageForTram 76 = .ok (.ireturn, 1) := by decide +kernel
theorem dX0_stageOnDemand_0 : decode cX0_stageOnDemand 0 = .ok (.aload_n 0, 1) := by decide +kernel
theorem dX0_stageOnDemand_1 : decode cX0_stageOnDemand 1 = .ok (.getfield 21, 3) := by decide +kernel
theorem dX0_stageOnDemand_4 : decode cX0_stageOnDemand 4 = .ok (.invokevirtual 97, 3) := by decide +kernel
theorem dX0_stageOnDemand_7 : decode cX0_stageOnDemand 7 = .ok (.aload_n 0, 1) := by decide +kernel
theorem dX0_stageOnDemand_8 : decode cX0_stageOnDemand 8 = .ok (.getfield 21, 3) := by decide +kernel
theorem dX0_stageOnDemand_11 : decode cX0_stageOnDemand 11 = .ok (.aload_n 0, 1) := by decide +kernel
theorem dX0_stageOnDemand_12 : decode cX0_stageOnDemand 12 = .ok (.getfield 15, 3) := by decide +kernel
theorem dX0_stageOnDemand_15 : decode cX0_stageOnDemand 15 = .ok (.invokevirtual 79, 3) := by decide +kernel
theorem dX0_stageOnDemand_18 : decode cX0_stageOnDemand 18 = .ok (.iconst (-1), 1) := by decide +kernel
theorem dX0_stageOnDemand_19 : decode cX0_stageOnDemand 19 = .ok (.ixor, 1) := by decide +kernel
theorem dX0_stageOnDemand_20 : decode cX0_stageOnDemand 20 = .ok (.iand, 1) := by decide +kernel
theorem dX0_stageOnDemand_21 : decode cX0_stageOnDemand 21 = .ok (.istore_n 1, 1) := by decide +kernel
theorem dX0_stageOnDemand_22 : decode cX0_stageOnDemand 22 = .ok (.aload_n 0, 1) := by decide +kernel
theorem dX0_stageOnDemand_23 : decode cX0_stageOnDemand 23 = .ok (.getfield 15, 3) := by decide +kernel
theorem dX0_stageOnDemand_26 : decode cX0_stageOnDemand 26 = .ok (.iconst 1, 1) := by decide +kernel
theorem dX0_stageOnDemand_27 : decode cX0_stageOnDemand 27 = .ok (.iadd, 1) := by decide +kernel
theorem dX0_stageOnDemand_28 : decode cX0_stageOnDemand 28 = .ok (.istore_n 2, 1) := by decide +kernel
theorem dX0_stageOnDemand_29 : decode cX0_stageOnDemand 29 = .ok (.iload_n 2, 1) := by decide +kernel
theorem dX0_stageOnDemand_30 : decode cX0_stageOnDemand 30 = .ok (.aload_n 0, 1) := by decide +kernel
theorem dX0_stageOnDemand_31 : decode cX0_stageOnDemand 31 = .ok (.getfield 21, 3) := by decide +kernel
theorem dX0_stageOnDemand_34 : decode cX0_stageOnDemand 34 = .ok (.getfield 94, 3) := by decide +kernel
theorem dX0_stageOnDemand_37 : decode cX0_stageOnDemand 37 = .ok (.if_icmp .ge 24, 3) := by decide +kernel
theorem dX0_stageOnDemand_40 : decode cX0_stageOnDemand 40 = .ok (.aload_n 0, 1) := by decide +kernel
theorem dX0_stageOnDemand_41 : decode cX0_stageOnDemand 41 = .ok (.getfield 21, 3) := by decide +kernel
theorem dX0_stageOnDemand_44 : decode cX0_stageOnDemand 44 = .ok (.iload_n 2, 1) := by decide +kernel
theorem dX0_stageOnDemand_45 : decode cX0_stageOnDemand 45 = .ok (.invokevirtual 79, 3) := by decide +kernel
theorem dX0_stageOnDemand_48 : decode cX0_stageOnDemand 48 = .ok (.iload_n 1, 1) := by decide +kernel
theorem dX0_stageOnDemand_49 : decode cX0_stageOnDemand 49 = .ok (.iand, 1) := by decide +kernel
theorem dX0_stageOnDemand_50 : decode cX0_stageOnDemand 50 = .ok (.ifCond .eq 5, 3) := by decide +kernel
theorem dX0_stageOnDemand_53 : decode cX0_stageOnDemand 53 = .ok (.iload_n 2, 1) := by decide +kernel
theorem dX0_stageOnDemand_54 : decode cX0_stageOnDemand 54 = .ok (.ireturn, 1) := by decide +kernel
theorem dX0_stageOnDemand_55 : decode cX0_stageOnDemand 55 = .ok (.iinc 2 1, 3) := by decide +kernel
theorem dX0_stageOnDemand_58 : decode cX0_stageOnDemand 58 = .ok (.goto (-29), 3) := by decide +kernel
theorem dX0_stageOnDemand_61 : decode cX0_stageOnDemand 61 = .ok (.iconst 0, 1) := by decide +kernel
theorem dX0_stageOnDemand_62 : decode cX0_stageOnDemand 62 = .ok (.istore_n 2, 1) := by decide +kernel
theorem dX0_stageOnDemand_63 : decode cX0_stageOnDemand 63 = .ok (.iload_n 2, 1) := by decide +kernel
theorem dX0_stageOnDemand_64 : decode cX0_stageOnDemand 64 = .ok (.aload_n 0, 1) := by decide +kernel
theorem dX0_stageOnDemand_65 : decode cX0_stageOnDemand 65 = .ok (.getfield 15, 3) := by decide +kernel
theorem dX0_stageOnDemand_68 : decode cX0_stageOnDemand 68 = .ok (.if_icmp .ge 24, 3) := by decide +kernel
theorem dX0_stageOnDemand_71 : decode cX0_stageOnDemand 71 = .ok (.aload_n 0, 1) := by decide +kernel
theorem dX0_stageOnDemand_72 : decode cX0_stageOnDemand 72 = .ok (.getfield 21, 3) := by decide +kernel
theorem dX0_stageOnDemand_75 : decode cX0_stageOnDemand 75 = .ok (.iload_n 2, 1) := by decide +kernel
theorem dX0_stageOnDemand_76 : decode cX0_stageOnDemand 76 = .ok (.invokevirtual 79, 3) := by decide +kernel
theorem dX0_stageOnDemand_79 : decode cX0_stageOnDemand 79 = .ok (.iload_n 1, 1) := by decide +kernel
theorem dX0_stageOnDemand_80 : decode cX0_stageOnDemand 80 = .ok (.iand, 1) := by decide +kernel
theorem dX0_stageOnDemand_81 : decode cX0_stageOnDemand 81 = .ok (.ifCond .eq 5, 3) := by decide +kernel
theorem dX0_stageOnDemand_84 : decode cX0_stageOnDemand 84 = .ok (.iload_n 2, 1) := by decide +kernel
theorem dX0_stageOnDemand_85 : decode cX0_stageOnDemand 85 = .ok (.ireturn, 1) := by decide +kernel
theorem dX0_stageOnDemand_86 : decode cX0_stageOnDemand 86 = .ok (.iinc 2 1, 3) := by decide +kernel
theorem dX0_stageOnDemand_89 : decode cX0_stageOnDemand 89 = .ok (.goto (-26), 3) := by decide +kernel
theorem dX0_stageOnDemand_92 : decode cX0_stageOnDemand 92 = .ok (.iconst (-1), 1) := by decide +kernel
theorem dX0_stageOnDemand_93 : decode cX0_stageOnDemand 93 = .ok (.ireturn, 1) := by decide +kernel
theorem dX0_mayEnd_0 : decode cX0_mayEnd 0 = .ok (.iconst 0, 1) := by decide +kernel
theorem dX0_mayEnd_1 : decode cX0_mayEnd 1 = .ok (.istore_n 3, 1) := by decide +kernel
theorem dX0_mayEnd_2 : decode cX0_mayEnd 2 = .ok (.iload_n 3, 1) := by decide +kernel
theorem dX0_mayEnd_3 : decode cX0_mayEnd 3 = .ok (.aload_n 0, 1) := by decide +kernel
theorem dX0_mayEnd_4 : decode cX0_mayEnd 4 = .ok (.getfield 21, 3) := by decide +kernel
theorem dX0_mayEnd_7 : decode cX0_mayEnd 7 = .ok (.getfield 33, 3) := by decide +kernel
theorem dX0_mayEnd_10 : decode cX0_mayEnd 10 = .ok (.if_icmp .ge 35, 3) := by decide +kernel
theorem dX0_mayEnd_13 : decode cX0_mayEnd 13 = .ok (.iload_n 1, 1) := by decide +kernel
theorem dX0_mayEnd_14 : decode cX0_mayEnd 14 = .ok (.iload_n 3, 1) := by decide +kernel
theorem dX0_mayEnd_15 : decode cX0_mayEnd 15 = .ok (.invokestatic 90, 3) := by decide +kernel
theorem dX0_mayEnd_18 : decode cX0_mayEnd 18 = .ok (.ifCond .eq 21, 3) := by decide +kernel
theorem dX0_mayEnd_21 : decode cX0_mayEnd 21 = .ok (.aload_n 0, 1) := by decide +kernel
theorem dX0_mayEnd_22 : decode cX0_mayEnd 22 = .ok (.getfield 21, 3) := by decide +kernel
theorem dX0_mayEnd_25 : decode cX0_mayEnd 25 = .ok (.getfield 38, 3) := by decide +kernel
theorem dX0_mayEnd_28 : decode cX0_mayEnd 28 = .ok (.iload_n 3, 1) := by decide +kernel
theorem dX0_mayEnd_29 : decode cX0_mayEnd 29 = .ok (.aaload, 1) := by decide +kernel
theorem dX0_mayEnd_30 : decode cX0_mayEnd 30 = .ok (.iload_n 2, 1) := by decide +kernel
theorem dX0_mayEnd_31 : decode cX0_mayEnd 31 = .ok (.invokevirtual 100, 3) := by decide +kernel
theorem dX0_mayEnd_34 : decode cX0_mayEnd 34 = .ok (.ifCond .ne 5, 3) := by decide +kernel
theorem dX0_mayEnd_37 : decode cX0_mayEnd 37 = .ok (.iconst 0, 1) := by decide +kernel
theorem dX0_mayEnd_38 : decode cX0_mayEnd 38 = .ok (.ireturn, 1) := by decide +kernel
theorem dX0_mayEnd_39 : decode cX0_mayEnd 39 = .ok (.iinc 3 1, 3) := by decide +kernel
theorem dX0_mayEnd_42 : decode cX0_mayEnd 42 = .ok (.goto (-40), 3) := by decide +kernel
theorem dX0_mayEnd_45 : decode cX0_mayEnd 45 = .ok (.iconst 1, 1) := by decide +kernel
theorem dX0_mayEnd_46 : decode cX0_mayEnd 46 = .ok (.ireturn, 1) := by decide +kernel
theorem dX0_endGreens_0 : decode cX0_endGreens 0 = .ok (.iconst 0, 1) := by decide +kernel
theorem dX0_endGreens_1 : decode cX0_endGreens 1 = .ok (.istore_n 2, 1) := by decide +kernel
theorem dX0_endGreens_2 : decode cX0_endGreens 2 = .ok (.iload_n 2, 1) := by decide +kernel
theorem dX0_endGreens_3 : decode cX0_endGreens 3 = .ok (.aload_n 0, 1) := by decide +kernel
theorem dX0_endGreens_4 : decode cX0_endGreens 4 = .ok (.getfield 21, 3) := by decide +kernel
theorem dX0_endGreens_7 : decode cX0_endGreens 7 = .ok (.getfield 33, 3) := by decide +kernel
theorem dX0_endGreens_10 : decode cX0_endGreens 10 = .ok (.if_icmp .ge 33, 3) := by decide +kernel
theorem dX0_endGreens_13 : decode cX0_endGreens 13 = .ok (.iload_n 1, 1) := by decide +kernel
theorem dX0_endGreens_14 : decode cX0_endGreens 14 = .ok (.iload_n 2, 1) := by decide +kernel
theorem dX0_endGreens_15 : decode cX0_endGreens 15 = .ok (.invokestatic 90, 3) := by decide +kernel
theorem dX0_endGreens_18 : decode cX0_endGreens 18 = .ok (.ifCond .eq 19, 3) := by decide +kernel
theorem dX0_endGreens_21 : decode cX0_endGreens 21 = .ok (.aload_n 0, 1) := by decide +kernel
theorem dX0_endGreens_22 : decode cX0_endGreens 22 = .ok (.getfield 21, 3) := by decide +kernel
theorem dX0_endGreens_25 : decode cX0_endGreens 25 = .ok (.getfield 38, 3) := by decide +kernel
theorem dX0_endGreens_28 : decode cX0_endGreens 28 = .ok (.iload_n 2, 1) := by decide +kernel
theorem dX0_endGreens_29 : decode cX0_endGreens 29 = .ok (.aaload, 1) := by decide +kernel
theorem dX0_endGreens_30 : decode cX0_endGreens 30 = .ok (.aload_n 0, 1) := by decide +kernel
theorem dX0_endGreens_31 : decode cX0_endGreens 31 = .ok (.getfield 42, 3) := by decide +kernel
theorem dX0_endGreens_34 : decode cX0_endGreens 34 = .ok (.invokevirtual 103, 3) := by decide +kernel
theorem dX0_endGreens_37 : decode cX0_endGreens 37 = .ok (.iinc 2 1, 3) := by decide +kernel
theorem dX0_endGreens_40 : decode cX0_endGreens 40 = .ok (.goto (-38), 3) := by decide +kernel
theorem dX0_endGreens_43 : decode cX0_endGreens 43 = .ok (.return_, 1) := by decide +kernel
theorem dX0_enterStage_0 : decode cX0_enterStage 0 = .ok (.aload_n 0, 1) := by decide +kernel
theorem dX0_enterStage_1 : decode cX0_enterStage 1 = .ok (.getfield 9, 3) := by decide +kernel
theorem dX0_enterStage_4 : decode cX0_enterStage 4 = .ok (.iconst 1, 1) := by decide +kernel
theorem dX0_enterStage_5 : decode cX0_enterStage 5 = .ok (.if_icmp .eq 4, 3) := by decide +kernel
theorem dX0_enterStage_8 : decode cX0_enterStage 8 = .ok (.return_, 1) := by decide +kernel
theorem dX0_enterStage_9 : decode cX0_enterStage 9 = .ok (.aload_n 0, 1) := by decide +kernel
theorem dX0_enterStage_10 : decode cX0_enterStage 10 = .ok (.getfield 21, 3) := by decide +kernel
theorem dX0_enterStage_13 : decode cX0_enterStage 13 = .ok (.aload_n 0, 1) := by decide +kernel
theorem dX0_enterStage_14 : decode cX0_enterStage 14 = .ok (.getfield 15, 3) := by decide +kernel
theorem dX0_enterStage_17 : decode cX0_enterStage 17 = .ok (.invokevirtual 79, 3) := by decide +kernel
theorem dX0_enterStage_20 : decode cX0_enterStage 20 = .ok (.istore_n 1, 1) := by decide +kernel
theorem dX0_enterStage_21 : decode cX0_enterStage 21 = .ok (.iconst 1, 1) := by decide +kernel
theorem dX0_enterStage_22 : decode cX0_enterStage 22 = .ok (.istore_n 2, 1) := by decide +kernel
theorem dX0_enterStage_23 : decode cX0_enterStage 23 = .ok (.iconst 0, 1) := by decide +kernel
theorem dX0_enterStage_24 : decode cX0_enterStage 24 = .ok (.istore_n 3, 1) := by decide +kernel
theorem dX0_enterStage_25 : decode cX0_enterStage 25 = .ok (.iload_n 3, 1) := by decide +kernel
theorem dX0_enterStage_26 : decode cX0_enterStage 26 = .ok (.aload_n 0, 1) := by decide +kernel
theorem dX0_enterStage_27 : decode cX0_enterStage 27 = .ok (.getfield 21, 3) := by decide +kernel
theorem dX0_enterStage_30 : decode cX0_enterStage 30 = .ok (.getfield 33, 3) := by decide +kernel
theorem dX0_enterStage_33 : decode cX0_enterStage 33 = .ok (.if_icmp .ge 58, 3) := by decide +kernel
theorem dX0_enterStage_36 : decode cX0_enterStage 36 = .ok (.aload_n 0, 1) := by decide +kernel
theorem dX0_enterStage_37 : decode cX0_enterStage 37 = .ok (.getfield 21, 3) := by decide +kernel
theorem dX0_enterStage_40 : decode cX0_enterStage 40 = .ok (.getfield 38, 3) := by decide +kernel
theorem dX0_enterStage_43 : decode cX0_enterStage 43 = .ok (.iload_n 3, 1) := by decide +kernel
theorem dX0_enterStage_44 : decode cX0_enterStage 44 = .ok (.aaload, 1) := by decide +kernel
theorem dX0_enterStage_45 : decode cX0_enterStage 45 = .ok (.astore 4, 2) := by decide +kernel
theorem dX0_enterStage_47 : decode cX0_enterStage 47 = .ok (.iload_n 1, 1) := by decide +kernel
theorem dX0_enterStage_48 : decode cX0_enterStage 48 = .ok (.iload_n 3, 1) := by decide +kernel
theorem dX0_enterStage_49 : decode cX0_enterStage 49 = .ok (.invokestatic 90, 3) := by decide +kernel
theorem dX0_enterStage_52 : decode cX0_enterStage 52 = .ok (.ifCond .eq 33, 3) := by decide +kernel
theorem dX0_enterStage_55 : decode cX0_enterStage 55 = .ok (.aload 4, 2) := by decide +kernel
theorem dX0_enterStage_57 : decode cX0_enterStage 57 = .ok (.getfield 106, 3) := by decide +kernel
theorem dX0_enterStage_60 : decode cX0_enterStage 60 = .ok (.iconst 1, 1) := by decide +kernel
theorem dX0_enterStage_61 : decode cX0_enterStage 61 = .ok (.if_icmp .ne 6, 3) := by decide +kernel
theorem dX0_enterStage_64 : decode cX0_enterStage 64 = .ok (.goto 21, 3) := by decide +kernel
theorem dX0_enterStage_67 : decode cX0_enterStage 67 = .ok (.aload_n 0, 1) := by decide +kernel
theorem dX0_enterStage_68 : decode cX0_enterStage 68 = .ok (.iload_n 3, 1) := by decide +kernel
theorem dX0_enterStage_69 : decode cX0_enterStage 69 = .ok (.invokevirtual 109, 3) := by decide +kernel
theorem dX0_enterStage_72 : decode cX0_enterStage 72 = .ok (.ifCond .eq 11, 3) := by decide +kernel
theorem dX0_enterStage_75 : decode cX0_enterStage 75 = .ok (.aload 4, 2) := by decide +kernel
theorem dX0_enterStage_77 : decode cX0_enterStage 77 = .ok (.invokevirtual 113, 3) := by decide +kernel
theorem dX0_enterStage_80 : decode cX0_enterStage 80 = .ok (.goto 5, 3) := by decide +kernel
theorem dX0_enterStage_83 : decode cX0_enterStage 83 = .ok (.iconst 0, 1) := by decide +kernel
theorem dX0_enterStage_84 : decode cX0_enterStage 84 = .ok (.istore_n 2, 1) := by decide +kernel
theorem dX0_enterStage_85 : decode cX0_enterStage 85 = .ok (.iinc 3 1, 3) := by decide +kernel
theorem dX0_enterStage_88 : decode cX0_enterStage 88 = .ok (.goto (-63), 3) := by decide +kernel
theorem dX0_enterStage_91 : decode cX0_enterStage 91 = .ok (.iload_n 2, 1) := by decide +kernel
theorem dX0_enterStage_92 : decode cX0_enterStage 92 = .ok (.ifCond .eq 8, 3) := by decide +kernel
theorem dX0_enterStage_95 : decode cX0_enterStage 95 = .ok (.aload_n 0, 1) := by decide +kernel
theorem dX0_enterStage_96 : decode cX0_enterStage 96 = .ok (.iconst 2, 1) := by decide +kernel
theorem dX0_enterStage_97 : decode cX0_enterStage 97 = .ok (.putfield 9, 3) := by decide +kernel
theorem dX0_enterStage_100 : decode cX0_enterStage 100 = .ok (.return_, 1) := by decide +kernel
theorem dX0_mayBegin_0 : decode cX0_mayBegin 0 = .ok (.iconst 0, 1) := by decide +kernel
theorem dX0_mayBegin_1 : decode cX0_mayBegin 1 = .ok (.istore_n 2, 1) := by decide +kernel
theorem dX0_mayBegin_2 : decode cX0_mayBegin 2 = .ok (.iload_n 2, 1) := by decide +kernel
theorem dX0_mayBegin_3 : decode cX0_mayBegin 3 = .ok (.aload_n 0, 1) := by decide +kernel
theorem dX0_mayBegin_4 : decode cX0_mayBegin 4 = .ok (.getfield 21, 3) := by decide +kernel
theorem dX0_mayBegin_7 : decode cX0_mayBegin 7 = .ok (.getfield 33, 3) := by decide +kernel
theorem dX0_mayBegin_10 : decode cX0_mayBegin 10 = .ok (.if_icmp .ge 47, 3) := by decide +kernel
theorem dX0_mayBegin_13 : decode cX0_mayBegin 13 = .ok (.aload_n 0, 1) := by decide +kernel
theorem dX0_mayBegin_14 : decode cX0_mayBegin 14 = .ok (.getfield 21, 3) := by decide +kernel
theorem dX0_mayBegin_17 : decode cX0_mayBegin 17 = .ok (.getfield 116, 3) := by decide +kernel
theorem dX0_mayBegin_20 : decode cX0_mayBegin 20 = .ok (.iload_n 2, 1) := by decide +kernel
theorem dX0_mayBegin_21 : decode cX0_mayBegin 21 = .ok (.aaload, 1) := by decide +kernel
theorem dX0_mayBegin_22 : decode cX0_mayBegin 22 = .ok (.iload_n 1, 1) := by decide +kernel
theorem dX0_mayBegin_23 : decode cX0_mayBegin 23 = .ok (.iaload, 1) := by decide +kernel
theorem dX0_mayBegin_24 : decode cX0_mayBegin 24 = .ok (.istore_n 3, 1) := by decide +kernel
theorem dX0_mayBegin_25 : decode cX0_mayBegin 25 = .ok (.iload_n 3, 1) := by decide +kernel
theorem dX0_mayBegin_26 : decode cX0_mayBegin 26 = .ok (.ifCond .le 25, 3) := by decide +kernel
theorem dX0_mayBegin_29 : decode cX0_mayBegin 29 = .ok (.aload_n 0, 1) := by decide +kernel
theorem dX0_mayBegin_30 : decode cX0_mayBegin 30 = .ok (.getfield 21, 3) := by decide +kernel
theorem dX0_mayBegin_33 : decode cX0_mayBegin 33 = .ok (.getfield 38, 3) := by decide +kernel
theorem dX0_mayBegin_36 : decode cX0_mayBegin 36 = .ok (.iload_n 2, 1) := by decide +kernel
theorem dX0_mayBegin_37 : decode cX0_mayBegin 37 = .ok (.aaload, 1) := by decide +kernel
theorem dX0_mayBegin_38 : decode cX0_mayBegin 38 = .ok (.aload_n 0, 1) := by decide +kernel
theorem dX0_mayBegin_39 : decode cX0_mayBegin 39 = .ok (.getfield 42, 3) := by decide +kernel
theorem dX0_mayBegin_42 : decode cX0_mayBegin 42 = .ok (.iload_n 3, 1) := by decide +kernel
theorem dX0_mayBegin_43 : decode cX0_mayBegin 43 = .ok (.invokevirtual 120, 3) := by decide +kernel
theorem dX0_mayBegin_46 : decode cX0_mayBegin 46 = .ok (.ifCond .ne 5, 3) := by decide +kernel
theorem dX0_mayBegin_49 : decode cX0_mayBegin 49 = .ok (.iconst 0, 1) := by decide +kernel
theorem dX0_mayBegin_50 : decode cX0_mayBegin 50 = .ok (.ireturn, 1) := by decide +kernel
theorem dX0_mayBegin_51 : decode cX0_mayBegin 51 = .ok (.iinc 2 1, 3) := by decide +kernel
theorem dX0_mayBegin_54 : decode cX0_mayBegin 54 = .ok (.goto (-52), 3) := by decide +kernel
theorem dX0_mayBegin_57 : decode cX0_mayBegin 57 = .ok (.iconst 1, 1) := by decide +kernel
theorem dX0_mayBegin_58 : decode cX0_mayBegin 58 = .ok (.ireturn, 1) := by decide +kernel
theorem dX0_fadeAmbers_0 : decode cX0_fadeAmbers 0 = .ok (.iconst 0, 1) := by decide +kernel
theorem dX0_fadeAmbers_1 : decode cX0_fadeAmbers 1 = .ok (.istore_n 1, 1) := by decide +kernel
theorem dX0_fadeAmbers_2 : decode cX0_fadeAmbers 2 = .ok (.iload_n 1, 1) := by decide +kernel
theorem dX0_fadeAmbers_3 : decode cX0_fadeAmbers 3 = .ok (.aload_n 0, 1) := by decide +kernel
theorem dX0_fadeAmbers_4 : decode cX0_fadeAmbers 4 = .ok (.getfield 21, 3) := by decide +kernel
theorem dX0_fadeAmbers_7 : decode cX0_fadeAmbers 7 = .ok (.getfield 33, 3) := by decide +kernel
theorem dX0_fadeAmbers_10 : decode cX0_fadeAmbers 10 = .ok (.if_icmp .ge 25, 3) := by decide +kernel
theorem dX0_fadeAmbers_13 : decode cX0_fadeAmbers 13 = .ok (.aload_n 0, 1) := by decide +kernel
theorem dX0_fadeAmbers_14 : decode cX0_fadeAmbers 14 = .ok (.getfield 21, 3) := by decide +kernel
theorem dX0_fadeAmbers_17 : decode cX0_fadeAmbers 17 = .ok (.getfield 38, 3) := by decide +kernel
theorem dX0_fadeAmbers_20 : decode cX0_fadeAmbers 20 = .ok (.iload_n 1, 1) := by decide +kernel
theorem dX0_fadeAmbers_21 : decode cX0_fadeAmbers 21 = .ok (.aaload, 1) := by decide +kernel
theorem dX0_fadeAmbers_22 : decode cX0_fadeAmbers 22 = .ok (.aload_n 0, 1) := by decide +kernel
theorem dX0_fadeAmbers_23 : decode cX0_fadeAmbers 23 = .ok (.getfield 42, 3) := by decide +kernel
theorem dX0_fadeAmbers_26 : decode cX0_fadeAmbers 26 = .ok (.invokevirtual 123, 3) := by decide +kernel
theorem dX0_fadeAmbers_29 : decode cX0_fadeAmbers 29 = .ok (.iinc 1 1, 3) := by decide +kernel
theorem dX0_fadeAmbers_32 : decode cX0_fadeAmbers 32 = .ok (.goto (-30), 3) := by decide +kernel
theorem dX0_fadeAmbers_35 : decode cX0_fadeAmbers 35 = .ok (.return_, 1) := by decide +kernel
theorem dX0_watch_0 : decode cX0_watch 0 = .ok (.aload_n 0, 1) := by decide +kernel
theorem dX0_watch_1 : decode cX0_watch 1 = .ok (.invokevirtual 126, 3) := by decide +kernel
theorem dX0_watch_4 : decode cX0_watch 4 = .ok (.ifCond .ne 4, 3) := by decide +kernel
theorem dX0_watch_7 : decode cX0_watch 7 = .ok (.return_, 1) := by decide +kernel
theorem dX0_watch_8 : decode cX0_watch 8 = .ok (.iconst 0, 1) := by decide +kernel
theorem dX0_watch_9 : decode cX0_watch 9 = .ok (.istore_n 1, 1) := by decide +kernel
theorem dX0_watch_10 : decode cX0_watch 10 = .ok (.iload_n 1, 1) := by decide +kernel
theorem dX0_watch_11 : decode cX0_watch 11 = .ok (.aload_n 0, 1) := by decide +kernel
theorem dX0_watch_12 : decode cX0_watch 12 = .ok (.getfield 21, 3) := by decide +kernel
theorem dX0_watch_15 : decode cX0_watch 15 = .ok (.getfield 33, 3) := by decide +kernel
theorem dX0_watch_18 : decode cX0_watch 18 = .ok (.if_icmp .ge 48, 3) := by decide +kernel
theorem dX0_watch_21 : decode cX0_watch 21 = .ok (.aload_n 0, 1) := by decide +kernel
theorem dX0_watch_22 : decode cX0_watch 22 = .ok (.getfield 21, 3) := by decide +kernel
theorem dX0_watch_25 : decode cX0_watch 25 = .ok (.getfield 38, 3) := by decide +kernel
theorem dX0_watch_28 : decode cX0_watch 28 = .ok (.iload_n 1, 1) := by decide +kernel
theorem dX0_watch_29 : decode cX0_watch 29 = .ok (.aaload, 1) := by decide +kernel
theorem dX0_watch_30 : decode cX0_watch 30 = .ok (.astore_n 2, 1) := by decide +kernel
theorem dX0_watch_31 : decode cX0_watch 31 = .ok (.aload_n 2, 1) := by decide +kernel
theorem dX0_watch_32 : decode cX0_watch 32 = .ok (.getfield 106, 3) := by decide +kernel
theorem dX0_watch_35 : decode cX0_watch 35 = .ok (.ifCond .ne 25, 3) := by decide +kernel
theorem dX0_watch_38 : decode cX0_watch 38 = .ok (.aload_n 2, 1) := by decide +kernel
theorem dX0_watch_39 : decode cX0_watch 39 = .ok (.iconst 0, 1) := by decide +kernel
theorem dX0_watch_40 : decode cX0_watch 40 = .ok (.invokevirtual 130, 3) := by decide +kernel
theorem dX0_watch_43 : decode cX0_watch 43 = .ok (.ifCond .eq 17, 3) := by decide +kernel
theorem dX0_watch_46 : decode cX0_watch 46 = .ok (.aload_n 0, 1) := by decide +kernel
theorem dX0_watch_47 : decode cX0_watch 47 = .ok (.iload_n 1, 1) := by decide +kernel
theorem dX0_watch_48 : decode cX0_watch 48 = .ok (.invokevirtual 133, 3) := by decide +kernel
theorem dX0_watch_51 : decode cX0_watch 51 = .ok (.ifCond .eq 9, 3) := by decide +kernel
theorem dX0_watch_54 : decode cX0_watch 54 = .ok (.aload_n 0, 1) := by decide +kernel
theorem dX0_watch_55 : decode cX0_watch 55 = .ok (.iconst 3, 1) := by decide +kernel
theorem dX0_watch_56 : decode cX0_watch 56 = .ok (.invokevirtual 136, 3) := by decide +kernel
theorem dX0_watch_59 : decode cX0_watch 59 = .ok (.return_, 1) := by decide +kernel
theorem dX0_watch_60 : decode cX0_watch 60 = .ok (.iinc 1 1, 3) := by decide +kernel
theorem dX0_watch_63 : decode cX0_watch 63 = .ok (.goto (-53), 3) := by decide +kernel
theorem dX0_watch_66 : decode cX0_watch 66 = .ok (.return_, 1) := by decide +kernel
theorem dX0_isAgainstLit_0 : decode cX0_isAgainstLit 0 = .ok (.iconst 0, 1) := by decide +kernel
theorem dX0_isAgainstLit_1 : decode cX0_isAgainstLit 1 = .ok (.istore_n 2, 1) := by decide +kernel
theorem dX0_isAgainstLit_2 : decode cX0_isAgainstLit 2 = .ok (.iload_n 2, 1) := by decide +kernel
theorem dX0_isAgainstLit_3 : decode cX0_isAgainstLit 3 = .ok (.aload_n 0, 1) := by decide +kernel
theorem dX0_isAgainstLit_4 : decode cX0_isAgainstLit 4 = .ok (.getfield 21, 3) := by decide +kernel
theorem dX0_isAgainstLit_7 : decode cX0_isAgainstLit 7 = .ok (.getfield 33, 3) := by decide +kernel
theorem dX0_isAgainstLit_10 : decode cX0_isAgainstLit 10 = .ok (.if_icmp .ge 38, 3) := by decide +kernel
theorem dX0_isAgainstLit_13 : decode cX0_isAgainstLit 13 = .ok (.aload_n 0, 1) := by decide +kernel
theorem dX0_isAgainstLit_14 : decode cX0_isAgainstLit 14 = .ok (.getfield 21, 3) := by decide +kernel
theorem dX0_isAgainstLit_17 : decode cX0_isAgainstLit 17 = .ok (.iload_n 1, 1) := by decide +kernel
theorem dX0_isAgainstLit_18 : decode cX0_isAgainstLit 18 = .ok (.iload_n 2, 1) := by decide +kernel
theorem dX0_isAgainstLit_19 : decode cX0_isAgainstLit 19 = .ok (.invokevirtual 139, 3) := by decide +kernel
theorem dX0_isAgainstLit_22 : decode cX0_isAgainstLit 22 = .ok (.ifCond .eq 20, 3) := by decide +kernel
theorem dX0_isAgainstLit_25 : decode cX0_isAgainstLit 25 = .ok (.aload_n 0, 1) := by decide +kernel
theorem dX0_isAgainstLit_26 : decode cX0_isAgainstLit 26 = .ok (.getfield 21, 3) := by decide +kernel
theorem dX0_isAgainstLit_29 : decode cX0_isAgainstLit 29 = .ok (.getfield 38, 3) := by decide +kernel
theorem dX0_isAgainstLit_32 : decode cX0_isAgainstLit 32 = .ok (.iload_n 2, 1) := by decide +kernel
theorem dX0_isAgainstLit_33 : decode cX0_isAgainstLit 33 = .ok (.aaload, 1) := by decide +kernel
theorem dX0_isAgainstLit_34 : decode cX0_isAgainstLit 34 = .ok (.getfield 106, 3) := by decide +kernel
theorem dX0_isAgainstLit_37 : decode cX0_isAgainstLit 37 = .ok (.ifCond .eq 5, 3) := by decide +kernel
theorem dX0_isAgainstLit_40 : decode cX0_isAgainstLit 40 = .ok (.iconst 1, 1) := by decide +kernel
theorem dX0_isAgainstLit_41 : decode cX0_isAgainstLit 41 = .ok (.ireturn, 1) := by decide +kernel
theorem dX0_isAgainstLit_42 : decode cX0_isAgainstLit 42 = .ok (.iinc 2 1, 3) := by decide +kernel
theorem dX0_isAgainstLit_45 : decode cX0_isAgainstLit 45 = .ok (.goto (-43), 3) := by decide +kernel
theorem dX0_isAgainstLit_48 : decode cX0_isAgainstLit 48 = .ok (.iconst 0, 1) := by decide +kernel
theorem dX0_isAgainstLit_49 : decode cX0_isAgainstLit 49 = .ok (.ireturn, 1) := by decide +kernel
theorem dX0_writeLog_0 : decode cX0_writeLog 0 = .ok (.aload_n 0, 1) := by decide +kernel
theorem dX0_writeLog_1 : decode cX0_writeLog 1 = .ok (.getfield 25, 3) := by decide +kernel
theorem dX0_writeLog_4 : decode cX0_writeLog 4 = .ok (.aload_n 0, 1) := by decide +kernel
theorem dX0_writeLog_5 : decode cX0_writeLog 5 = .ok (.getfield 42, 3) := by decide +kernel
theorem dX0_writeLog_8 : decode cX0_writeLog 8 = .ok (.invokevirtual 142, 3) := by decide +kernel
theorem dX0_writeLog_11 : decode cX0_writeLog 11 = .ok (.aload_n 0, 1) := by decide +kernel
theorem dX0_writeLog_12 : decode cX0_writeLog 12 = .ok (.invokevirtual 126, 3) := by decide +kernel
theorem dX0_writeLog_15 : decode cX0_writeLog 15 = .ok (.ifCond .ne 4, 3) := by decide +kernel
theorem dX0_writeLog_18 : decode cX0_writeLog 18 = .ok (.return_, 1) := by decide +kernel
theorem dX0_writeLog_19 : decode cX0_writeLog 19 = .ok (.iconst 0, 1) := by decide +kernel
theorem dX0_writeLog_20 : decode cX0_writeLog 20 = .ok (.istore_n 1, 1) := by decide +kernel
theorem dX0_writeLog_21 : decode cX0_writeLog 21 = .ok (.iload_n 1, 1) := by decide +kernel
theorem dX0_writeLog_22 : decode cX0_writeLog 22 = .ok (.aload_n 0, 1) := by decide +kernel
theorem dX0_writeLog_23 : decode cX0_writeLog 23 = .ok (.getfield 21, 3) := by decide +kernel
theorem dX0_writeLog_26 : decode cX0_writeLog 26 = .ok (.getfield 33, 3) := by decide +kernel
theorem dX0_writeLog_29 : decode cX0_writeLog 29 = .ok (.if_icmp .ge 33, 3) := by decide +kernel
theorem dX0_writeLog_32 : decode cX0_writeLog 32 = .ok (.aload_n 0, 1) := by decide +kernel
theorem dX0_writeLog_33 : decode cX0_writeLog 33 = .ok (.getfield 25, 3) := by decide +kernel
theorem dX0_writeLog_36 : decode cX0_writeLog 36 = .ok (.iload_n 1, 1) := by decide +kernel
theorem dX0_writeLog_37 : decode cX0_writeLog 37 = .ok (.aload_n 0, 1) := by decide +kernel
theorem dX0_writeLog_38 : decode cX0_writeLog 38 = .ok (.getfield 42, 3) := by decide +kernel
theorem dX0_writeLog_41 : decode cX0_writeLog 41 = .ok (.aload_n 0, 1) := by decide +kernel
theorem dX0_writeLog_42 : decode cX0_writeLog 42 = .ok (.getfield 21, 3) := by decide +kernel
theorem dX0_writeLog_45 : decode cX0_writeLog 45 = .ok (.getfield 38, 3) := by decide +kernel
theorem dX0_writeLog_48 : decode cX0_writeLog 48 = .ok (.iload_n 1, 1) := by decide +kernel
theorem dX0_writeLog_49 : decode cX0_writeLog 49 = .ok (.aaload, 1) := by decide +kernel
theorem dX0_writeLog_50 : decode cX0_writeLog 50 = .ok (.invokevirtual 147, 3) := by decide +kernel
theorem dX0_writeLog_53 : decode cX0_writeLog 53 = .ok (.invokevirtual 150, 3) := by decide +kernel
theorem dX0_writeLog_56 : decode cX0_writeLog 56 = .ok (.iinc 1 1, 3) := by decide +kernel
theorem dX0_writeLog_59 : decode cX0_writeLog 59 = .ok (.goto (-38), 3) := by decide +kernel
theorem dX0_writeLog_62 : decode cX0_writeLog 62 = .ok (.return_, 1) := by decide +kernel
theorem dX0_movePhases_0 : decode cX0_movePhases 0 = .ok (.iconst 0, 1) := by decide +kernel
theorem dX0_movePhases_1 : decode cX0_movePhases 1 = .ok (.istore_n 1, 1) := by decide +kernel
theorem dX0_movePhases_2 : decode cX0_movePhases 2 = .ok (.iload_n 1, 1) := by decide +kernel
theorem dX0_movePhases_3 : decode cX0_movePhases 3 = .ok (.aload_n 0, 1) := by decide +kernel
theorem dX0_movePhases_4 : decode cX0_movePhases 4 = .ok (.getfield 21, 3) := by decide +kernel
theorem dX0_movePhases_7 : decode cX0_movePhases 7 = .ok (.getfield 33, 3) := by decide +kernel
theorem dX0_movePhases_10 : decode cX0_movePhases 10 = .ok (.if_icmp .ge 30, 3) := by decide +kernel
theorem dX0_movePhases_13 : decode cX0_movePhases 13 = .ok (.aload_n 0, 1) := by decide +kernel
theorem dX0_movePhases_14 : decode cX0_movePhases 14 = .ok (.dup, 1) := by decide +kernel
theorem dX0_movePhases_15 : decode cX0_movePhases 15 = .ok (.getfield 154, 3) := by decide +kernel
theorem dX0_movePhases_18 : decode cX0_movePhases 18 = .ok (.aload_n 0, 1) := by decide +kernel
theorem dX0_movePhases_19 : decode cX0_movePhases 19 = .ok (.getfield 21, 3) := by decide +kernel
theorem dX0_movePhases_22 : decode cX0_movePhases 22 = .ok (.getfield 38, 3) := by decide +kernel
theorem dX0_movePhases_25 : decode cX0_movePhases 25 = .ok (.iload_n 1, 1) := by decide +kernel
theorem dX0_movePhases_26 : decode cX0_movePhases 26 = .ok (.aaload, 1) := by decide +kernel
theorem dX0_movePhases_27 : decode cX0_movePhases 27 = .ok (.invokevirtual 157, 3) := by decide +kernel
theorem dX0_movePhases_30 : decode cX0_movePhases 30 = .ok (.iadd, 1) := by decide +kernel
theorem dX0_movePhases_31 : decode cX0_movePhases 31 = .ok (.putfield 154, 3) := by decide +kernel
theorem dX0_movePhases_34 : decode cX0_movePhases 34 = .ok (.iinc 1 1, 3) := by decide +kernel
theorem dX0_movePhases_37 : decode cX0_movePhases 37 = .ok (.goto (-35), 3) := by decide +kernel
theorem dX0_movePhases_40 : decode cX0_movePhases 40 = .ok (.return_, 1) := by decide +kernel
theorem dX0_addQueues_0 : decode cX0_addQueues 0 = .ok (.iconst 0, 1) := by decide +kernel
theorem dX0_addQueues_1 : decode cX0_addQueues 1 = .ok (.istore_n 1, 1) := by decide +kernel
theorem dX0_addQueues_2 : decode cX0_addQueues 2 = .ok (.iload_n 1, 1) := by decide +kernel
theorem dX0_addQueues_3 : decode cX0_addQueues 3 = .ok (.aload_n 0, 1) := by decide +kernel
theorem dX0_addQueues_4 : decode cX0_addQueues 4 = .ok (.getfield 21, 3) := by decide +kernel
theorem dX0_addQueues_7 : decode cX0_addQueues 7 = .ok (.getfield 33, 3) := by decide +kernel
theorem dX0_addQueues_10 : decode cX0_addQueues 10 = .ok (.if_icmp .ge 31, 3) := by decide +kernel
theorem dX0_addQueues_13 : decode cX0_addQueues 13 = .ok (.aload_n 0, 1) := by decide +kernel
theorem dX0_addQueues_14 : decode cX0_addQueues 14 = .ok (.dup, 1) := by decide +kernel
theorem dX0_addQueues_15 : decode cX0_addQueues 15 = .ok (.getfield 160, 3) := by decide +kernel
theorem dX0_addQueues_18 : decode cX0_addQueues 18 = .ok (.aload_n 0, 1) := by decide +kernel
theorem dX0_addQueues_19 : decode cX0_addQueues 19 = .ok (.getfield 21, 3) := by decide +kernel
theorem dX0_addQueues_22 : decode cX0_addQueues 22 = .ok (.getfield 38, 3) := by decide +kernel
theorem dX0_addQueues_25 : decode cX0_addQueues 25 = .ok (.iload_n 1, 1) := by decide +kernel
theorem dX0_addQueues_26 : decode cX0_addQueues 26 = .ok (.aaload, 1) := by decide +kernel
theorem dX0_addQueues_27 : decode cX0_addQueues 27 = .ok (.getfield 164, 3) := by decide +kernel
theorem dX0_addQueues_30 : decode cX0_addQueues 30 = .ok (.i2l, 1) := by decide +kernel
theorem dX0_addQueues_31 : decode cX0_addQueues 31 = .ok (.ladd, 1) := by decide +kernel
theorem dX0_addQueues_32 : decode cX0_addQueues 32 = .ok (.putfield 160, 3) := by decide +kernel
theorem dX0_addQueues_35 : decode cX0_addQueues 35 = .ok (.iinc 1 1, 3) := by decide +kernel
theorem dX0_addQueues_38 : decode cX0_addQueues 38 = .ok (.goto (-36), 3) := by decide +kernel
theorem dX0_addQueues_41 : decode cX0_addQueues 41 = .ok (.return_, 1) := by decide +kernel
theorem dX0_tell_0 : decode cX0_tell 0 = .ok (.iload_n 1, 1) := by decide +kernel
theorem dX0_tell_1 : decode cX0_tell 1 = .ok (.tableswitch 51 0 3 #[31, 36, 41, 46], 31) := by decide +kernel
theorem dX0_tell_32 : decode cX0_tell 32 = .ok (.aload_n 0, 1) := by decide +kernel
theorem dX0_tell_33 : decode cX0_tell 33 = .ok (.getfield 9, 3) := by decide +kernel
theorem dX0_tell_36 : decode cX0_tell 36 = .ok (.ireturn, 1) := by decide +kernel
theorem dX0_tell_37 : decode cX0_tell 37 = .ok (.aload_n 0, 1) := by decide +kernel
theorem dX0_tell_38 : decode cX0_tell 38 = .ok (.getfield 15, 3) := by decide +kernel
theorem dX0_tell_41 : decode cX0_tell 41 = .ok (.ireturn, 1) := by decide +kernel
theorem dX0_tell_42 : decode cX0_tell 42 = .ok (.aload_n 0, 1) := by decide +kernel
theorem dX0_tell_43 : decode cX0_tell 43 = .ok (.getfield 42, 3) := by decide +kernel
theorem dX0_tell_46 : decode cX0_tell 46 = .ok (.ireturn, 1) := by decide +kernel
theorem dX0_tell_47 : decode cX0_tell 47 = .ok (.aload_n 0, 1) := by decide +kernel
theorem dX0_tell_48 : decode cX0_tell 48 = .ok (.getfield 18, 3) := by decide +kernel
theorem dX0_tell_51 : decode cX0_tell 51 = .ok (.ireturn, 1) := by decide +kernel
theorem dX0_tell_52 : decode cX0_tell 52 = .ok (.aload_n 0, 1) := by decide +kernel
theorem dX0_tell_53 : decode cX0_tell 53 = .ok (.getfield 154, 3) := by decide +kernel
theorem dX0_tell_56 : decode cX0_tell 56 = .ok (.ireturn, 1) := by decide +kernel
theorem dX1_init_0 : decode cX1_init 0 = .ok (.aload_n 0, 1) := by decide +kernel
theorem dX1_init_1 : decode cX1_init 1 = .ok (.invokespecial 5, 3) := by decide +kernel
theorem dX1_init_4 : decode cX1_init 4 = .ok (.aload_n 0, 1) := by decide +kernel
theorem dX1_init_5 : decode cX1_init 5 = .ok (.sipush 5000, 3) := by decide +kernel
theorem dX1_init_8 : decode cX1_init 8 = .ok (.newarray .int, 2) := by decide +kernel
theorem dX1_init_10 : decode cX1_init 10 = .ok (.putfield 11, 3) := by decide +kernel
theorem dX1_init_13 : decode cX1_init 13 = .ok (.return_, 1) := by decide +kernel
theorem dX1_darken_0 : decode cX1_darken 0 = .ok (.iload_n 1, 1) := by decide +kernel
theorem dX1_darken_1 : decode cX1_darken 1 = .ok (.iconst 0, 1) := by decide +kernel
theorem dX1_darken_2 : decode cX1_darken 2 = .ok (.aload_n 0, 1) := by decide +kernel
theorem dX1_darken_3 : decode cX1_darken 3 = .ok (.getfield 11, 3) := by decide +kernel
theorem dX1_darken_6 : decode cX1_darken 6 = .ok (.arraylength, 1) := by decide +kernel
theorem dX1_darken_7 : decode cX1_darken 7 = .ok (.iconst 1, 1) := by decide +kernel
theorem dX1_darken_8 : decode cX1_darken 8 = .ok (.isub, 1) := by decide +kernel
theorem dX1_darken_9 : decode cX1_darken 9 = .ok (.invokestatic 15, 3) := by decide +kernel
theorem dX1_darken_12 : decode cX1_darken 12 = .ok (.ifCond .eq 11, 3) := by decide +kernel
theorem dX1_darken_15 : decode cX1_darken 15 = .ok (.aload_n 0, 1) := by decide +kernel
theorem dX1_darken_16 : decode cX1_darken 16 = .ok (.getfield 11, 3) := by decide +kernel
theorem dX1_darken_19 : decode cX1_darken 19 = .ok (.iload_n 1, 1) := by decide +kernel
theorem dX1_darken_20 : decode cX1_darken 20 = .ok (.ldc 19, 2) := by decide +kernel
theorem dX1_darken_22 : decode cX1_darken 22 = .ok (.iastore, 1) := by decide +kernel
theorem dX1_darken_23 : decode cX1_darken 23 = .ok (.return_, 1) := by decide +kernel
theorem dX1_show_0 : decode cX1_show 0 = .ok (.iload_n 2, 1) := by decide +kernel
theorem dX1_show_1 : decode cX1_show 1 = .ok (.iconst 0, 1) := by decide +kernel
theorem dX1_show_2 : decode cX1_show 2 = .ok (.aload_n 0, 1) := by decide +kernel
theorem dX1_show_3 : decode cX1_show 3 = .ok (.getfield 11, 3) := by decide +kernel
theorem dX1_show_6 : decode cX1_show 6 = .ok (.arraylength, 1) := by decide +kernel
theorem dX1_show_7 : decode cX1_show 7 = .ok (.iconst 1, 1) := by decide +kernel
theorem dX1_show_8 : decode cX1_show 8 = .ok (.isub, 1) := by decide +kernel
theorem dX1_show_9 : decode cX1_show 9 = .ok (.invokestatic 15, 3) := by decide +kernel
theorem dX1_show_12 : decode cX1_show 12 = .ok (.ifCond .eq 32, 3) := by decide +kernel
theorem dX1_show_15 : decode cX1_show 15 = .ok (.iconst 2, 1) := by decide +kernel
theorem dX1_show_16 : decode cX1_show 16 = .ok (.iload_n 1, 1) := by decide +kernel
theorem dX1_show_17 : decode cX1_show 17 = .ok (.imul, 1) := by decide +kernel
theorem dX1_show_18 : decode cX1_show 18 = .ok (.istore 4, 2) := by decide +kernel
theorem dX1_show_20 : decode cX1_show 20 = .ok (.aload_n 0, 1) := by decide +kernel
theorem dX1_show_21 : decode cX1_show 21 = .ok (.getfield 11, 3) := by decide +kernel
theorem dX1_show_24 : decode cX1_show 24 = .ok (.iload_n 2, 1) := by decide +kernel
theorem dX1_show_25 : decode cX1_show 25 = .ok (.aload_n 0, 1) := by decide +kernel
theorem dX1_show_26 : decode cX1_show 26 = .ok (.getfield 11, 3) := by decide +kernel
theorem dX1_show_29 : decode cX1_show 29 = .ok (.iload_n 2, 1) := by decide +kernel
theorem dX1_show_30 : decode cX1_show 30 = .ok (.iaload, 1) := by decide +kernel
theorem dX1_show_31 : decode cX1_show 31 = .ok (.iconst 3, 1) := by decide +kernel
theorem dX1_show_32 : decode cX1_show 32 = .ok (.iload 4, 2) := by decide +kernel
theorem dX1_show_34 : decode cX1_show 34 = .ok (.ishl, 1) := by decide +kernel
theorem dX1_show_35 : decode cX1_show 35 = .ok (.iconst (-1), 1) := by decide +kernel
theorem dX1_show_36 : decode cX1_show 36 = .ok (.ixor, 1) := by decide +kernel
theorem dX1_show_37 : decode cX1_show 37 = .ok (.iand, 1) := by decide +kernel
theorem dX1_show_38 : decode cX1_show 38 = .ok (.iload_n 3, 1) := by decide +kernel
theorem dX1_show_39 : decode cX1_show 39 = .ok (.iload 4, 2) := by decide +kernel
theorem dX1_show_41 : decode cX1_show 41 = .ok (.ishl, 1) := by decide +kernel
theorem dX1_show_42 : decode cX1_show 42 = .ok (.ior, 1) := by decide +kernel
theorem dX1_show_43 : decode cX1_show 43 = .ok (.iastore, 1) := by decide +kernel
theorem dX1_show_44 : decode cX1_show 44 = .ok (.return_, 1) := by decide +kernel
theorem dX1_shown_0 : decode cX1_shown 0 = .ok (.iload_n 2, 1) := by decide +kernel
theorem dX1_shown_1 : decode cX1_shown 1 = .ok (.iconst 0, 1) := by decide +kernel
theorem dX1_shown_2 : decode cX1_shown 2 = .ok (.aload_n 0, 1) := by decide +kernel
theorem dX1_shown_3 : decode cX1_shown 3 = .ok (.getfield 11, 3) := by decide +kernel
theorem dX1_shown_6 : decode cX1_shown 6 = .ok (.arraylength, 1) := by decide +kernel
theorem dX1_shown_7 : decode cX1_shown 7 = .ok (.iconst 1, 1) := by decide +kernel
theorem dX1_shown_8 : decode cX1_shown 8 = .ok (.isub, 1) := by decide +kernel
theorem dX1_shown_9 : decode cX1_shown 9 = .ok (.invokestatic 15, 3) := by decide +kernel
theorem dX1_shown_12 : decode cX1_shown 12 = .ok (.ifCond .eq 16, 3) := by decide +kernel
theorem dX1_shown_15 : decode cX1_shown 15 = .ok (.aload_n 0, 1) := by decide +kernel
theorem dX1_shown_16 : decode cX1_shown 16 = .ok (.getfield 11, 3) := by decide +kernel
theorem dX1_shown_19 : decode cX1_shown 19 = .ok (.iload_n 2, 1) := by decide +kernel
theorem dX1_shown_20 : decode cX1_shown 20 = .ok (.iaload, 1) := by decide +kernel
theorem dX1_shown_21 : decode cX1_shown 21 = .ok (.iload_n 1, 1) := by decide +kernel
theorem dX1_shown_22 : decode cX1_shown 22 = .ok (.invokestatic 20, 3) := by decide +kernel
theorem dX1_shown_25 : decode cX1_shown 25 = .ok (.goto 4, 3) := by decide +kernel
theorem dX1_shown_28 : decode cX1_shown 28 = .ok (.iconst 3, 1) := by decide +kernel
theorem dX1_shown_29 : decode cX1_shown 29 = .ok (.ireturn, 1) := by decide +kernel
theorem dX1_colourIn_0 : decode cX1_colourIn 0 = .ok (.iload_n 0, 1) := by decide +kernel
theorem dX1_colourIn_1 : decode cX1_colourIn 1 = .ok (.iconst 2, 1) := by decide +kernel
theorem dX1_colourIn_2 : decode cX1_colourIn 2 = .ok (.iload_n 1, 1) := by decide +kernel
theorem dX1_colourIn_3 : decode cX1_colourIn 3 = .ok (.imul, 1) := by decide +kernel
theorem dX1_colourIn_4 : decode cX1_colourIn 4 = .ok (.ishr, 1) := by decide +kernel
theorem dX1_colourIn_5 : decode cX1_colourIn 5 = .ok (.iconst 3, 1) := by decide +kernel
theorem dX1_colourIn_6 : decode cX1_colourIn 6 = .ok (.iand, 1) := by decide +kernel
theorem dX1_colourIn_7 : decode cX1_colourIn 7 = .ok (.ireturn, 1) := by decide +kernel
theorem dX1_leastBetween_0 : decode cX1_leastBetween 0 = .ok (.iconst (-1), 1) := by decide +kernel
theorem dX1_leastBetween_1 : decode cX1_leastBetween 1 = .ok (.istore 4, 2) := by decide +kernel
theorem dX1_leastBetween_3 : decode cX1_leastBetween 3 = .ok (.iconst (-1), 1) := by decide +kernel
theorem dX1_leastBetween_4 : decode cX1_leastBetween 4 = .ok (.istore 5, 2) := by decide +kernel
theorem dX1_leastBetween_6 : decode cX1_leastBetween 6 = .ok (.iconst 0, 1) := by decide +kernel
theorem dX1_leastBetween_7 : decode cX1_leastBetween 7 = .ok (.istore 6, 2) := by decide +kernel
theorem dX1_leastBetween_9 : decode cX1_leastBetween 9 = .ok (.iconst 0, 1) := by decide +kernel
theorem dX1_leastBetween_10 : decode cX1_leastBetween 10 = .ok (.istore 7, 2) := by decide +kernel
theorem dX1_leastBetween_12 : decode cX1_leastBetween 12 = .ok (.iload 7, 2) := by decide +kernel
theorem dX1_leastBetween_14 : decode cX1_leastBetween 14 = .ok (.iload_n 3, 1) := by decide +kernel
theorem dX1_leastBetween_15 : decode cX1_leastBetween 15 = .ok (.if_icmp .ge 108, 3) := by decide +kernel
theorem dX1_leastBetween_18 : decode cX1_leastBetween 18 = .ok (.iload 7, 2) := by decide +kernel
theorem dX1_leastBetween_20 : decode cX1_leastBetween 20 = .ok (.aload_n 0, 1) := by decide +kernel
theorem dX1_leastBetween_21 : decode cX1_leastBetween 21 = .ok (.getfield 11, 3) := by decide +kernel
theorem dX1_leastBetween_24 : decode cX1_leastBetween 24 = .ok (.arraylength, 1) := by decide +kernel
theorem dX1_leastBetween_25 : decode cX1_leastBetween 25 = .ok (.if_icmp .ge 98, 3) := by decide +kernel
theorem dX1_leastBetween_28 : decode cX1_leastBetween 28 = .ok (.aload_n 0, 1) := by decide +kernel
theorem dX1_leastBetween_29 : decode cX1_leastBetween 29 = .ok (.getfield 11, 3) := by decide +kernel
theorem dX1_leastBetween_32 : decode cX1_leastBetween 32 = .ok (.iload 7, 2) := by decide +kernel
theorem dX1_leastBetween_34 : decode cX1_leastBetween 34 = .ok (.iaload, 1) := by decide +kernel
theorem dX1_leastBetween_35 : decode cX1_leastBetween 35 = .ok (.istore 8, 2) := by decide +kernel
theorem dX1_leastBetween_37 : decode cX1_leastBetween 37 = .ok (.iload 8, 2) := by decide +kernel
theorem dX1_leastBetween_39 : decode cX1_leastBetween 39 = .ok (.iload_n 2, 1) := by decide +kernel
theorem dX1_leastBetween_40 : decode cX1_leastBetween 40 = .ok (.invokestatic 20, 3) := by decide +kernel
theorem dX1_leastBetween_43 : decode cX1_leastBetween 43 = .ok (.iconst 1, 1) := by decide +kernel
theorem dX1_leastBetween_44 : decode cX1_leastBetween 44 = .ok (.if_icmp .ne 7, 3) := by decide +kernel
theorem dX1_leastBetween_47 : decode cX1_leastBetween 47 = .ok (.iconst 1, 1) := by decide +kernel
theorem dX1_leastBetween_48 : decode cX1_leastBetween 48 = .ok (.goto 4, 3) := by decide +kernel
theorem dX1_leastBetween_51 : decode cX1_leastBetween 51 = .ok (.iconst 0, 1) := by decide +kernel
theorem dX1_leastBetween_52 : decode cX1_leastBetween 52 = .ok (.istore 9, 2) := by decide +kernel
theorem dX1_leastBetween_54 : decode cX1_leastBetween 54 = .ok (.iload 9, 2) := by decide +kernel
theorem dX1_leastBetween_56 : decode cX1_leastBetween 56 = .ok (.ifCond .eq 43, 3) := by decide +kernel
theorem dX1_leastBetween_59 : decode cX1_leastBetween 59 = .ok (.iload 6, 2) := by decide +kernel
theorem dX1_leastBetween_61 : decode cX1_leastBetween 61 = .ok (.ifCond .ne 38, 3) := by decide +kernel
theorem dX1_leastBetween_64 : decode cX1_leastBetween 64 = .ok (.iload 5, 2) := by decide +kernel
theorem dX1_leastBetween_66 : decode cX1_leastBetween 66 = .ok (.iconst (-1), 1) := by decide +kernel
theorem dX1_leastBetween_67 : decode cX1_leastBetween 67 = .ok (.if_icmp .eq 32, 3) := by decide +kernel
theorem dX1_leastBetween_70 : decode cX1_leastBetween 70 = .ok (.iload 7, 2) := by decide +kernel
theorem dX1_leastBetween_72 : decode cX1_leastBetween 72 = .ok (.iload 5, 2) := by decide +kernel
theorem dX1_leastBetween_74 : decode cX1_leastBetween 74 = .ok (.isub, 1) := by decide +kernel
theorem dX1_leastBetween_75 : decode cX1_leastBetween 75 = .ok (.iconst 1, 1) := by decide +kernel
theorem dX1_leastBetween_76 : decode cX1_leastBetween 76 = .ok (.isub, 1) := by decide +kernel
theorem dX1_leastBetween_77 : decode cX1_leastBetween 77 = .ok (.istore 10, 2) := by decide +kernel
theorem dX1_leastBetween_79 : decode cX1_leastBetween 79 = .ok (.iload 4, 2) := by decide +kernel
theorem dX1_leastBetween_81 : decode cX1_leastBetween 81 = .ok (.iconst (-1), 1) := by decide +kernel
theorem dX1_leastBetween_82 : decode cX1_leastBetween 82 = .ok (.if_icmp .ne 8, 3) := by decide +kernel
theorem dX1_leastBetween_85 : decode cX1_leastBetween 85 = .ok (.iload 10, 2) := by decide +kernel
theorem dX1_leastBetween_87 : decode cX1_leastBetween 87 = .ok (.goto 10, 3) := by decide +kernel
theorem dX1_leastBetween_90 : decode cX1_leastBetween 90 = .ok (.iload 4, 2) := by decide +kernel
theorem dX1_leastBetween_92 : decode cX1_leastBetween 92 = .ok (.iload 10, 2) := by decide +kernel
theorem dX1_leastBetween_94 : decode cX1_leastBetween 94 = .ok (.invokestatic 24, 3) := by decide +kernel
theorem dX1_leastBetween_97 : decode cX1_leastBetween 97 = .ok (.istore 4, 2) := by decide +kernel
theorem dX1_leastBetween_99 : decode cX1_leastBetween 99 = .ok (.iload 8, 2) := by decide +kernel
theorem dX1_leastBetween_101 : decode cX1_leastBetween 101 = .ok (.iload_n 1, 1) := by decide +kernel
theorem dX1_leastBetween_102 : decode cX1_leastBetween 102 = .ok (.invokestatic 20, 3) := by decide +kernel
theorem dX1_leastBetween_105 : decode cX1_leastBetween 105 = .ok (.iconst 1, 1) := by decide +kernel
theorem dX1_leastBetween_106 : decode cX1_leastBetween 106 = .ok (.if_icmp .ne 7, 3) := by decide +kernel
theorem dX1_leastBetween_109 : decode cX1_leastBetween 109 = .ok (.iload 7, 2) := by decide +kernel
theorem dX1_leastBetween_111 : decode cX1_leastBetween 111 = .ok (.istore 5, 2) := by decide +kernel
theorem dX1_leastBetween_113 : decode cX1_leastBetween 113 = .ok (.iload 9, 2) := by decide +kernel
theorem dX1_leastBetween_115 : decode cX1_leastBetween 115 = .ok (.istore 6, 2) := by decide +kernel
theorem dX1_leastBetween_117 : decode cX1_leastBetween 117 = .ok (.iinc 7 1, 3) := by decide +kernel
theorem dX1_leastBetween_120 : decode cX1_leastBetween 120 = .ok (.goto (-108), 3) := by decide +kernel
theorem dX1_leastBetween_123 : decode cX1_leastBetween 123 = .ok (.iload 4, 2) := by decide +kernel
theorem dX1_leastBetween_125 : decode cX1_leastBetween 125 = .ok (.ireturn, 1) := by decide +kernel
theorem dX2_init_0 : decode cX2_init 0 = .ok (.aload_n 0, 1) := by decide +kernel
theorem dX2_init_1 : decode cX2_init 1 = .ok (.invokespecial 3, 3) := by decide +kernel
theorem dX2_init_4 : decode cX2_init 4 = .ok (.aload_n 0, 1) := by decide +kernel
theorem dX2_init_5 : decode cX2_init 5 = .ok (.iconst 0, 1) := by decide +kernel
theorem dX2_init_6 : decode cX2_init 6 = .ok (.putfield 9, 3) := by decide +kernel
theorem dX2_init_9 : decode cX2_init 9 = .ok (.aload_n 0, 1) := by decide +kernel
theorem dX2_init_10 : decode cX2_init 10 = .ok (.iconst (-1), 1) := by decide +kernel
theorem dX2_init_11 : decode cX2_init 11 = .ok (.putfield 15, 3) := by decide +kernel
theorem dX2_init_14 : decode cX2_init 14 = .ok (.return_, 1) := by decide +kernel
theorem dX2_isDemanded_0 : decode cX2_isDemanded 0 = .ok (.aload_n 0, 1) := by decide +kernel
theorem dX2_isDemanded_1 : decode cX2_isDemanded 1 = .ok (.getfield 9, 3) := by decide +kernel
theorem dX2_isDemanded_4 : decode cX2_isDemanded 4 = .ok (.iconst 1, 1) := by decide +kernel
theorem dX2_isDemanded_5 : decode cX2_isDemanded 5 = .ok (.if_icmp .eq 21, 3) := by decide +kernel
theorem dX2_isDemanded_8 : decode cX2_isDemanded 8 = .ok (.aload_n 0, 1) := by decide +kernel
theorem dX2_isDemanded_9 : decode cX2_isDemanded 9 = .ok (.getfield 18, 3) := by decide +kernel
theorem dX2_isDemanded_12 : decode cX2_isDemanded 12 = .ok (.ifCond .ne 10, 3) := by decide +kernel
theorem dX2_isDemanded_15 : decode cX2_isDemanded 15 = .ok (.aload_n 0, 1) := by decide +kernel
theorem dX2_isDemanded_16 : decode cX2_isDemanded 16 = .ok (.getfield 22, 3) := by decide +kernel
theorem dX2_isDemanded_19 : decode cX2_isDemanded 19 = .ok (.ifCond .le 7, 3) := by decide +kernel
theorem dX2_isDemanded_22 : decode cX2_isDemanded 22 = .ok (.iconst 1, 1) := by decide +kernel
theorem dX2_isDemanded_23 : decode cX2_isDemanded 23 = .ok (.goto 4, 3) := by decide +kernel
theorem dX2_isDemanded_26 : decode cX2_isDemanded 26 = .ok (.iconst 0, 1) := by decide +kernel
theorem dX2_isDemanded_27 : decode cX2_isDemanded 27 = .ok (.ireturn, 1) := by decide +kernel
theorem dX2_isBroken_0 : decode cX2_isBroken 0 = .ok (.aload_n 0, 1) := by decide +kernel
theorem dX2_isBroken_1 : decode cX2_isBroken 1 = .ok (.getfield 25, 3) := by decide +kernel
theorem dX2_isBroken_4 : decode cX2_isBroken 4 = .ok (.iload_n 1, 1) := by decide +kernel
theorem dX2_isBroken_5 : decode cX2_isBroken 5 = .ok (.invokestatic 28, 3) := by decide +kernel
theorem dX2_isBroken_8 : decode cX2_isBroken 8 = .ok (.ireturn, 1) := by decide +kernel
theorem dX2_setBroken_0 : decode cX2_setBroken 0 = .ok (.iconst 1, 1) := by decide +kernel
theorem dX2_setBroken_1 : decode cX2_setBroken 1 = .ok (.iload_n 1, 1) := by decide +kernel
theorem dX2_setBroken_2 : decode cX2_setBroken 2 = .ok (.ishl, 1) := by decide +kernel
theorem dX2_setBroken_3 : decode cX2_setBroken 3 = .ok (.istore_n 3, 1) := by decide +kernel
theorem dX2_setBroken_4 : decode cX2_setBroken 4 = .ok (.aload_n 0, 1) := by decide +kernel
theorem dX2_setBroken_5 : decode cX2_setBroken 5 = .ok (.iload_n 2, 1) := by decide +kernel
theorem dX2_setBroken_6 : decode cX2_setBroken 6 = .ok (.ifCond .eq 12, 3) := by decide +kernel
theorem dX2_setBroken_9 : decode cX2_setBroken 9 = .ok (.aload_n 0, 1) := by decide +kernel
theorem dX2_setBroken_10 : decode cX2_setBroken 10 = .ok (.getfield 25, 3) := by decide +kernel
theorem dX2_setBroken_13 : decode cX2_setBroken 13 = .ok (.iload_n 3, 1) := by decide +kernel
theorem dX2_setBroken_14 : decode cX2_setBroken 14 = .ok (.ior, 1) := by decide +kernel
theorem dX2_setBroken_15 : decode cX2_setBroken 15 = .ok (.goto 11, 3) := by decide +kernel
theorem dX2_setBroken_18 : decode cX2_setBroken 18 = .ok (.aload_n 0, 1) := by decide +kernel
theorem dX2_setBroken_19 : decode cX2_setBroken 19 = .ok (.getfield 25, 3) := by decide +kernel
theorem dX2_setBroken_22 : decode cX2_setBroken 22 = .ok (.iload_n 3, 1) := by decide +kernel
theorem dX2_setBroken_23 : decode cX2_setBroken 23 = .ok (.iconst (-1), 1) := by decide +kernel
theorem dX2_setBroken_24 : decode cX2_setBroken 24 = .ok (.ixor, 1) := by decide +kernel
theorem dX2_setBroken_25 : decode cX2_setBroken 25 = .ok (.iand, 1) := by decide +kernel
theorem dX2_setBroken_26 : decode cX2_setBroken 26 = .ok (.putfield 25, 3) := by decide +kernel
theorem dX2_setBroken_29 : decode cX2_setBroken 29 = .ok (.return_, 1) := by decide +kernel
theorem dX2_pushButton_0 : decode cX2_pushButton 0 = .ok (.aload_n 0, 1) := by decide +kernel
theorem dX2_pushButton_1 : decode cX2_pushButton 1 = .ok (.getfield 9, 3) := by decide +kernel
theorem dX2_pushButton_4 : decode cX2_pushButton 4 = .ok (.iconst 1, 1) := by decide +kernel
theorem dX2_pushButton_5 : decode cX2_pushButton 5 = .ok (.if_icmp .eq 8, 3) := by decide +kernel
theorem dX2_pushButton_8 : decode cX2_pushButton 8 = .ok (.aload_n 0, 1) := by decide +kernel
theorem dX2_pushButton_9 : decode cX2_pushButton 9 = .ok (.iconst 1, 1) := by decide +kernel
theorem dX2_pushButton_10 : decode cX2_pushButton 10 = .ok (.putfield 18, 3) := by decide +kernel
theorem dX2_pushButton_13 : decode cX2_pushButton 13 = .ok (.return_, 1) := by decide +kernel
theorem dX2_mayEnd_0 : decode cX2_mayEnd 0 = .ok (.aload_n 0, 1) := by decide +kernel
theorem dX2_mayEnd_1 : decode cX2_mayEnd 1 = .ok (.getfield 32, 3) := by decide +kernel
theorem dX2_mayEnd_4 : decode cX2_mayEnd 4 = .ok (.aload_n 0, 1) := by decide +kernel
theorem dX2_mayEnd_5 : decode cX2_mayEnd 5 = .ok (.getfield 35, 3) := by decide +kernel
theorem dX2_mayEnd_8 : decode cX2_mayEnd 8 = .ok (.if_icmp .lt 29, 3) := by decide +kernel
theorem dX2_mayEnd_11 : decode cX2_mayEnd 11 = .ok (.iload_n 1, 1) := by decide +kernel
theorem dX2_mayEnd_12 : decode cX2_mayEnd 12 = .ok (.ifCond .ne 21, 3) := by decide +kernel
theorem dX2_mayEnd_15 : decode cX2_mayEnd 15 = .ok (.aload_n 0, 1) := by decide +kernel
theorem dX2_mayEnd_16 : decode cX2_mayEnd 16 = .ok (.getfield 38, 3) := by decide +kernel
theorem dX2_mayEnd_19 : decode cX2_mayEnd 19 = .ok (.ifCond .eq 14, 3) := by decide +kernel
theorem dX2_mayEnd_22 : decode cX2_mayEnd 22 = .ok (.aload_n 0, 1) := by decide +kernel
theorem dX2_mayEnd_23 : decode cX2_mayEnd 23 = .ok (.getfield 32, 3) := by decide +kernel
theorem dX2_mayEnd_26 : decode cX2_mayEnd 26 = .ok (.aload_n 0, 1) := by decide +kernel
theorem dX2_mayEnd_27 : decode cX2_mayEnd 27 = .ok (.getfield 41, 3) := by decide +kernel
theorem dX2_mayEnd_30 : decode cX2_mayEnd 30 = .ok (.if_icmp .lt 7, 3) := by decide +kernel
theorem dX2_mayEnd_33 : decode cX2_mayEnd 33 = .ok (.iconst 1, 1) := by decide +kernel
theorem dX2_mayEnd_34 : decode cX2_mayEnd 34 = .ok (.goto 4, 3) := by decide +kernel
theorem dX2_mayEnd_37 : decode cX2_mayEnd 37 = .ok (.iconst 0, 1) := by decide +kernel
theorem dX2_mayEnd_38 : decode cX2_mayEnd 38 = .ok (.ireturn, 1) := by decide +kernel
theorem dX2_turnGreen_0 : decode cX2_turnGreen 0 = .ok (.aload_n 0, 1) := by decide +kernel
theorem dX2_turnGreen_1 : decode cX2_turnGreen 1 = .ok (.iconst 1, 1) := by decide +kernel
theorem dX2_turnGreen_2 : decode cX2_turnGreen 2 = .ok (.putfield 9, 3) := by decide +kernel
theorem dX2_turnGreen_5 : decode cX2_turnGreen 5 = .ok (.aload_n 0, 1) := by decide +kernel
theorem dX2_turnGreen_6 : decode cX2_turnGreen 6 = .ok (.iconst 0, 1) := by decide +kernel
theorem dX2_turnGreen_7 : decode cX2_turnGreen 7 = .ok (.putfield 32, 3) := by decide +kernel
theorem dX2_turnGreen_10 : decode cX2_turnGreen 10 = .ok (.aload_n 0, 1) := by decide +kernel
theorem dX2_turnGreen_11 : decode cX2_turnGreen 11 = .ok (.aload_n 0, 1) := by decide +kernel
theorem dX2_turnGreen_12 : decode cX2_turnGreen 12 = .ok (.getfield 44, 3) := by decide +kernel
theorem dX2_turnGreen_15 : decode cX2_turnGreen 15 = .ok (.putfield 38, 3) := by decide +kernel
theorem dX2_turnGreen_18 : decode cX2_turnGreen 18 = .ok (.aload_n 0, 1) := by decide +kernel
theorem dX2_turnGreen_19 : decode cX2_turnGreen 19 = .ok (.iconst 0, 1) := by decide +kernel
theorem dX2_turnGreen_20 : decode cX2_turnGreen 20 = .ok (.putfield 47, 3) := by decide +kernel
theorem dX2_turnGreen_23 : decode cX2_turnGreen 23 = .ok (.aload_n 0, 1) := by decide +kernel
theorem dX2_turnGreen_24 : decode cX2_turnGreen 24 = .ok (.iconst 0, 1) := by decide +kernel
theorem dX2_turnGreen_25 : decode cX2_turnGreen 25 = .ok (.putfield 18, 3) := by decide +kernel
theorem dX2_turnGreen_28 : decode cX2_turnGreen 28 = .ok (.return_, 1) := by decide +kernel
theorem dX2_turnAmber_0 : decode cX2_turnAmber 0 = .ok (.aload_n 0, 1) := by decide +kernel
theorem dX2_turnAmber_1 : decode cX2_turnAmber 1 = .ok (.iconst 2, 1) := by decide +kernel
theorem dX2_turnAmber_2 : decode cX2_turnAmber 2 = .ok (.putfield 9, 3) := by decide +kernel
theorem dX2_turnAmber_5 : decode cX2_turnAmber 5 = .ok (.aload_n 0, 1) := by decide +kernel
theorem dX2_turnAmber_6 : decode cX2_turnAmber 6 = .ok (.iload_n 1, 1) := by decide +kernel
theorem dX2_turnAmber_7 : decode cX2_turnAmber 7 = .ok (.putfield 15, 3) := by decide +kernel
theorem dX2_turnAmber_10 : decode cX2_turnAmber 10 = .ok (.return_, 1) := by decide +kernel
theorem dX2_turnRed_0 : decode cX2_turnRed 0 = .ok (.aload_n 0, 1) := by decide +kernel
theorem dX2_turnRed_1 : decode cX2_turnRed 1 = .ok (.getfield 9, 3) := by decide +kernel
theorem dX2_turnRed_4 : decode cX2_turnRed 4 = .ok (.iconst 1, 1) := by decide +kernel
theorem dX2_turnRed_5 : decode cX2_turnRed 5 = .ok (.if_icmp .ne 8, 3) := by decide +kernel
theorem dX2_turnRed_8 : decode cX2_turnRed 8 = .ok (.aload_n 0, 1) := by decide +kernel
theorem dX2_turnRed_9 : decode cX2_turnRed 9 = .ok (.iload_n 1, 1) := by decide +kernel
theorem dX2_turnRed_10 : decode cX2_turnRed 10 = .ok (.putfield 15, 3) := by decide +kernel
theorem dX2_turnRed_13 : decode cX2_turnRed 13 = .ok (.aload_n 0, 1) := by decide +kernel
theorem dX2_turnRed_14 : decode cX2_turnRed 14 = .ok (.iconst 0, 1) := by decide +kernel
theorem dX2_turnRed_15 : decode cX2_turnRed 15 = .ok (.putfield 9, 3) := by decide +kernel
theorem dX2_turnRed_18 : decode cX2_turnRed 18 = .ok (.return_, 1) := by decide +kernel
theorem dX2_fade_0 : decode cX2_fade 0 = .ok (.aload_n 0, 1) := by decide +kernel
theorem dX2_fade_1 : decode cX2_fade 1 = .ok (.getfield 9, 3) := by decide +kernel
theorem dX2_fade_4 : decode cX2_fade 4 = .ok (.iconst 2, 1) := by decide +kernel
theorem dX2_fade_5 : decode cX2_fade 5 = .ok (.if_icmp .ne 18, 3) := by decide +kernel
theorem dX2_fade_8 : decode cX2_fade 8 = .ok (.iload_n 1, 1) := by decide +kernel
theorem dX2_fade_9 : decode cX2_fade 9 = .ok (.aload_n 0, 1) := by decide +kernel
theorem dX2_fade_10 : decode cX2_fade 10 = .ok (.getfield 15, 3) := by decide +kernel
theorem dX2_fade_13 : decode cX2_fade 13 = .ok (.isub, 1) := by decide +kernel
theorem dX2_fade_14 : decode cX2_fade 14 = .ok (.iconst 3, 1) := by decide +kernel
theorem dX2_fade_15 : decode cX2_fade 15 = .ok (.if_icmp .lt 8, 3) := by decide +kernel
theorem dX2_fade_18 : decode cX2_fade 18 = .ok (.aload_n 0, 1) := by decide +kernel
theorem dX2_fade_19 : decode cX2_fade 19 = .ok (.iconst 0, 1) := by decide +kernel
theorem dX2_fade_20 : decode cX2_fade 20 = .ok (.putfield 9, 3) := by decide +kernel
theorem dX2_fade_23 : decode cX2_fade 23 = .ok (.return_, 1) := by decide +kernel
theorem dX2_lets_0 : decode cX2_lets 0 = .ok (.aload_n 0, 1) := by decide +kernel
theorem dX2_lets_1 : decode cX2_lets 1 = .ok (.getfield 9, 3) := by decide +kernel
theorem dX2_lets_4 : decode cX2_lets 4 = .ok (.iconst 1, 1) := by decide +kernel
theorem dX2_lets_5 : decode cX2_lets 5 = .ok (.if_icmp .eq 25, 3) := by decide +kernel
theorem dX2_lets_8 : decode cX2_lets 8 = .ok (.aload_n 0, 1) := by decide +kernel
theorem dX2_lets_9 : decode cX2_lets 9 = .ok (.getfield 15, 3) := by decide +kernel
theorem dX2_lets_12 : decode cX2_lets 12 = .ok (.iconst (-1), 1) := by decide +kernel
theorem dX2_lets_13 : decode cX2_lets 13 = .ok (.if_icmp .eq 13, 3) := by decide +kernel
theorem dX2_lets_16 : decode cX2_lets 16 = .ok (.iload_n 1, 1) := by decide +kernel
theorem dX2_lets_17 : decode cX2_lets 17 = .ok (.aload_n 0, 1) := by decide +kernel
theorem dX2_lets_18 : decode cX2_lets 18 = .ok (.getfield 15, 3) := by decide +kernel
theorem dX2_lets_21 : decode cX2_lets 21 = .ok (.isub, 1) := by decide +kernel
theorem dX2_lets_22 : decode cX2_lets 22 = .ok (.iload_n 2, 1) := by decide +kernel
theorem dX2_lets_23 : decode cX2_lets 23 = .ok (.if_icmp .lt 7, 3) := by decide +kernel
theorem dX2_lets_26 : decode cX2_lets 26 = .ok (.iconst 1, 1) := by decide +kernel
theorem dX2_lets_27 : decode cX2_lets 27 = .ok (.goto 4, 3) := by decide +kernel
theorem dX2_lets_30 : decode cX2_lets 30 = .ok (.iconst 0, 1) := by decide +kernel
theorem dX2_lets_31 : decode cX2_lets 31 = .ok (.ireturn, 1) := by decide +kernel
theorem dX2_shown_0 : decode cX2_shown 0 = .ok (.aload_n 0, 1) := by decide +kernel
theorem dX2_shown_1 : decode cX2_shown 1 = .ok (.aload_n 0, 1) := by decide +kernel
theorem dX2_shown_2 : decode cX2_shown 2 = .ok (.getfield 9, 3) := by decide +kernel
theorem dX2_shown_5 : decode cX2_shown 5 = .ok (.invokevirtual 50, 3) := by decide +kernel
theorem dX2_shown_8 : decode cX2_shown 8 = .ok (.ifCond .eq 7, 3) := by decide +kernel
theorem dX2_shown_11 : decode cX2_shown 11 = .ok (.iconst 3, 1) := by decide +kernel
theorem dX2_shown_12 : decode cX2_shown 12 = .ok (.goto 7, 3) := by decide +kernel
theorem dX2_shown_15 : decode cX2_shown 15 = .ok (.aload_n 0, 1) := by decide +kernel
theorem dX2_shown_16 : decode cX2_shown 16 = .ok (.getfield 9, 3) := by decide +kernel
theorem dX2_shown_19 : decode cX2_shown 19 = .ok (.ireturn, 1) := by decide +kernel
theorem dX2_passSecond_0 : decode cX2_passSecond 0 = .ok (.aload_n 0, 1) := by decide +kernel
theorem dX2_passSecond_1 : decode cX2_passSecond 1 = .ok (.getfield 9, 3) := by decide +kernel
theorem dX2_passSecond_4 : decode cX2_passSecond 4 = .ok (.iconst 1, 1) := by decide +kernel
theorem dX2_passSecond_5 : decode cX2_passSecond 5 = .ok (.if_icmp .ne 35, 3) := by decide +kernel
theorem dX2_passSecond_8 : decode cX2_passSecond 8 = .ok (.aload_n 0, 1) := by decide +kernel
theorem dX2_passSecond_9 : decode cX2_passSecond 9 = .ok (.dup, 1) := by decide +kernel
theorem dX2_passSecond_10 : decode cX2_passSecond 10 = .ok (.getfield 32, 3) := by decide +kernel
theorem dX2_passSecond_13 : decode cX2_passSecond 13 = .ok (.iconst 1, 1) := by decide +kernel
theorem dX2_passSecond_14 : decode cX2_passSecond 14 = .ok (.iadd, 1) := by decide +kernel
theorem dX2_passSecond_15 : decode cX2_passSecond 15 = .ok (.putfield 32, 3) := by decide +kernel
theorem dX2_passSecond_18 : decode cX2_passSecond 18 = .ok (.aload_n 0, 1) := by decide +kernel
theorem dX2_passSecond_19 : decode cX2_passSecond 19 = .ok (.getfield 38, 3) := by decide +kernel
theorem dX2_passSecond_22 : decode cX2_passSecond 22 = .ok (.ifCond .le 13, 3) := by decide +kernel
theorem dX2_passSecond_25 : decode cX2_passSecond 25 = .ok (.aload_n 0, 1) := by decide +kernel
theorem dX2_passSecond_26 : decode cX2_passSecond 26 = .ok (.dup, 1) := by decide +kernel
theorem dX2_passSecond_27 : decode cX2_passSecond 27 = .ok (.getfield 38, 3) := by decide +kernel
theorem dX2_passSecond_30 : decode cX2_passSecond 30 = .ok (.iconst 1, 1) := by decide +kernel
theorem dX2_passSecond_31 : decode cX2_passSecond 31 = .ok (.isub, 1) := by decide +kernel
theorem dX2_passSecond_32 : decode cX2_passSecond 32 = .ok (.putfield 38, 3) := by decide +kernel
theorem dX2_passSecond_35 : decode cX2_passSecond 35 = .ok (.aload_n 0, 1) := by decide +kernel
theorem dX2_passSecond_36 : decode cX2_passSecond 36 = .ok (.invokevirtual 54, 3) := by decide +kernel
theorem dX2_passSecond_39 : decode cX2_passSecond 39 = .ok (.ireturn, 1) := by decide +kernel
theorem dX2_passSecond_40 : decode cX2_passSecond 40 = .ok (.aload_n 0, 1) := by decide +kernel
theorem dX2_passSecond_41 : decode cX2_passSecond 41 = .ok (.invokevirtual 58, 3) := by decide +kernel
theorem dX2_passSecond_44 : decode cX2_passSecond 44 = .ok (.ifCond .eq 28, 3) := by decide +kernel
theorem dX2_passSecond_47 : decode cX2_passSecond 47 = .ok (.aload_n 0, 1) := by decide +kernel
theorem dX2_passSecond_48 : decode cX2_passSecond 48 = .ok (.dup, 1) := by decide +kernel
theorem dX2_passSecond_49 : decode cX2_passSecond 49 = .ok (.getfield 47, 3) := by decide +kernel
theorem dX2_passSecond_52 : decode cX2_passSecond 52 = .ok (.iconst 1, 1) := by decide +kernel
theorem dX2_passSecond_53 : decode cX2_passSecond 53 = .ok (.iadd, 1) := by decide +kernel
theorem dX2_passSecond_54 : decode cX2_passSecond 54 = .ok (.putfield 47, 3) := by decide +kernel
theorem dX2_passSecond_57 : decode cX2_passSecond 57 = .ok (.aload_n 0, 1) := by decide +kernel
theorem dX2_passSecond_58 : decode cX2_passSecond 58 = .ok (.aload_n 0, 1) := by decide +kernel
theorem dX2_passSecond_59 : decode cX2_passSecond 59 = .ok (.getfield 62, 3) := by decide +kernel
theorem dX2_passSecond_62 : decode cX2_passSecond 62 = .ok (.aload_n 0, 1) := by decide +kernel
theorem dX2_passSecond_63 : decode cX2_passSecond 63 = .ok (.getfield 47, 3) := by decide +kernel
theorem dX2_passSecond_66 : decode cX2_passSecond 66 = .ok (.invokestatic 65, 3) := by decide +kernel
theorem dX2_passSecond_69 : decode cX2_passSecond 69 = .ok (.putfield 62, 3) := by decide +kernel
theorem dX2_passSecond_72 : decode cX2_passSecond 72 = .ok (.iconst 0, 1) := by decide +kernel
theorem dX2_passSecond_73 : decode cX2_passSecond 73 = .ok (.ireturn, 1) := by decide +kernel
theorem dX2_letOneGo_0 : decode cX2_letOneGo 0 = .ok (.aload_n 0, 1) := by decide +kernel
theorem dX2_letOneGo_1 : decode cX2_letOneGo 1 = .ok (.getfield 22, 3) := by decide +kernel
theorem dX2_letOneGo_4 : decode cX2_letOneGo 4 = .ok (.ifCond .ne 5, 3) := by decide +kernel
theorem dX2_letOneGo_7 : decode cX2_letOneGo 7 = .ok (.iconst 0, 1) := by decide +kernel
theorem dX2_letOneGo_8 : decode cX2_letOneGo 8 = .ok (.ireturn, 1) := by decide +kernel
theorem dX2_letOneGo_9 : decode cX2_letOneGo 9 = .ok (.aload_n 0, 1) := by decide +kernel
theorem dX2_letOneGo_10 : decode cX2_letOneGo 10 = .ok (.dup, 1) := by decide +kernel
theorem dX2_letOneGo_11 : decode cX2_letOneGo 11 = .ok (.getfield 22, 3) := by decide +kernel
theorem dX2_letOneGo_14 : decode cX2_letOneGo 14 = .ok (.iconst 1, 1) := by decide +kernel
theorem dX2_letOneGo_15 : decode cX2_letOneGo 15 = .ok (.isub, 1) := by decide +kernel
theorem dX2_letOneGo_16 : decode cX2_letOneGo 16 = .ok (.putfield 22, 3) := by decide +kernel
theorem dX2_letOneGo_19 : decode cX2_letOneGo 19 = .ok (.aload_n 0, 1) := by decide +kernel
theorem dX2_letOneGo_20 : decode cX2_letOneGo 20 = .ok (.aload_n 0, 1) := by decide +kernel
theorem dX2_letOneGo_21 : decode cX2_letOneGo 21 = .ok (.getfield 44, 3) := by decide +kernel
theorem dX2_letOneGo_24 : decode cX2_letOneGo 24 = .ok (.putfield 38, 3) := by decide +kernel
theorem dX2_letOneGo_27 : decode cX2_letOneGo 27 = .ok (.iconst 1, 1) := by decide +kernel
theorem dX2_letOneGo_28 : decode cX2_letOneGo 28 = .ok (.ireturn, 1) := by decide +kernel
theorem dX2_tell_0 : decode cX2_tell 0 = .ok (.iload_n 1, 1) := by decide +kernel
theorem dX2_tell_1 : decode cX2_tell 1 = .ok (.tableswitch 93 0 5 #[39, 44, 61, 78, 83, 88], 39) := by decide +kernel
theorem dX2_tell_40 : decode cX2_tell 40 = .ok (.aload_n 0, 1) := by decide +kernel
theorem dX2_tell_41 : decode cX2_tell 41 = .ok (.getfield 9, 3) := by decide +kernel
theorem dX2_tell_44 : decode cX2_tell 44 = .ok (.ireturn, 1) := by decide +kernel
theorem dX2_tell_45 : decode cX2_tell 45 = .ok (.aload_n 0, 1) := by decide +kernel
theorem dX2_tell_46 : decode cX2_tell 46 = .ok (.getfield 9, 3) := by decide +kernel
theorem dX2_tell_49 : decode cX2_tell 49 = .ok (.iconst 1, 1) := by decide +kernel
theorem dX2_tell_50 : decode cX2_tell 50 = .ok (.if_icmp .ne 10, 3) := by decide +kernel
theorem dX2_tell_53 : decode cX2_tell 53 = .ok (.aload_n 0, 1) := by decide +kernel
theorem dX2_tell_54 : decode cX2_tell 54 = .ok (.getfield 32, 3) := by decide +kernel
theorem dX2_tell_57 : decode cX2_tell 57 = .ok (.goto 4, 3) := by decide +kernel
theorem dX2_tell_60 : decode cX2_tell 60 = .ok (.iconst 0, 1) := by decide +kernel
theorem dX2_tell_61 : decode cX2_tell 61 = .ok (.ireturn, 1) := by decide +kernel
theorem dX2_tell_62 : decode cX2_tell 62 = .ok (.aload_n 0, 1) := by decide +kernel
theorem dX2_tell_63 : decode cX2_tell 63 = .ok (.getfield 9, 3) := by decide +kernel
theorem dX2_tell_66 : decode cX2_tell 66 = .ok (.iconst 1, 1) := by decide +kernel
theorem dX2_tell_67 : decode cX2_tell 67 = .ok (.if_icmp .ne 10, 3) := by decide +kernel
theorem dX2_tell_70 : decode cX2_tell 70 = .ok (.aload_n 0, 1) := by decide +kernel
theorem dX2_tell_71 : decode cX2_tell 71 = .ok (.getfield 38, 3) := by decide +kernel
theorem dX2_tell_74 : decode cX2_tell 74 = .ok (.goto 4, 3) := by decide +kernel
theorem dX2_tell_77 : decode cX2_tell 77 = .ok (.iconst 0, 1) := by decide +kernel
theorem dX2_tell_78 : decode cX2_tell 78 = .ok (.ireturn, 1) := by decide +kernel
theorem dX2_tell_79 : decode cX2_tell 79 = .ok (.aload_n 0, 1) := by decide +kernel
theorem dX2_tell_80 : decode cX2_tell 80 = .ok (.getfield 22, 3) := by decide +kernel
theorem dX2_tell_83 : decode cX2_tell 83 = .ok (.ireturn, 1) := by decide +kernel
theorem dX2_tell_84 : decode cX2_tell 84 = .ok (.aload_n 0, 1) := by decide +kernel
theorem dX2_tell_85 : decode cX2_tell 85 = .ok (.getfield 47, 3) := by decide +kernel
theorem dX2_tell_88 : decode cX2_tell 88 = .ok (.ireturn, 1) := by decide +kernel
theorem dX2_tell_89 : decode cX2_tell 89 = .ok (.aload_n 0, 1) := by decide +kernel
theorem dX2_tell_90 : decode cX2_tell 90 = .ok (.getfield 62, 3) := by decide +kernel
theorem dX2_tell_93 : decode cX2_tell 93 = .ok (.ireturn, 1) := by decide +kernel
theorem dX2_tell_94 : decode cX2_tell 94 = .ok (.aload_n 0, 1) := by decide +kernel
theorem dX2_tell_95 : decode cX2_tell 95 = .ok (.invokevirtual 58, 3) := by decide +kernel
theorem dX2_tell_98 : decode cX2_tell 98 = .ok (.ifCond .eq 7, 3) := by decide +kernel
theorem dX2_tell_101 : decode cX2_tell 101 = .ok (.iconst 1, 1) := by decide +kernel
theorem dX2_tell_102 : decode cX2_tell 102 = .ok (.goto 4, 3) := by decide +kernel
theorem dX2_tell_105 : decode cX2_tell 105 = .ok (.iconst 0, 1) := by decide +kernel
theorem dX2_tell_106 : decode cX2_tell 106 = .ok (.ireturn, 1) := by decide +kernel
theorem dX3_init_0 : decode cX3_init 0 = .ok (.aload_n 0, 1) := by decide +kernel
theorem dX3_init_1 : decode cX3_init 1 = .ok (.invokespecial 3, 3) := by decide +kernel
theorem dX3_init_4 : decode cX3_init 4 = .ok (.aload_n 0, 1) := by decide +kernel
theorem dX3_init_5 : decode cX3_init 5 = .ok (.bipush 8, 2) := by decide +kernel
theorem dX3_init_7 : decode cX3_init 7 = .ok (.anewarray 9, 3) := by decide +kernel
theorem dX3_init_10 : decode cX3_init 10 = .ok (.putfield 11, 3) := by decide +kernel
theorem dX3_init_13 : decode cX3_init 13 = .ok (.aload_n 0, 1) := by decide +kernel
theorem dX3_init_14 : decode cX3_init 14 = .ok (.bipush 8, 2) := by decide +kernel
theorem dX3_init_16 : decode cX3_init 16 = .ok (.bipush 8, 2) := by decide +kernel
theorem dX3_init_18 : decode cX3_init 18 = .ok (.multianewarray 17 2, 4) := by decide +kernel
theorem dX3_init_22 : decode cX3_init 22 = .ok (.putfield 19, 3) := by decide +kernel
theorem dX3_init_25 : decode cX3_init 25 = .ok (.aload_n 0, 1) := by decide +kernel
theorem dX3_init_26 : decode cX3_init 26 = .ok (.bipush 6, 2) := by decide +kernel
theorem dX3_init_28 : decode cX3_init 28 = .ok (.newarray .int, 2) := by decide +kernel
theorem dX3_init_30 : decode cX3_init 30 = .ok (.putfield 22, 3) := by decide +kernel
theorem dX3_init_33 : decode cX3_init 33 = .ok (.iconst 0, 1) := by decide +kernel
theorem dX3_init_34 : decode cX3_init 34 = .ok (.istore_n 1, 1) := by decide +kernel
theorem dX3_init_35 : decode cX3_init 35 = .ok (.iload_n 1, 1) := by decide +kernel
theorem dX3_init_36 : decode cX3_init 36 = .ok (.aload_n 0, 1) := by decide +kernel
theorem dX3_init_37 : decode cX3_init 37 = .ok (.getfield 11, 3) := by decide +kernel
theorem dX3_init_40 : decode cX3_init 40 = .ok (.arraylength, 1) := by decide +kernel
theorem dX3_init_41 : decode cX3_init 41 = .ok (.if_icmp .ge 22, 3) := by decide +kernel
theorem dX3_init_44 : decode cX3_init 44 = .ok (.aload_n 0, 1) := by decide +kernel
theorem dX3_init_45 : decode cX3_init 45 = .ok (.getfield 11, 3) := by decide +kernel
theorem dX3_init_48 : decode cX3_init 48 = .ok (.iload_n 1, 1) := by decide +kernel
theorem dX3_init_49 : decode cX3_init 49 = .ok (.new 9, 3) := by decide +kernel
theorem dX3_init_52 : decode cX3_init 52 = .ok (.dup, 1) := by decide +kernel
theorem dX3_init_53 : decode cX3_init 53 = .ok (.invokespecial 26, 3) := by decide +kernel
theorem dX3_init_56 : decode cX3_init 56 = .ok (.aastore, 1) := by decide +kernel
theorem dX3_init_57 : decode cX3_init 57 = .ok (.iinc 1 1, 3) := by decide +kernel
theorem dX3_init_60 : decode cX3_init 60 = .ok (.goto (-25), 3) := by decide +kernel
theorem dX3_init_63 : decode cX3_init 63 = .ok (.return_, 1) := by decide +kernel
theorem dX3_addPhase_0 : decode cX3_addPhase 0 = .ok (.aload_n 0, 1) := by decide +kernel
theorem dX3_addPhase_1 : decode cX3_addPhase 1 = .ok (.getfield 11, 3) := by decide +kernel
theorem dX3_addPhase_4 : decode cX3_addPhase 4 = .ok (.aload_n 0, 1) := by decide +kernel
theorem dX3_addPhase_5 : decode cX3_addPhase 5 = .ok (.getfield 27, 3) := by decide +kernel
theorem dX3_addPhase_8 : decode cX3_addPhase 8 = .ok (.aaload, 1) := by decide +kernel
theorem dX3_addPhase_9 : decode cX3_addPhase 9 = .ok (.astore 4, 2) := by decide +kernel
theorem dX3_addPhase_11 : decode cX3_addPhase 11 = .ok (.aload 4, 2) := by decide +kernel
theorem dX3_addPhase_13 : decode cX3_addPhase 13 = .ok (.iload_n 1, 1) := by decide +kernel
theorem dX3_addPhase_14 : decode cX3_addPhase 14 = .ok (.putfield 31, 3) := by decide +kernel
theorem dX3_addPhase_17 : decode cX3_addPhase 17 = .ok (.aload 4, 2) := by decide +kernel
theorem dX3_addPhase_19 : decode cX3_addPhase 19 = .ok (.iload_n 2, 1) := by decide +kernel
theorem dX3_addPhase_20 : decode cX3_addPhase 20 = .ok (.putfield 34, 3) := by decide +kernel
theorem dX3_addPhase_23 : decode cX3_addPhase 23 = .ok (.aload 4, 2) := by decide +kernel
theorem dX3_addPhase_25 : decode cX3_addPhase 25 = .ok (.iload_n 3, 1) := by decide +kernel
theorem dX3_addPhase_26 : decode cX3_addPhase 26 = .ok (.putfield 37, 3) := by decide +kernel
theorem dX3_addPhase_29 : decode cX3_addPhase 29 = .ok (.aload_n 0, 1) := by decide +kernel
theorem dX3_addPhase_30 : decode cX3_addPhase 30 = .ok (.dup, 1) := by decide +kernel
theorem dX3_addPhase_31 : decode cX3_addPhase 31 = .ok (.getfield 27, 3) := by decide +kernel
theorem dX3_addPhase_34 : decode cX3_addPhase 34 = .ok (.dup_x1, 1) := by decide +kernel
theorem dX3_addPhase_35 : decode cX3_addPhase 35 = .ok (.iconst 1, 1) := by decide +kernel
theorem dX3_addPhase_36 : decode cX3_addPhase 36 = .ok (.iadd, 1) := by decide +kernel
theorem dX3_addPhase_37 : decode cX3_addPhase 37 = .ok (.putfield 27, 3) := by decide +kernel
theorem dX3_addPhase_40 : decode cX3_addPhase 40 = .ok (.ireturn, 1) := by decide +kernel
theorem dX3_setBetween_0 : decode cX3_setBetween 0 = .ok (.aload_n 0, 1) := by decide +kernel
theorem dX3_setBetween_1 : decode cX3_setBetween 1 = .ok (.getfield 19, 3) := by decide +kernel
theorem dX3_setBetween_4 : decode cX3_setBetween 4 = .ok (.iload_n 1, 1) := by decide +kernel
theorem dX3_setBetween_5 : decode cX3_setBetween 5 = .ok (.aaload, 1) := by decide +kernel
theorem dX3_setBetween_6 : decode cX3_setBetween 6 = .ok (.iload_n 2, 1) := by decide +kernel
theorem dX3_setBetween_7 : decode cX3_setBetween 7 = .ok (.iload_n 3, 1) := by decide +kernel
theorem dX3_setBetween_8 : decode cX3_setBetween 8 = .ok (.iastore, 1) := by decide +kernel
theorem dX3_setBetween_9 : decode cX3_setBetween 9 = .ok (.return_, 1) := by decide +kernel
theorem dX3_areMeeting_0 : decode cX3_areMeeting 0 = .ok (.aload_n 0, 1) := by decide +kernel
theorem dX3_areMeeting_1 : decode cX3_areMeeting 1 = .ok (.getfield 19, 3) := by decide +kernel
theorem dX3_areMeeting_4 : decode cX3_areMeeting 4 = .ok (.iload_n 1, 1) := by decide +kernel
theorem dX3_areMeeting_5 : decode cX3_areMeeting 5 = .ok (.aaload, 1) := by decide +kernel
theorem dX3_areMeeting_6 : decode cX3_areMeeting 6 = .ok (.iload_n 2, 1) := by decide +kernel
theorem dX3_areMeeting_7 : decode cX3_areMeeting 7 = .ok (.iaload, 1) := by decide +kernel
theorem dX3_areMeeting_8 : decode cX3_areMeeting 8 = .ok (.ifCond .le 7, 3) := by decide +kernel
theorem dX3_areMeeting_11 : decode cX3_areMeeting 11 = .ok (.iconst 1, 1) := by decide +kernel
theorem dX3_areMeeting_12 : decode cX3_areMeeting 12 = .ok (.goto 4, 3) := by decide +kernel
theorem dX3_areMeeting_15 : decode cX3_areMeeting 15 = .ok (.iconst 0, 1) := by decide +kernel
theorem dX3_areMeeting_16 : decode cX3_areMeeting 16 = .ok (.ireturn, 1) := by decide +kernel
theorem dX3_setOf_0 : decode cX3_setOf 0 = .ok (.iload_n 1, 1) := by decide +kernel
theorem dX3_setOf_1 : decode cX3_setOf 1 = .ok (.iconst 0, 1) := by decide +kernel
theorem dX3_setOf_2 : decode cX3_setOf 2 = .ok (.aload_n 0, 1) := by decide +kernel
theorem dX3_setOf_3 : decode cX3_setOf 3 = .ok (.getfield 40, 3) := by decide +kernel
theorem dX3_setOf_6 : decode cX3_setOf 6 = .ok (.iconst 1, 1) := by decide +kernel
theorem dX3_setOf_7 : decode cX3_setOf 7 = .ok (.isub, 1) := by decide +kernel
theorem dX3_setOf_8 : decode cX3_setOf 8 = .ok (.invokestatic 43, 3) := by decide +kernel
theorem dX3_setOf_11 : decode cX3_setOf 11 = .ok (.ifCond .eq 12, 3) := by decide +kernel
theorem dX3_setOf_14 : decode cX3_setOf 14 = .ok (.aload_n 0, 1) := by decide +kernel
theorem dX3_setOf_15 : decode cX3_setOf 15 = .ok (.getfield 22, 3) := by decide +kernel
theorem dX3_setOf_18 : decode cX3_setOf 18 = .ok (.iload_n 1, 1) := by decide +kernel
theorem dX3_setOf_19 : decode cX3_setOf 19 = .ok (.iaload, 1) := by decide +kernel
theorem dX3_setOf_20 : decode cX3_setOf 20 = .ok (.goto 4, 3) := by decide +kernel
theorem dX3_setOf_23 : decode cX3_setOf 23 = .ok (.iconst 0, 1) := by decide +kernel
theorem dX3_setOf_24 : decode cX3_setOf 24 = .ok (.ireturn, 1) := by decide +kernel
theorem dX3_addStage_0 : decode cX3_addStage 0 = .ok (.aload_n 0, 1) := by decide +kernel
theorem dX3_addStage_1 : decode cX3_addStage 1 = .ok (.getfield 22, 3) := by decide +kernel
theorem dX3_addStage_4 : decode cX3_addStage 4 = .ok (.aload_n 0, 1) := by decide +kernel
theorem dX3_addStage_5 : decode cX3_addStage 5 = .ok (.getfield 40, 3) := by decide +kernel
theorem dX3_addStage_8 : decode cX3_addStage 8 = .ok (.iload_n 1, 1) := by decide +kernel
theorem dX3_addStage_9 : decode cX3_addStage 9 = .ok (.iastore, 1) := by decide +kernel
theorem dX3_addStage_10 : decode cX3_addStage 10 = .ok (.aload_n 0, 1) := by decide +kernel
theorem dX3_addStage_11 : decode cX3_addStage 11 = .ok (.dup, 1) := by decide +kernel
theorem dX3_addStage_12 : decode cX3_addStage 12 = .ok (.getfield 40, 3) := by decide +kernel
theorem dX3_addStage_15 : decode cX3_addStage 15 = .ok (.dup_x1, 1) := by decide +kernel
theorem dX3_addStage_16 : decode cX3_addStage 16 = .ok (.iconst 1, 1) := by decide +kernel
theorem dX3_addStage_17 : decode cX3_addStage 17 = .ok (.iadd, 1) := by decide +kernel
theorem dX3_addStage_18 : decode cX3_addStage 18 = .ok (.putfield 40, 3) := by decide +kernel
theorem dX3_addStage_21 : decode cX3_addStage 21 = .ok (.ireturn, 1) := by decide +kernel
theorem dX3_hasStageWithBoth_0 : decode cX3_hasStageWithBoth 0 = .ok (.iconst 0, 1) := by decide +kernel
theorem dX3_hasStageWithBoth_1 : decode cX3_hasStageWithBoth 1 = .ok (.istore_n 3, 1) := by decide +kernel
theorem dX3_hasStageWithBoth_2 : decode cX3_hasStageWithBoth 2 = .ok (.iload_n 3, 1) := by decide +kernel
theorem dX3_hasStageWithBoth_3 : decode cX3_hasStageWithBoth 3 = .ok (.aload_n 0, 1) := by decide +kernel
theorem dX3_hasStageWithBoth_4 : decode cX3_hasStageWithBoth 4 = .ok (.getfield 40, 3) := by decide +kernel
theorem dX3_hasStageWithBoth_7 : decode cX3_hasStageWithBoth 7 = .ok (.if_icmp .ge 35, 3) := by decide +kernel
theorem dX3_hasStageWithBoth_10 : decode cX3_hasStageWithBoth 10 = .ok (.aload_n 0, 1) := by decide +kernel
theorem dX3_hasStageWithBoth_11 : decode cX3_hasStageWithBoth 11 = .ok (.iload_n 3, 1) := by decide +kernel
theorem dX3_hasStageWithBoth_12 : decode cX3_hasStageWithBoth 12 = .ok (.invokevirtual 47, 3) := by decide +kernel
theorem dX3_hasStageWithBoth_15 : decode cX3_hasStageWithBoth 15 = .ok (.iload_n 1, 1) := by decide +kernel
theorem dX3_hasStageWithBoth_16 : decode cX3_hasStageWithBoth 16 = .ok (.invokestatic 51, 3) := by decide +kernel
theorem dX3_hasStageWithBoth_19 : decode cX3_hasStageWithBoth 19 = .ok (.ifCond .eq 17, 3) := by decide +kernel
theorem dX3_hasStageWithBoth_22 : decode cX3_hasStageWithBoth 22 = .ok (.aload_n 0, 1) := by decide +kernel
theorem dX3_hasStageWithBoth_23 : decode cX3_hasStageWithBoth 23 = .ok (.iload_n 3, 1) := by decide +kernel
theorem dX3_hasStageWithBoth_24 : decode cX3_hasStageWithBoth 24 = .ok (.invokevirtual 47, 3) := by decide +kernel
theorem dX3_hasStageWithBoth_27 : decode cX3_hasStageWithBoth 27 = .ok (.iload_n 2, 1) := by decide +kernel
theorem dX3_hasStageWithBoth_28 : decode cX3_hasStageWithBoth 28 = .ok (.invokestatic 51, 3) := by decide +kernel
theorem dX3_hasStageWithBoth_31 : decode cX3_hasStageWithBoth 31 = .ok (.ifCond .eq 5, 3) := by decide +kernel
theorem dX3_hasStageWithBoth_34 : decode cX3_hasStageWithBoth 34 = .ok (.iconst 1, 1) := by decide +kernel
theorem dX3_hasStageWithBoth_35 : decode cX3_hasStageWithBoth 35 = .ok (.ireturn, 1) := by decide +kernel
theorem dX3_hasStageWithBoth_36 : decode cX3_hasStageWithBoth 36 = .ok (.iinc 3 1, 3) := by decide +kernel
theorem dX3_hasStageWithBoth_39 : decode cX3_hasStageWithBoth 39 = .ok (.goto (-37), 3) := by decide +kernel
theorem dX3_hasStageWithBoth_42 : decode cX3_hasStageWithBoth 42 = .ok (.iconst 0, 1) := by decide +kernel
theorem dX3_hasStageWithBoth_43 : decode cX3_hasStageWithBoth 43 = .ok (.ireturn, 1) := by decide +kernel
theorem dX3_hasTwoThatMeet_0 : decode cX3_hasTwoThatMeet 0 = .ok (.iconst 0, 1) := by decide +kernel
theorem dX3_hasTwoThatMeet_1 : decode cX3_hasTwoThatMeet 1 = .ok (.istore_n 2, 1) := by decide +kernel
theorem dX3_hasTwoThatMeet_2 : decode cX3_hasTwoThatMeet 2 = .ok (.iload_n 2, 1) := by decide +kernel
theorem dX3_hasTwoThatMeet_3 : decode cX3_hasTwoThatMeet 3 = .ok (.aload_n 0, 1) := by decide +kernel
theorem dX3_hasTwoThatMeet_4 : decode cX3_hasTwoThatMeet 4 = .ok (.getfield 27, 3) := by decide +kernel
theorem dX3_hasTwoThatMeet_7 : decode cX3_hasTwoThatMeet 7 = .ok (.if_icmp .ge 28, 3) := by decide +kernel
theorem dX3_hasTwoThatMeet_10 : decode cX3_hasTwoThatMeet 10 = .ok (.iload_n 1, 1) := by decide +kernel
theorem dX3_hasTwoThatMeet_11 : decode cX3_hasTwoThatMeet 11 = .ok (.iload_n 2, 1) := by decide +kernel
theorem dX3_hasTwoThatMeet_12 : decode cX3_hasTwoThatMeet 12 = .ok (.invokestatic 51, 3) := by decide +kernel
theorem dX3_hasTwoThatMeet_15 : decode cX3_hasTwoThatMeet 15 = .ok (.ifCond .eq 14, 3) := by decide +kernel
theorem dX3_hasTwoThatMeet_18 : decode cX3_hasTwoThatMeet 18 = .ok (.aload_n 0, 1) := by decide +kernel
theorem dX3_hasTwoThatMeet_19 : decode cX3_hasTwoThatMeet 19 = .ok (.iload_n 2, 1) := by decide +kernel
theorem dX3_hasTwoThatMeet_20 : decode cX3_hasTwoThatMeet 20 = .ok (.iload_n 1, 1) := by decide +kernel
theorem dX3_hasTwoThatMeet_21 : decode cX3_hasTwoThatMeet 21 = .ok (.invokevirtual 55, 3) := by decide +kernel
theorem dX3_hasTwoThatMeet_24 : decode cX3_hasTwoThatMeet 24 = .ok (.ifCond .le 5, 3) := by decide +kernel
theorem dX3_hasTwoThatMeet_27 : decode cX3_hasTwoThatMeet 27 = .ok (.iconst 1, 1) := by decide +kernel
theorem dX3_hasTwoThatMeet_28 : decode cX3_hasTwoThatMeet 28 = .ok (.ireturn, 1) := by decide +kernel
theorem dX3_hasTwoThatMeet_29 : decode cX3_hasTwoThatMeet 29 = .ok (.iinc 2 1, 3) := by decide +kernel
theorem dX3_hasTwoThatMeet_32 : decode cX3_hasTwoThatMeet 32 = .ok (.goto (-30), 3) := by decide +kernel
theorem dX3_hasTwoThatMeet_35 : decode cX3_hasTwoThatMeet 35 = .ok (.iconst 0, 1) := by decide +kernel
theorem dX3_hasTwoThatMeet_36 : decode cX3_hasTwoThatMeet 36 = .ok (.ireturn, 1) := by decide +kernel
theorem dX3_mostBetween_0 : decode cX3_mostBetween 0 = .ok (.iconst 0, 1) := by decide +kernel
theorem dX3_mostBetween_1 : decode cX3_mostBetween 1 = .ok (.istore_n 3, 1) := by decide +kernel
theorem dX3_mostBetween_2 : decode cX3_mostBetween 2 = .ok (.iconst 0, 1) := by decide +kernel
theorem dX3_mostBetween_3 : decode cX3_mostBetween 3 = .ok (.istore 4, 2) := by decide +kernel
theorem dX3_mostBetween_5 : decode cX3_mostBetween 5 = .ok (.iload 4, 2) := by decide +kernel
theorem dX3_mostBetween_7 : decode cX3_mostBetween 7 = .ok (.aload_n 0, 1) := by decide +kernel
theorem dX3_mostBetween_8 : decode cX3_mostBetween 8 = .ok (.getfield 27, 3) := by decide +kernel
theorem dX3_mostBetween_11 : decode cX3_mostBetween 11 = .ok (.if_icmp .ge 32, 3) := by decide +kernel
theorem dX3_mostBetween_14 : decode cX3_mostBetween 14 = .ok (.iload_n 2, 1) := by decide +kernel
theorem dX3_mostBetween_15 : decode cX3_mostBetween 15 = .ok (.iload 4, 2) := by decide +kernel
theorem dX3_mostBetween_17 : decode cX3_mostBetween 17 = .ok (.invokestatic 51, 3) := by decide +kernel
theorem dX3_mostBetween_20 : decode cX3_mostBetween 20 = .ok (.ifCond .eq 17, 3) := by decide +kernel
theorem dX3_mostBetween_23 : decode cX3_mostBetween 23 = .ok (.iload_n 3, 1) := by decide +kernel
theorem dX3_mostBetween_24 : decode cX3_mostBetween 24 = .ok (.aload_n 0, 1) := by decide +kernel
theorem dX3_mostBetween_25 : decode cX3_mostBetween 25 = .ok (.getfield 19, 3) := by decide +kernel
theorem dX3_mostBetween_28 : decode cX3_mostBetween 28 = .ok (.iload_n 1, 1) := by decide +kernel
theorem dX3_mostBetween_29 : decode cX3_mostBetween 29 = .ok (.aaload, 1) := by decide +kernel
theorem dX3_mostBetween_30 : decode cX3_mostBetween 30 = .ok (.iload 4, 2) := by decide +kernel
theorem dX3_mostBetween_32 : decode cX3_mostBetween 32 = .ok (.iaload, 1) := by decide +kernel
theorem dX3_mostBetween_33 : decode cX3_mostBetween 33 = .ok (.invokestatic 59, 3) := by decide +kernel
theorem dX3_mostBetween_36 : decode cX3_mostBetween 36 = .ok (.istore_n 3, 1) := by decide +kernel
theorem dX3_mostBetween_37 : decode cX3_mostBetween 37 = .ok (.iinc 4 1, 3) := by decide +kernel
theorem dX3_mostBetween_40 : decode cX3_mostBetween 40 = .ok (.goto (-35), 3) := by decide +kernel
theorem dX3_mostBetween_43 : decode cX3_mostBetween 43 = .ok (.iload_n 3, 1) := by decide +kernel
theorem dX3_mostBetween_44 : decode cX3_mostBetween 44 = .ok (.ireturn, 1) := by decide +kernel
theorem dX3_secondsToChange_0 : decode cX3_secondsToChange 0 = .ok (.aload_n 0, 1) := by decide +kernel
theorem dX3_secondsToChange_1 : decode cX3_secondsToChange 1 = .ok (.iload_n 1, 1) := by decide +kernel
theorem dX3_secondsToChange_2 : decode cX3_secondsToChange 2 = .ok (.invokevirtual 47, 3) := by decide +kernel
theorem dX3_secondsToChange_5 : decode cX3_secondsToChange 5 = .ok (.aload_n 0, 1) := by decide +kernel
theorem dX3_secondsToChange_6 : decode cX3_secondsToChange 6 = .ok (.iload_n 2, 1) := by decide +kernel
theorem dX3_secondsToChange_7 : decode cX3_secondsToChange 7 = .ok (.invokevirtual 47, 3) := by decide +kernel
theorem dX3_secondsToChange_10 : decode cX3_secondsToChange 10 = .ok (.iconst (-1), 1) := by decide +kernel
theorem dX3_secondsToChange_11 : decode cX3_secondsToChange 11 = .ok (.ixor, 1) := by decide +kernel
theorem dX3_secondsToChange_12 : decode cX3_secondsToChange 12 = .ok (.iand, 1) := by decide +kernel
theorem dX3_secondsToChange_13 : decode cX3_secondsToChange 13 = .ok (.istore_n 3, 1) := by decide +kernel
theorem dX3_secondsToChange_14 : decode cX3_secondsToChange 14 = .ok (.aload_n 0, 1) := by decide +kernel
theorem dX3_secondsToChange_15 : decode cX3_secondsToChange 15 = .ok (.iload_n 2, 1) := by decide +kernel
theorem dX3_secondsToChange_16 : decode cX3_secondsToChange 16 = .ok (.invokevirtual 47, 3) := by decide +kernel
theorem dX3_secondsToChange_19 : decode cX3_secondsToChange 19 = .ok (.aload_n 0, 1) := by decide +kernel
theorem dX3_secondsToChange_20 : decode cX3_secondsToChange 20 = .ok (.iload_n 1, 1) := by decide +kernel
theorem dX3_secondsToChange_21 : decode cX3_secondsToChange 21 = .ok (.invokevirtual 47, 3) := by decide +kernel
theorem dX3_secondsToChange_24 : decode cX3_secondsToChange 24 = .ok (.iconst (-1), 1) := by decide +kernel
theorem dX3_secondsToChange_25 : decode cX3_secondsToChange 25 = .ok (.ixor, 1) := by decide +kernel
theorem dX3_secondsToChange_26 : decode cX3_secondsToChange 26 = .ok (.iand, 1) := by decide +kernel
theorem dX3_secondsToChange_27 : decode cX3_secondsToChange 27 = .ok (.istore 4, 2) := by decide +kernel
theorem dX3_secondsToChange_29 : decode cX3_secondsToChange 29 = .ok (.iconst 0, 1) := by decide +kernel
theorem dX3_secondsToChange_30 : decode cX3_secondsToChange 30 = .ok (.istore 5, 2) := by decide +kernel
theorem dX3_secondsToChange_32 : decode cX3_secondsToChange 32 = .ok (.iconst 0, 1) := by decide +kernel
theorem dX3_secondsToChange_33 : decode cX3_secondsToChange 33 = .ok (.istore 6, 2) := by decide +kernel
theorem dX3_secondsToChange_35 : decode cX3_secondsToChange 35 = .ok (.iload 6, 2) := by decide +kernel
theorem dX3_secondsToChange_37 : decode cX3_secondsToChange 37 = .ok (.aload_n 0, 1) := by decide +kernel
theorem dX3_secondsToChange_38 : decode cX3_secondsToChange 38 = .ok (.getfield 27, 3) := by decide +kernel
theorem dX3_secondsToChange_41 : decode cX3_secondsToChange 41 = .ok (.if_icmp .ge 33, 3) := by decide +kernel
theorem dX3_secondsToChange_44 : decode cX3_secondsToChange 44 = .ok (.iload_n 3, 1) := by decide +kernel
theorem dX3_secondsToChange_45 : decode cX3_secondsToChange 45 = .ok (.iload 6, 2) := by decide +kernel
theorem dX3_secondsToChange_47 : decode cX3_secondsToChange 47 = .ok (.invokestatic 51, 3) := by decide +kernel
theorem dX3_secondsToChange_50 : decode cX3_secondsToChange 50 = .ok (.ifCond .eq 18, 3) := by decide +kernel
theorem dX3_secondsToChange_53 : decode cX3_secondsToChange 53 = .ok (.iload 5, 2) := by decide +kernel
theorem dX3_secondsToChange_55 : decode cX3_secondsToChange 55 = .ok (.aload_n 0, 1) := by decide +kernel
theorem dX3_secondsToChange_56 : decode cX3_secondsToChange 56 = .ok (.iload 6, 2) := by decide +kernel
theorem dX3_secondsToChange_58 : decode cX3_secondsToChange 58 = .ok (.iload 4, 2) := by decide +kernel
theorem dX3_secondsToChange_60 : decode cX3_secondsToChange 60 = .ok (.invokevirtual 55, 3) := by decide +kernel
theorem dX3_secondsToChange_63 : decode cX3_secondsToChange 63 = .ok (.invokestatic 59, 3) := by decide +kernel
theorem dX3_secondsToChange_66 : decode cX3_secondsToChange 66 = .ok (.istore 5, 2) := by decide +kernel
theorem dX3_secondsToChange_68 : decode cX3_secondsToChange 68 = .ok (.iinc 6 1, 3) := by decide +kernel
theorem dX3_secondsToChange_71 : decode cX3_secondsToChange 71 = .ok (.goto (-36), 3) := by decide +kernel
theorem dX3_secondsToChange_74 : decode cX3_secondsToChange 74 = .ok (.iload 5, 2) := by decide +kernel
theorem dX3_secondsToChange_76 : decode cX3_secondsToChange 76 = .ok (.ireturn, 1) := by decide +kernel
theorem dX3_greatestLeast_0 : decode cX3_greatestLeast 0 = .ok (.iconst 0, 1) := by decide +kernel
theorem dX3_greatestLeast_1 : decode cX3_greatestLeast 1 = .ok (.istore_n 2, 1) := by decide +kernel
theorem dX3_greatestLeast_2 : decode cX3_greatestLeast 2 = .ok (.iconst 0, 1) := by decide +kernel
theorem dX3_greatestLeast_3 : decode cX3_greatestLeast 3 = .ok (.istore_n 3, 1) := by decide +kernel
theorem dX3_greatestLeast_4 : decode cX3_greatestLeast 4 = .ok (.iload_n 3, 1) := by decide +kernel
theorem dX3_greatestLeast_5 : decode cX3_greatestLeast 5 = .ok (.aload_n 0, 1) := by decide +kernel
theorem dX3_greatestLeast_6 : decode cX3_greatestLeast 6 = .ok (.getfield 27, 3) := by decide +kernel
theorem dX3_greatestLeast_9 : decode cX3_greatestLeast 9 = .ok (.if_icmp .ge 35, 3) := by decide +kernel
theorem dX3_greatestLeast_12 : decode cX3_greatestLeast 12 = .ok (.aload_n 0, 1) := by decide +kernel
theorem dX3_greatestLeast_13 : decode cX3_greatestLeast 13 = .ok (.iload_n 1, 1) := by decide +kernel
theorem dX3_greatestLeast_14 : decode cX3_greatestLeast 14 = .ok (.invokevirtual 47, 3) := by decide +kernel
theorem dX3_greatestLeast_17 : decode cX3_greatestLeast 17 = .ok (.iload_n 3, 1) := by decide +kernel
theorem dX3_greatestLeast_18 : decode cX3_greatestLeast 18 = .ok (.invokestatic 51, 3) := by decide +kernel
theorem dX3_greatestLeast_21 : decode cX3_greatestLeast 21 = .ok (.ifCond .eq 17, 3) := by decide +kernel
theorem dX3_greatestLeast_24 : decode cX3_greatestLeast 24 = .ok (.iload_n 2, 1) := by decide +kernel
theorem dX3_greatestLeast_25 : decode cX3_greatestLeast 25 = .ok (.aload_n 0, 1) := by decide +kernel
theorem dX3_greatestLeast_26 : decode cX3_greatestLeast 26 = .ok (.getfield 11, 3) := by decide +kernel
theorem dX3_greatestLeast_29 : decode cX3_greatestLeast 29 = .ok (.iload_n 3, 1) := by decide +kernel
theorem dX3_greatestLeast_30 : decode cX3_greatestLeast 30 = .ok (.aaload, 1) := by decide +kernel
theorem dX3_greatestLeast_31 : decode cX3_greatestLeast 31 = .ok (.getfield 31, 3) := by decide +kernel
theorem dX3_greatestLeast_34 : decode cX3_greatestLeast 34 = .ok (.invokestatic 59, 3) := by decide +kernel
theorem dX3_greatestLeast_37 : decode cX3_greatestLeast 37 = .ok (.istore_n 2, 1) := by decide +kernel
theorem dX3_greatestLeast_38 : decode cX3_greatestLeast 38 = .ok (.iinc 3 1, 3) := by decide +kernel
theorem dX3_greatestLeast_41 : decode cX3_greatestLeast 41 = .ok (.goto (-37), 3) := by decide +kernel
theorem dX3_greatestLeast_44 : decode cX3_greatestLeast 44 = .ok (.iload_n 2, 1) := by decide +kernel
theorem dX3_greatestLeast_45 : decode cX3_greatestLeast 45 = .ok (.ireturn, 1) := by decide +kernel
theorem dX3_demandedSet_0 : decode cX3_demandedSet 0 = .ok (.iconst 0, 1) := by decide +kernel
theorem dX3_demandedSet_1 : decode cX3_demandedSet 1 = .ok (.istore_n 1, 1) := by decide +kernel
theorem dX3_demandedSet_2 : decode cX3_demandedSet 2 = .ok (.iconst 0, 1) := by decide +kernel
theorem dX3_demandedSet_3 : decode cX3_demandedSet 3 = .ok (.istore_n 2, 1) := by decide +kernel
theorem dX3_demandedSet_4 : decode cX3_demandedSet 4 = .ok (.iload_n 2, 1) := by decide +kernel
theorem dX3_demandedSet_5 : decode cX3_demandedSet 5 = .ok (.aload_n 0, 1) := by decide +kernel
theorem dX3_demandedSet_6 : decode cX3_demandedSet 6 = .ok (.getfield 27, 3) := by decide +kernel
theorem dX3_demandedSet_9 : decode cX3_demandedSet 9 = .ok (.if_icmp .ge 27, 3) := by decide +kernel
theorem dX3_demandedSet_12 : decode cX3_demandedSet 12 = .ok (.aload_n 0, 1) := by decide +kernel
theorem dX3_demandedSet_13 : decode cX3_demandedSet 13 = .ok (.getfield 11, 3) := by decide +kernel
theorem dX3_demandedSet_16 : decode cX3_demandedSet 16 = .ok (.iload_n 2, 1) := by decide +kernel
theorem dX3_demandedSet_17 : decode cX3_demandedSet 17 = .ok (.aaload, 1) := by decide +kernel
theorem dX3_demandedSet_18 : decode cX3_demandedSet 18 = .ok (.invokevirtual 64, 3) := by decide +kernel
theorem dX3_demandedSet_21 : decode cX3_demandedSet 21 = .ok (.ifCond .eq 9, 3) := by decide +kernel
theorem dX3_demandedSet_24 : decode cX3_demandedSet 24 = .ok (.iload_n 1, 1) := by decide +kernel
theorem dX3_demandedSet_25 : decode cX3_demandedSet 25 = .ok (.iconst 1, 1) := by decide +kernel
theorem dX3_demandedSet_26 : decode cX3_demandedSet 26 = .ok (.iload_n 2, 1) := by decide +kernel
theorem dX3_demandedSet_27 : decode cX3_demandedSet 27 = .ok (.ishl, 1) := by decide +kernel
theorem dX3_demandedSet_28 : decode cX3_demandedSet 28 = .ok (.ior, 1) := by decide +kernel
theorem dX3_demandedSet_29 : decode cX3_demandedSet 29 = .ok (.istore_n 1, 1) := by decide +kernel
theorem dX3_demandedSet_30 : decode cX3_demandedSet 30 = .ok (.iinc 2 1, 3) := by decide +kernel
theorem dX3_demandedSet_33 : decode cX3_demandedSet 33 = .ok (.goto (-29), 3) := by decide +kernel
theorem dX3_demandedSet_36 : decode cX3_demandedSet 36 = .ok (.iload_n 1, 1) := by decide +kernel
theorem dX3_demandedSet_37 : decode cX3_demandedSet 37 = .ok (.ireturn, 1) := by decide +kernel
theorem dX4_init_0 : decode cX4_init 0 = .ok (.aload_n 0, 1) := by decide +kernel
theorem dX4_init_1 : decode cX4_init 1 = .ok (.invokespecial 3, 3) := by decide +kernel
theorem dX4_init_4 : decode cX4_init 4 = .ok (.aload_n 0, 1) := by decide +kernel
theorem dX4_init_5 : decode cX4_init 5 = .ok (.bipush 6, 2) := by decide +kernel
theorem dX4_init_7 : decode cX4_init 7 = .ok (.bipush 6, 2) := by decide +kernel
theorem dX4_init_9 : decode cX4_init 9 = .ok (.multianewarray 9 2, 4) := by decide +kernel
theorem dX4_init_13 : decode cX4_init 13 = .ok (.putfield 11, 3) := by decide +kernel
theorem dX4_init_16 : decode cX4_init 16 = .ok (.aload_n 0, 1) := by decide +kernel
theorem dX4_init_17 : decode cX4_init 17 = .ok (.bipush 64, 2) := by decide +kernel
theorem dX4_init_19 : decode cX4_init 19 = .ok (.bipush 6, 2) := by decide +kernel
theorem dX4_init_21 : decode cX4_init 21 = .ok (.multianewarray 9 2, 4) := by decide +kernel
theorem dX4_init_25 : decode cX4_init 25 = .ok (.putfield 16, 3) := by decide +kernel
theorem dX4_init_28 : decode cX4_init 28 = .ok (.aload_n 0, 1) := by decide +kernel
theorem dX4_init_29 : decode cX4_init 29 = .ok (.aload_n 1, 1) := by decide +kernel
theorem dX4_init_30 : decode cX4_init 30 = .ok (.putfield 19, 3) := by decide +kernel
theorem dX4_init_33 : decode cX4_init 33 = .ok (.return_, 1) := by decide +kernel
theorem dX4_shortest_0 : decode cX4_shortest 0 = .ok (.aload_n 0, 1) := by decide +kernel
theorem dX4_shortest_1 : decode cX4_shortest 1 = .ok (.getfield 19, 3) := by decide +kernel
theorem dX4_shortest_4 : decode cX4_shortest 4 = .ok (.getfield 23, 3) := by decide +kernel
theorem dX4_shortest_7 : decode cX4_shortest 7 = .ok (.ifCond .ne 5, 3) := by decide +kernel
theorem dX4_shortest_10 : decode cX4_shortest 10 = .ok (.iconst (-1), 1) := by decide +kernel
theorem dX4_shortest_11 : decode cX4_shortest 11 = .ok (.ireturn, 1) := by decide +kernel
theorem dX4_shortest_12 : decode cX4_shortest 12 = .ok (.aload_n 0, 1) := by decide +kernel
theorem dX4_shortest_13 : decode cX4_shortest 13 = .ok (.invokevirtual 29, 3) := by decide +kernel
theorem dX4_shortest_16 : decode cX4_shortest 16 = .ok (.aload_n 0, 1) := by decide +kernel
theorem dX4_shortest_17 : decode cX4_shortest 17 = .ok (.invokevirtual 32, 3) := by decide +kernel
theorem dX4_shortest_20 : decode cX4_shortest 20 = .ok (.aload_n 0, 1) := by decide +kernel
theorem dX4_shortest_21 : decode cX4_shortest 21 = .ok (.getfield 16, 3) := by decide +kernel
theorem dX4_shortest_24 : decode cX4_shortest 24 = .ok (.iconst 1, 1) := by decide +kernel
theorem dX4_shortest_25 : decode cX4_shortest 25 = .ok (.aaload, 1) := by decide +kernel
theorem dX4_shortest_26 : decode cX4_shortest 26 = .ok (.iconst 0, 1) := by decide +kernel
theorem dX4_shortest_27 : decode cX4_shortest 27 = .ok (.iaload, 1) := by decide +kernel
theorem dX4_shortest_28 : decode cX4_shortest 28 = .ok (.iadd, 1) := by decide +kernel
theorem dX4_shortest_29 : decode cX4_shortest 29 = .ok (.ireturn, 1) := by decide +kernel
theorem dX4_stageAt_0 : decode cX4_stageAt 0 = .ok (.aload_n 0, 1) := by decide +kernel
theorem dX4_stageAt_1 : decode cX4_stageAt 1 = .ok (.invokevirtual 29, 3) := by decide +kernel
theorem dX4_stageAt_4 : decode cX4_stageAt 4 = .ok (.iconst 0, 1) := by decide +kernel
theorem dX4_stageAt_5 : decode cX4_stageAt 5 = .ok (.istore_n 2, 1) := by decide +kernel
theorem dX4_stageAt_6 : decode cX4_stageAt 6 = .ok (.iconst 1, 1) := by decide +kernel
theorem dX4_stageAt_7 : decode cX4_stageAt 7 = .ok (.istore_n 3, 1) := by decide +kernel
theorem dX4_stageAt_8 : decode cX4_stageAt 8 = .ok (.iconst 0, 1) := by decide +kernel
theorem dX4_stageAt_9 : decode cX4_stageAt 9 = .ok (.istore 4, 2) := by decide +kernel
theorem dX4_stageAt_11 : decode cX4_stageAt 11 = .ok (.iload 4, 2) := by decide +kernel
theorem dX4_stageAt_13 : decode cX4_stageAt 13 = .ok (.iload_n 1, 1) := by decide +kernel
theorem dX4_stageAt_14 : decode cX4_stageAt 14 = .ok (.if_icmp .ge 22, 3) := by decide +kernel
theorem dX4_stageAt_17 : decode cX4_stageAt 17 = .ok (.aload_n 0, 1) := by decide +kernel
theorem dX4_stageAt_18 : decode cX4_stageAt 18 = .ok (.iload_n 2, 1) := by decide +kernel
theorem dX4_stageAt_19 : decode cX4_stageAt 19 = .ok (.iload_n 3, 1) := by decide +kernel
theorem dX4_stageAt_20 : decode cX4_stageAt 20 = .ok (.invokevirtual 36, 3) := by decide +kernel
theorem dX4_stageAt_23 : decode cX4_stageAt 23 = .ok (.istore_n 2, 1) := by decide +kernel
theorem dX4_stageAt_24 : decode cX4_stageAt 24 = .ok (.iload_n 3, 1) := by decide +kernel
theorem dX4_stageAt_25 : decode cX4_stageAt 25 = .ok (.iconst 1, 1) := by decide +kernel
theorem dX4_stageAt_26 : decode cX4_stageAt 26 = .ok (.iload_n 2, 1) := by decide +kernel
theorem dX4_stageAt_27 : decode cX4_stageAt 27 = .ok (.ishl, 1) := by decide +kernel
theorem dX4_stageAt_28 : decode cX4_stageAt 28 = .ok (.ior, 1) := by decide +kernel
theorem dX4_stageAt_29 : decode cX4_stageAt 29 = .ok (.istore_n 3, 1) := by decide +kernel
theorem dX4_stageAt_30 : decode cX4_stageAt 30 = .ok (.iinc 4 1, 3) := by decide +kernel
theorem dX4_stageAt_33 : decode cX4_stageAt 33 = .ok (.goto (-22), 3) := by decide +kernel
theorem dX4_stageAt_36 : decode cX4_stageAt 36 = .ok (.iload_n 2, 1) := by decide +kernel
theorem dX4_stageAt_37 : decode cX4_stageAt 37 = .ok (.ireturn, 1) := by decide +kernel
theorem dX4_shortestOfAll_0 : decode cX4_shortestOfAll 0 = .ok (.aload_n 0, 1) := by decide +kernel
theorem dX4_shortestOfAll_1 : decode cX4_shortestOfAll 1 = .ok (.getfield 19, 3) := by decide +kernel
theorem dX4_shortestOfAll_4 : decode cX4_shortestOfAll 4 = .ok (.getfield 23, 3) := by decide +kernel
theorem dX4_shortestOfAll_7 : decode cX4_shortestOfAll 7 = .ok (.ifCond .ne 5, 3) := by decide +kernel
theorem dX4_shortestOfAll_10 : decode cX4_shortestOfAll 10 = .ok (.iconst (-1), 1) := by decide +kernel
theorem dX4_shortestOfAll_11 : decode cX4_shortestOfAll 11 = .ok (.ireturn, 1) := by decide +kernel
theorem dX4_shortestOfAll_12 : decode cX4_shortestOfAll 12 = .ok (.aload_n 0, 1) := by decide +kernel
theorem dX4_shortestOfAll_13 : decode cX4_shortestOfAll 13 = .ok (.invokevirtual 40, 3) := by decide +kernel
theorem dX4_shortestOfAll_16 : decode cX4_shortestOfAll 16 = .ok (.iconst 1, 1) := by decide +kernel
theorem dX4_shortestOfAll_17 : decode cX4_shortestOfAll 17 = .ok (.istore_n 1, 1) := by decide +kernel
theorem dX4_shortestOfAll_18 : decode cX4_shortestOfAll 18 = .ok (.iconst 2, 1) := by decide +kernel
theorem dX4_shortestOfAll_19 : decode cX4_shortestOfAll 19 = .ok (.istore_n 2, 1) := by decide +kernel
theorem dX4_shortestOfAll_20 : decode cX4_shortestOfAll 20 = .ok (.iload_n 2, 1) := by decide +kernel
theorem dX4_shortestOfAll_21 : decode cX4_shortestOfAll 21 = .ok (.aload_n 0, 1) := by decide +kernel
theorem dX4_shortestOfAll_22 : decode cX4_shortestOfAll 22 = .ok (.getfield 19, 3) := by decide +kernel
theorem dX4_shortestOfAll_25 : decode cX4_shortestOfAll 25 = .ok (.getfield 23, 3) := by decide +kernel
theorem dX4_shortestOfAll_28 : decode cX4_shortestOfAll 28 = .ok (.if_icmp .ge 13, 3) := by decide +kernel
theorem dX4_shortestOfAll_31 : decode cX4_shortestOfAll 31 = .ok (.iload_n 1, 1) := by decide +kernel
theorem dX4_shortestOfAll_32 : decode cX4_shortestOfAll 32 = .ok (.iload_n 2, 1) := by decide +kernel
theorem dX4_shortestOfAll_33 : decode cX4_shortestOfAll 33 = .ok (.imul, 1) := by decide +kernel
theorem dX4_shortestOfAll_34 : decode cX4_shortestOfAll 34 = .ok (.istore_n 1, 1) := by decide +kernel
theorem dX4_shortestOfAll_35 : decode cX4_shortestOfAll 35 = .ok (.iinc 2 1, 3) := by decide +kernel
theorem dX4_shortestOfAll_38 : decode cX4_shortestOfAll 38 = .ok (.goto (-18), 3) := by decide +kernel
theorem dX4_shortestOfAll_41 : decode cX4_shortestOfAll 41 = .ok (.ldc 43, 2) := by decide +kernel
theorem dX4_shortestOfAll_43 : decode cX4_shortestOfAll 43 = .ok (.istore_n 2, 1) := by decide +kernel
theorem dX4_shortestOfAll_44 : decode cX4_shortestOfAll 44 = .ok (.iconst 0, 1) := by decide +kernel
theorem dX4_shortestOfAll_45 : decode cX4_shortestOfAll 45 = .ok (.istore_n 3, 1) := by decide +kernel
theorem dX4_shortestOfAll_46 : decode cX4_shortestOfAll 46 = .ok (.iload_n 3, 1) := by decide +kernel
theorem dX4_shortestOfAll_47 : decode cX4_shortestOfAll 47 = .ok (.iload_n 1, 1) := by decide +kernel
theorem dX4_shortestOfAll_48 : decode cX4_shortestOfAll 48 = .ok (.if_icmp .ge 19, 3) := by decide +kernel
theorem dX4_shortestOfAll_51 : decode cX4_shortestOfAll 51 = .ok (.iload_n 2, 1) := by decide +kernel
theorem dX4_shortestOfAll_52 : decode cX4_shortestOfAll 52 = .ok (.aload_n 0, 1) := by decide +kernel
theorem dX4_shortestOfAll_53 : decode cX4_shortestOfAll 53 = .ok (.iload_n 3, 1) := by decide +kernel
theorem dX4_shortestOfAll_54 : decode cX4_shortestOfAll 54 = .ok (.invokevirtual 44, 3) := by decide +kernel
theorem dX4_shortestOfAll_57 : decode cX4_shortestOfAll 57 = .ok (.invokestatic 48, 3) := by decide +kernel
theorem dX4_shortestOfAll_60 : decode cX4_shortestOfAll 60 = .ok (.istore_n 2, 1) := by decide +kernel
theorem dX4_shortestOfAll_61 : decode cX4_shortestOfAll 61 = .ok (.iinc 3 1, 3) := by decide +kernel
theorem dX4_shortestOfAll_64 : decode cX4_shortestOfAll 64 = .ok (.goto (-18), 3) := by decide +kernel
theorem dX4_shortestOfAll_67 : decode cX4_shortestOfAll 67 = .ok (.aload_n 0, 1) := by decide +kernel
theorem dX4_shortestOfAll_68 : decode cX4_shortestOfAll 68 = .ok (.invokevirtual 32, 3) := by decide +kernel
theorem dX4_shortestOfAll_71 : decode cX4_shortestOfAll 71 = .ok (.iload_n 2, 1) := by decide +kernel
theorem dX4_shortestOfAll_72 : decode cX4_shortestOfAll 72 = .ok (.iadd, 1) := by decide +kernel
theorem dX4_shortestOfAll_73 : decode cX4_shortestOfAll 73 = .ok (.ireturn, 1) := by decide +kernel
theorem dX4_secondsOfGreens_0 : decode cX4_secondsOfGreens 0 = .ok (.iconst 0, 1) := by decide +kernel
theorem dX4_secondsOfGreens_1 : decode cX4_secondsOfGreens 1 = .ok (.istore_n 1, 1) := by decide +kernel
theorem dX4_secondsOfGreens_2 : decode cX4_secondsOfGreens 2 = .ok (.iconst 0, 1) := by decide +kernel
theorem dX4_secondsOfGreens_3 : decode cX4_secondsOfGreens 3 = .ok (.istore_n 2, 1) := by decide +kernel
theorem dX4_secondsOfGreens_4 : decode cX4_secondsOfGreens 4 = .ok (.iload_n 2, 1) := by decide +kernel
theorem dX4_secondsOfGreens_5 : decode cX4_secondsOfGreens 5 = .ok (.aload_n 0, 1) := by decide +kernel
theorem dX4_secondsOfGreens_6 : decode cX4_secondsOfGreens 6 = .ok (.getfield 19, 3) := by decide +kernel
theorem dX4_secondsOfGreens_9 : decode cX4_secondsOfGreens 9 = .ok (.getfield 23, 3) := by decide +kernel
theorem dX4_secondsOfGreens_12 : decode cX4_secondsOfGreens 12 = .ok (.if_icmp .ge 20, 3) := by decide +kernel
theorem dX4_secondsOfGreens_15 : decode cX4_secondsOfGreens 15 = .ok (.iload_n 1, 1) := by decide +kernel
theorem dX4_secondsOfGreens_16 : decode cX4_secondsOfGreens 16 = .ok (.aload_n 0, 1) := by decide +kernel
theorem dX4_secondsOfGreens_17 : decode cX4_secondsOfGreens 17 = .ok (.getfield 19, 3) := by decide +kernel
theorem dX4_secondsOfGreens_20 : decode cX4_secondsOfGreens 20 = .ok (.iload_n 2, 1) := by decide +kernel
theorem dX4_secondsOfGreens_21 : decode cX4_secondsOfGreens 21 = .ok (.invokevirtual 53, 3) := by decide +kernel
theorem dX4_secondsOfGreens_24 : decode cX4_secondsOfGreens 24 = .ok (.iadd, 1) := by decide +kernel
theorem dX4_secondsOfGreens_25 : decode cX4_secondsOfGreens 25 = .ok (.istore_n 1, 1) := by decide +kernel
theorem dX4_secondsOfGreens_26 : decode cX4_secondsOfGreens 26 = .ok (.iinc 2 1, 3) := by decide +kernel
theorem dX4_secondsOfGreens_29 : decode cX4_secondsOfGreens 29 = .ok (.goto (-25), 3) := by decide +kernel
theorem dX4_secondsOfGreens_32 : decode cX4_secondsOfGreens 32 = .ok (.iload_n 1, 1) := by decide +kernel
theorem dX4_secondsOfGreens_33 : decode cX4_secondsOfGreens 33 = .ok (.ireturn, 1) := by decide +kernel
theorem dX4_findChanges_0 : decode cX4_findChanges 0 = .ok (.iconst 0, 1) := by decide +kernel
theorem dX4_findChanges_1 : decode cX4_findChanges 1 = .ok (.istore_n 1, 1) := by decide +kernel
theorem dX4_findChanges_2 : decode cX4_findChanges 2 = .ok (.iload_n 1, 1) := by decide +kernel
theorem dX4_findChanges_3 : decode cX4_findChanges 3 = .ok (.aload_n 0, 1) := by decide +kernel
theorem dX4_findChanges_4 : decode cX4_findChanges 4 = .ok (.getfield 19, 3) := by decide +kernel
theorem dX4_findChanges_7 : decode cX4_findChanges 7 = .ok (.getfield 23, 3) := by decide +kernel
theorem dX4_findChanges_10 : decode cX4_findChanges 10 = .ok (.if_icmp .ge 45, 3) := by decide +kernel
theorem dX4_findChanges_13 : decode cX4_findChanges 13 = .ok (.iconst 0, 1) := by decide +kernel
theorem dX4_findChanges_14 : decode cX4_findChanges 14 = .ok (.istore_n 2, 1) := by decide +kernel
theorem dX4_findChanges_15 : decode cX4_findChanges 15 = .ok (.iload_n 2, 1) := by decide +kernel
theorem dX4_findChanges_16 : decode cX4_findChanges 16 = .ok (.aload_n 0, 1) := by decide +kernel
theorem dX4_findChanges_17 : decode cX4_findChanges 17 = .ok (.getfield 19, 3) := by decide +kernel
theorem dX4_findChanges_20 : decode cX4_findChanges 20 = .ok (.getfield 23, 3) := by decide +kernel
theorem dX4_findChanges_23 : decode cX4_findChanges 23 = .ok (.if_icmp .ge 26, 3) := by decide +kernel
theorem dX4_findChanges_26 : decode cX4_findChanges 26 = .ok (.aload_n 0, 1) := by decide +kernel
theorem dX4_findChanges_27 : decode cX4_findChanges 27 = .ok (.getfield 11, 3) := by decide +kernel
theorem dX4_findChanges_30 : decode cX4_findChanges 30 = .ok (.iload_n 1, 1) := by decide +kernel
theorem dX4_findChanges_31 : decode cX4_findChanges 31 = .ok (.aaload, 1) := by decide +kernel
theorem dX4_findChanges_32 : decode cX4_findChanges 32 = .ok (.iload_n 2, 1) := by decide +kernel
theorem dX4_findChanges_33 : decode cX4_findChanges 33 = .ok (.aload_n 0, 1) := by decide +kernel
theorem dX4_findChanges_34 : decode cX4_findChanges 34 = .ok (.getfield 19, 3) := by decide +kernel
theorem dX4_findChanges_37 : decode cX4_findChanges 37 = .ok (.iload_n 1, 1) := by decide +kernel
theorem dX4_findChanges_38 : decode cX4_findChanges 38 = .ok (.iload_n 2, 1) := by decide +kernel
theorem dX4_findChanges_39 : decode cX4_findChanges 39 = .ok (.invokevirtual 56, 3) := by decide +kernel
theorem dX4_findChanges_42 : decode cX4_findChanges 42 = .ok (.iastore, 1) := by decide +kernel
theorem dX4_findChanges_43 : decode cX4_findChanges 43 = .ok (.iinc 2 1, 3) := by decide +kernel
theorem dX4_findChanges_46 : decode cX4_findChanges 46 = .ok (.goto (-31), 3) := by decide +kernel
theorem dX4_findChanges_49 : decode cX4_findChanges 49 = .ok (.iinc 1 1, 3) := by decide +kernel
theorem dX4_findChanges_52 : decode cX4_findChanges 52 = .ok (.goto (-50), 3) := by decide +kernel
theorem dX4_findChanges_55 : decode cX4_findChanges 55 = .ok (.return_, 1) := by decide +kernel
theorem dX4_findWaysHome_0 : decode cX4_findWaysHome 0 = .ok (.aload_n 0, 1) := by decide +kernel
theorem dX4_findWaysHome_1 : decode cX4_findWaysHome 1 = .ok (.invokevirtual 40, 3) := by decide +kernel
theorem dX4_findWaysHome_4 : decode cX4_findWaysHome 4 = .ok (.iconst 1, 1) := by decide +kernel
theorem dX4_findWaysHome_5 : decode cX4_findWaysHome 5 = .ok (.aload_n 0, 1) := by decide +kernel
theorem dX4_findWaysHome_6 : decode cX4_findWaysHome 6 = .ok (.getfield 19, 3) := by decide +kernel
theorem dX4_findWaysHome_9 : decode cX4_findWaysHome 9 = .ok (.getfield 23, 3) := by decide +kernel
theorem dX4_findWaysHome_12 : decode cX4_findWaysHome 12 = .ok (.ishl, 1) := by decide +kernel
theorem dX4_findWaysHome_13 : decode cX4_findWaysHome 13 = .ok (.iconst 1, 1) := by decide +kernel
theorem dX4_findWaysHome_14 : decode cX4_findWaysHome 14 = .ok (.isub, 1) := by decide +kernel
theorem dX4_findWaysHome_15 : decode cX4_findWaysHome 15 = .ok (.istore_n 1, 1) := by decide +kernel
theorem dX4_findWaysHome_16 : decode cX4_findWaysHome 16 = .ok (.iload_n 1, 1) := by decide +kernel
theorem dX4_findWaysHome_17 : decode cX4_findWaysHome 17 = .ok (.istore_n 2, 1) := by decide +kernel
theorem dX4_findWaysHome_18 : decode cX4_findWaysHome 18 = .ok (.iload_n 2, 1) := by decide +kernel
theorem dX4_findWaysHome_19 : decode cX4_findWaysHome 19 = .ok (.ifCond .le 66, 3) := by decide +kernel
theorem dX4_findWaysHome_22 : decode cX4_findWaysHome 22 = .ok (.iconst 0, 1) := by decide +kernel
theorem dX4_findWaysHome_23 : decode cX4_findWaysHome 23 = .ok (.istore_n 3, 1) := by decide +kernel
theorem dX4_findWaysHome_24 : decode cX4_findWaysHome 24 = .ok (.iload_n 3, 1) := by decide +kernel
theorem dX4_findWaysHome_25 : decode cX4_findWaysHome 25 = .ok (.aload_n 0, 1) := by decide +kernel
theorem dX4_findWaysHome_26 : decode cX4_findWaysHome 26 = .ok (.getfield 19, 3) := by decide +kernel
theorem dX4_findWaysHome_29 : decode cX4_findWaysHome 29 = .ok (.getfield 23, 3) := by decide +kernel
theorem dX4_findWaysHome_32 : decode cX4_findWaysHome 32 = .ok (.if_icmp .ge 47, 3) := by decide +kernel
theorem dX4_findWaysHome_35 : decode cX4_findWaysHome 35 = .ok (.iload_n 2, 1) := by decide +kernel
theorem dX4_findWaysHome_36 : decode cX4_findWaysHome 36 = .ok (.iload_n 3, 1) := by decide +kernel
theorem dX4_findWaysHome_37 : decode cX4_findWaysHome 37 = .ok (.invokestatic 59, 3) := by decide +kernel
theorem dX4_findWaysHome_40 : decode cX4_findWaysHome 40 = .ok (.ifCond .eq 33, 3) := by decide +kernel
theorem dX4_findWaysHome_43 : decode cX4_findWaysHome 43 = .ok (.aload_n 0, 1) := by decide +kernel
theorem dX4_findWaysHome_44 : decode cX4_findWaysHome 44 = .ok (.getfield 16, 3) := by decide +kernel
theorem dX4_findWaysHome_47 : decode cX4_findWaysHome 47 = .ok (.iload_n 2, 1) := by decide +kernel
theorem dX4_findWaysHome_48 : decode cX4_findWaysHome 48 = .ok (.aaload, 1) := by decide +kernel
theorem dX4_findWaysHome_49 : decode cX4_findWaysHome 49 = .ok (.iload_n 3, 1) := by decide +kernel
theorem dX4_findWaysHome_50 : decode cX4_findWaysHome 50 = .ok (.iload_n 2, 1) := by decide +kernel
theorem dX4_findWaysHome_51 : decode cX4_findWaysHome 51 = .ok (.iload_n 1, 1) := by decide +kernel
theorem dX4_findWaysHome_52 : decode cX4_findWaysHome 52 = .ok (.if_icmp .ne 14, 3) := by decide +kernel
theorem dX4_findWaysHome_55 : decode cX4_findWaysHome 55 = .ok (.aload_n 0, 1) := by decide +kernel
theorem dX4_findWaysHome_56 : decode cX4_findWaysHome 56 = .ok (.getfield 11, 3) := by decide +kernel
theorem dX4_findWaysHome_59 : decode cX4_findWaysHome 59 = .ok (.iload_n 3, 1) := by decide +kernel
theorem dX4_findWaysHome_60 : decode cX4_findWaysHome 60 = .ok (.aaload, 1) := by decide +kernel
theorem dX4_findWaysHome_61 : decode cX4_findWaysHome 61 = .ok (.iconst 0, 1) := by decide +kernel
theorem dX4_findWaysHome_62 : decode cX4_findWaysHome 62 = .ok (.iaload, 1) := by decide +kernel
theorem dX4_findWaysHome_63 : decode cX4_findWaysHome 63 = .ok (.goto 9, 3) := by decide +kernel
theorem dX4_findWaysHome_66 : decode cX4_findWaysHome 66 = .ok (.aload_n 0, 1) := by decide +kernel
theorem dX4_findWaysHome_67 : decode cX4_findWaysHome 67 = .ok (.iload_n 3, 1) := by decide +kernel
theorem dX4_findWaysHome_68 : decode cX4_findWaysHome 68 = .ok (.iload_n 2, 1) := by decide +kernel
theorem dX4_findWaysHome_69 : decode cX4_findWaysHome 69 = .ok (.invokevirtual 63, 3) := by decide +kernel
theorem dX4_findWaysHome_72 : decode cX4_findWaysHome 72 = .ok (.iastore, 1) := by decide +kernel
theorem dX4_findWaysHome_73 : decode cX4_findWaysHome 73 = .ok (.iinc 3 1, 3) := by decide +kernel
theorem dX4_findWaysHome_76 : decode cX4_findWaysHome 76 = .ok (.goto (-52), 3) := by decide +kernel
theorem dX4_findWaysHome_79 : decode cX4_findWaysHome 79 = .ok (.iinc 2 (-2), 3) := by decide +kernel
theorem dX4_findWaysHome_82 : decode cX4_findWaysHome 82 = .ok (.goto (-64), 3) := by decide +kernel
theorem dX4_findWaysHome_85 : decode cX4_findWaysHome 85 = .ok (.return_, 1) := by decide +kernel
theorem dX4_leastHome_0 : decode cX4_leastHome 0 = .ok (.ldc 43, 2) := by decide +kernel
theorem dX4_leastHome_2 : decode cX4_leastHome 2 = .ok (.istore_n 3, 1) := by decide +kernel
theorem dX4_leastHome_3 : decode cX4_leastHome 3 = .ok (.iconst 0, 1) := by decide +kernel
theorem dX4_leastHome_4 : decode cX4_leastHome 4 = .ok (.istore 4, 2) := by decide +kernel
theorem dX4_leastHome_6 : decode cX4_leastHome 6 = .ok (.iload 4, 2) := by decide +kernel
theorem dX4_leastHome_8 : decode cX4_leastHome 8 = .ok (.aload_n 0, 1) := by decide +kernel
theorem dX4_leastHome_9 : decode cX4_leastHome 9 = .ok (.getfield 19, 3) := by decide +kernel
theorem dX4_leastHome_12 : decode cX4_leastHome 12 = .ok (.getfield 23, 3) := by decide +kernel
theorem dX4_leastHome_15 : decode cX4_leastHome 15 = .ok (.if_icmp .ge 31, 3) := by decide +kernel
theorem dX4_leastHome_18 : decode cX4_leastHome 18 = .ok (.iload_n 2, 1) := by decide +kernel
theorem dX4_leastHome_19 : decode cX4_leastHome 19 = .ok (.iload 4, 2) := by decide +kernel
theorem dX4_leastHome_21 : decode cX4_leastHome 21 = .ok (.invokestatic 59, 3) := by decide +kernel
theorem dX4_leastHome_24 : decode cX4_leastHome 24 = .ok (.ifCond .ne 16, 3) := by decide +kernel
theorem dX4_leastHome_27 : decode cX4_leastHome 27 = .ok (.iload_n 3, 1) := by decide +kernel
theorem dX4_leastHome_28 : decode cX4_leastHome 28 = .ok (.aload_n 0, 1) := by decide +kernel
theorem dX4_leastHome_29 : decode cX4_leastHome 29 = .ok (.iload_n 1, 1) := by decide +kernel
theorem dX4_leastHome_30 : decode cX4_leastHome 30 = .ok (.iload 4, 2) := by decide +kernel
theorem dX4_leastHome_32 : decode cX4_leastHome 32 = .ok (.iload_n 2, 1) := by decide +kernel
theorem dX4_leastHome_33 : decode cX4_leastHome 33 = .ok (.invokevirtual 66, 3) := by decide +kernel
theorem dX4_leastHome_36 : decode cX4_leastHome 36 = .ok (.invokestatic 48, 3) := by decide +kernel
theorem dX4_leastHome_39 : decode cX4_leastHome 39 = .ok (.istore_n 3, 1) := by decide +kernel
theorem dX4_leastHome_40 : decode cX4_leastHome 40 = .ok (.iinc 4 1, 3) := by decide +kernel
theorem dX4_leastHome_43 : decode cX4_leastHome 43 = .ok (.goto (-37), 3) := by decide +kernel
theorem dX4_leastHome_46 : decode cX4_leastHome 46 = .ok (.iload_n 3, 1) := by decide +kernel
theorem dX4_leastHome_47 : decode cX4_leastHome 47 = .ok (.ireturn, 1) := by decide +kernel
theorem dX4_homeBy_0 : decode cX4_homeBy 0 = .ok (.aload_n 0, 1) := by decide +kernel
theorem dX4_homeBy_1 : decode cX4_homeBy 1 = .ok (.getfield 11, 3) := by decide +kernel
theorem dX4_homeBy_4 : decode cX4_homeBy 4 = .ok (.iload_n 1, 1) := by decide +kernel
theorem dX4_homeBy_5 : decode cX4_homeBy 5 = .ok (.aaload, 1) := by decide +kernel
theorem dX4_homeBy_6 : decode cX4_homeBy 6 = .ok (.iload_n 2, 1) := by decide +kernel
theorem dX4_homeBy_7 : decode cX4_homeBy 7 = .ok (.iaload, 1) := by decide +kernel
theorem dX4_homeBy_8 : decode cX4_homeBy 8 = .ok (.aload_n 0, 1) := by decide +kernel
theorem dX4_homeBy_9 : decode cX4_homeBy 9 = .ok (.getfield 16, 3) := by decide +kernel
theorem dX4_homeBy_12 : decode cX4_homeBy 12 = .ok (.iload_n 3, 1) := by decide +kernel
theorem dX4_homeBy_13 : decode cX4_homeBy 13 = .ok (.iconst 1, 1) := by decide +kernel
theorem dX4_homeBy_14 : decode cX4_homeBy 14 = .ok (.iload_n 2, 1) := by decide +kernel
theorem dX4_homeBy_15 : decode cX4_homeBy 15 = .ok (.ishl, 1) := by decide +kernel
theorem dX4_homeBy_16 : decode cX4_homeBy 16 = .ok (.ior, 1) := by decide +kernel
theorem dX4_homeBy_17 : decode cX4_homeBy 17 = .ok (.aaload, 1) := by decide +kernel
theorem dX4_homeBy_18 : decode cX4_homeBy 18 = .ok (.iload_n 2, 1) := by decide +kernel
theorem dX4_homeBy_19 : decode cX4_homeBy 19 = .ok (.iaload, 1) := by decide +kernel
theorem dX4_homeBy_20 : decode cX4_homeBy 20 = .ok (.iadd, 1) := by decide +kernel
theorem dX4_homeBy_21 : decode cX4_homeBy 21 = .ok (.ireturn, 1) := by decide +kernel
theorem dX4_firstOfBest_0 : decode cX4_firstOfBest 0 = .ok (.iconst 0, 1) := by decide +kernel
theorem dX4_firstOfBest_1 : decode cX4_firstOfBest 1 = .ok (.istore_n 3, 1) := by decide +kernel
theorem dX4_firstOfBest_2 : decode cX4_firstOfBest 2 = .ok (.iload_n 3, 1) := by decide +kernel
theorem dX4_firstOfBest_3 : decode cX4_firstOfBest 3 = .ok (.aload_n 0, 1) := by decide +kernel
theorem dX4_firstOfBest_4 : decode cX4_firstOfBest 4 = .ok (.getfield 19, 3) := by decide +kernel
theorem dX4_firstOfBest_7 : decode cX4_firstOfBest 7 = .ok (.getfield 23, 3) := by decide +kernel
theorem dX4_firstOfBest_10 : decode cX4_firstOfBest 10 = .ok (.if_icmp .ge 37, 3) := by decide +kernel
theorem dX4_firstOfBest_13 : decode cX4_firstOfBest 13 = .ok (.iload_n 2, 1) := by decide +kernel
theorem dX4_firstOfBest_14 : decode cX4_firstOfBest 14 = .ok (.iload_n 3, 1) := by decide +kernel
theorem dX4_firstOfBest_15 : decode cX4_firstOfBest 15 = .ok (.invokestatic 59, 3) := by decide +kernel
theorem dX4_firstOfBest_18 : decode cX4_firstOfBest 18 = .ok (.ifCond .ne 23, 3) := by decide +kernel
theorem dX4_firstOfBest_21 : decode cX4_firstOfBest 21 = .ok (.aload_n 0, 1) := by decide +kernel
theorem dX4_firstOfBest_22 : decode cX4_firstOfBest 22 = .ok (.iload_n 1, 1) := by decide +kernel
theorem dX4_firstOfBest_23 : decode cX4_firstOfBest 23 = .ok (.iload_n 3, 1) := by decide +kernel
theorem dX4_firstOfBest_24 : decode cX4_firstOfBest 24 = .ok (.iload_n 2, 1) := by decide +kernel
theorem dX4_firstOfBest_25 : decode cX4_firstOfBest 25 = .ok (.invokevirtual 66, 3) := by decide +kernel
theorem dX4_firstOfBest_28 : decode cX4_firstOfBest 28 = .ok (.aload_n 0, 1) := by decide +kernel
theorem dX4_firstOfBest_29 : decode cX4_firstOfBest 29 = .ok (.getfield 16, 3) := by decide +kernel
theorem dX4_firstOfBest_32 : decode cX4_firstOfBest 32 = .ok (.iload_n 2, 1) := by decide +kernel
theorem dX4_firstOfBest_33 : decode cX4_firstOfBest 33 = .ok (.aaload, 1) := by decide +kernel
theorem dX4_firstOfBest_34 : decode cX4_firstOfBest 34 = .ok (.iload_n 1, 1) := by decide +kernel
theorem dX4_firstOfBest_35 : decode cX4_firstOfBest 35 = .ok (.iaload, 1) := by decide +kernel
theorem dX4_firstOfBest_36 : decode cX4_firstOfBest 36 = .ok (.if_icmp .ne 5, 3) := by decide +kernel
theorem dX4_firstOfBest_39 : decode cX4_firstOfBest 39 = .ok (.iload_n 3, 1) := by decide +kernel
theorem dX4_firstOfBest_40 : decode cX4_firstOfBest 40 = .ok (.ireturn, 1) := by decide +kernel
theorem dX4_firstOfBest_41 : decode cX4_firstOfBest 41 = .ok (.iinc 3 1, 3) := by decide +kernel
theorem dX4_firstOfBest_44 : decode cX4_firstOfBest 44 = .ok (.goto (-42), 3) := by decide +kernel
theorem dX4_firstOfBest_47 : decode cX4_firstOfBest 47 = .ok (.iload_n 1, 1) := by decide +kernel
theorem dX4_firstOfBest_48 : decode cX4_firstOfBest 48 = .ok (.ireturn, 1) := by decide +kernel
theorem dX4_secondsOfWay_0 : decode cX4_secondsOfWay 0 = .ok (.iconst 0, 1) := by decide +kernel
theorem dX4_secondsOfWay_1 : decode cX4_secondsOfWay 1 = .ok (.istore_n 2, 1) := by decide +kernel
theorem dX4_secondsOfWay_2 : decode cX4_secondsOfWay 2 = .ok (.iconst 0, 1) := by decide +kernel
theorem dX4_secondsOfWay_3 : decode cX4_secondsOfWay 3 = .ok (.istore_n 3, 1) := by decide +kernel
theorem dX4_secondsOfWay_4 : decode cX4_secondsOfWay 4 = .ok (.iconst 1, 1) := by decide +kernel
theorem dX4_secondsOfWay_5 : decode cX4_secondsOfWay 5 = .ok (.istore 4, 2) := by decide +kernel
theorem dX4_secondsOfWay_7 : decode cX4_secondsOfWay 7 = .ok (.iload_n 1, 1) := by decide +kernel
theorem dX4_secondsOfWay_8 : decode cX4_secondsOfWay 8 = .ok (.istore 5, 2) := by decide +kernel
theorem dX4_secondsOfWay_10 : decode cX4_secondsOfWay 10 = .ok (.aload_n 0, 1) := by decide +kernel
theorem dX4_secondsOfWay_11 : decode cX4_secondsOfWay 11 = .ok (.getfield 19, 3) := by decide +kernel
theorem dX4_secondsOfWay_14 : decode cX4_secondsOfWay 14 = .ok (.getfield 23, 3) := by decide +kernel
theorem dX4_secondsOfWay_17 : decode cX4_secondsOfWay 17 = .ok (.iconst 1, 1) := by decide +kernel
theorem dX4_secondsOfWay_18 : decode cX4_secondsOfWay 18 = .ok (.isub, 1) := by decide +kernel
theorem dX4_secondsOfWay_19 : decode cX4_secondsOfWay 19 = .ok (.istore 6, 2) := by decide +kernel
theorem dX4_secondsOfWay_21 : decode cX4_secondsOfWay 21 = .ok (.iload 6, 2) := by decide +kernel
theorem dX4_secondsOfWay_23 : decode cX4_secondsOfWay 23 = .ok (.ifCond .le 53, 3) := by decide +kernel
theorem dX4_secondsOfWay_26 : decode cX4_secondsOfWay 26 = .ok (.aload_n 0, 1) := by decide +kernel
theorem dX4_secondsOfWay_27 : decode cX4_secondsOfWay 27 = .ok (.iload 5, 2) := by decide +kernel
theorem dX4_secondsOfWay_29 : decode cX4_secondsOfWay 29 = .ok (.iload 6, 2) := by decide +kernel
theorem dX4_secondsOfWay_31 : decode cX4_secondsOfWay 31 = .ok (.irem, 1) := by decide +kernel
theorem dX4_secondsOfWay_32 : decode cX4_secondsOfWay 32 = .ok (.iload 4, 2) := by decide +kernel
theorem dX4_secondsOfWay_34 : decode cX4_secondsOfWay 34 = .ok (.invokevirtual 70, 3) := by decide +kernel
theorem dX4_secondsOfWay_37 : decode cX4_secondsOfWay 37 = .ok (.istore 7, 2) := by decide +kernel
theorem dX4_secondsOfWay_39 : decode cX4_secondsOfWay 39 = .ok (.iload 5, 2) := by decide +kernel
theorem dX4_secondsOfWay_41 : decode cX4_secondsOfWay 41 = .ok (.iload 6, 2) := by decide +kernel
theorem dX4_secondsOfWay_43 : decode cX4_secondsOfWay 43 = .ok (.idiv, 1) := by decide +kernel
theorem dX4_secondsOfWay_44 : decode cX4_secondsOfWay 44 = .ok (.istore 5, 2) := by decide +kernel
theorem dX4_secondsOfWay_46 : decode cX4_secondsOfWay 46 = .ok (.iload_n 2, 1) := by decide +kernel
theorem dX4_secondsOfWay_47 : decode cX4_secondsOfWay 47 = .ok (.aload_n 0, 1) := by decide +kernel
theorem dX4_secondsOfWay_48 : decode cX4_secondsOfWay 48 = .ok (.getfield 11, 3) := by decide +kernel
theorem dX4_secondsOfWay_51 : decode cX4_secondsOfWay 51 = .ok (.iload_n 3, 1) := by decide +kernel
theorem dX4_secondsOfWay_52 : decode cX4_secondsOfWay 52 = .ok (.aaload, 1) := by decide +kernel
theorem dX4_secondsOfWay_53 : decode cX4_secondsOfWay 53 = .ok (.iload 7, 2) := by decide +kernel
theorem dX4_secondsOfWay_55 : decode cX4_secondsOfWay 55 = .ok (.iaload, 1) := by decide +kernel
theorem dX4_secondsOfWay_56 : decode cX4_secondsOfWay 56 = .ok (.iadd, 1) := by decide +kernel
theorem dX4_secondsOfWay_57 : decode cX4_secondsOfWay 57 = .ok (.istore_n 2, 1) := by decide +kernel
theorem dX4_secondsOfWay_58 : decode cX4_secondsOfWay 58 = .ok (.iload 4, 2) := by decide +kernel
theorem dX4_secondsOfWay_60 : decode cX4_secondsOfWay 60 = .ok (.iconst 1, 1) := by decide +kernel
theorem dX4_secondsOfWay_61 : decode cX4_secondsOfWay 61 = .ok (.iload 7, 2) := by decide +kernel
theorem dX4_secondsOfWay_63 : decode cX4_secondsOfWay 63 = .ok (.ishl, 1) := by decide +kernel
theorem dX4_secondsOfWay_64 : decode cX4_secondsOfWay 64 = .ok (.ior, 1) := by decide +kernel
theorem dX4_secondsOfWay_65 : decode cX4_secondsOfWay 65 = .ok (.istore 4, 2) := by decide +kernel
theorem dX4_secondsOfWay_67 : decode cX4_secondsOfWay 67 = .ok (.iload 7, 2) := by decide +kernel
theorem dX4_secondsOfWay_69 : decode cX4_secondsOfWay 69 = .ok (.istore_n 3, 1) := by decide +kernel
theorem dX4_secondsOfWay_70 : decode cX4_secondsOfWay 70 = .ok (.iinc 6 (-1), 3) := by decide +kernel
theorem dX4_secondsOfWay_73 : decode cX4_secondsOfWay 73 = .ok (.goto (-52), 3) := by decide +kernel
theorem dX4_secondsOfWay_76 : decode cX4_secondsOfWay 76 = .ok (.iload_n 2, 1) := by decide +kernel
theorem dX4_secondsOfWay_77 : decode cX4_secondsOfWay 77 = .ok (.aload_n 0, 1) := by decide +kernel
theorem dX4_secondsOfWay_78 : decode cX4_secondsOfWay 78 = .ok (.getfield 11, 3) := by decide +kernel
theorem dX4_secondsOfWay_81 : decode cX4_secondsOfWay 81 = .ok (.iload_n 3, 1) := by decide +kernel
theorem dX4_secondsOfWay_82 : decode cX4_secondsOfWay 82 = .ok (.aaload, 1) := by decide +kernel
theorem dX4_secondsOfWay_83 : decode cX4_secondsOfWay 83 = .ok (.iconst 0, 1) := by decide +kernel
theorem dX4_secondsOfWay_84 : decode cX4_secondsOfWay 84 = .ok (.iaload, 1) := by decide +kernel
theorem dX4_secondsOfWay_85 : decode cX4_secondsOfWay 85 = .ok (.iadd, 1) := by decide +kernel
theorem dX4_secondsOfWay_86 : decode cX4_secondsOfWay 86 = .ok (.ireturn, 1) := by decide +kernel
theorem dX4_stageLeft_0 : decode cX4_stageLeft 0 = .ok (.iload_n 1, 1) := by decide +kernel
theorem dX4_stageLeft_1 : decode cX4_stageLeft 1 = .ok (.istore_n 3, 1) := by decide +kernel
theorem dX4_stageLeft_2 : decode cX4_stageLeft 2 = .ok (.iconst 0, 1) := by decide +kernel
theorem dX4_stageLeft_3 : decode cX4_stageLeft 3 = .ok (.istore 4, 2) := by decide +kernel
theorem dX4_stageLeft_5 : decode cX4_stageLeft 5 = .ok (.iload 4, 2) := by decide +kernel
theorem dX4_stageLeft_7 : decode cX4_stageLeft 7 = .ok (.aload_n 0, 1) := by decide +kernel
theorem dX4_stageLeft_8 : decode cX4_stageLeft 8 = .ok (.getfield 19, 3) := by decide +kernel
theorem dX4_stageLeft_11 : decode cX4_stageLeft 11 = .ok (.getfield 23, 3) := by decide +kernel
theorem dX4_stageLeft_14 : decode cX4_stageLeft 14 = .ok (.if_icmp .ge 28, 3) := by decide +kernel
theorem dX4_stageLeft_17 : decode cX4_stageLeft 17 = .ok (.iload_n 2, 1) := by decide +kernel
theorem dX4_stageLeft_18 : decode cX4_stageLeft 18 = .ok (.iload 4, 2) := by decide +kernel
theorem dX4_stageLeft_20 : decode cX4_stageLeft 20 = .ok (.invokestatic 59, 3) := by decide +kernel
theorem dX4_stageLeft_23 : decode cX4_stageLeft 23 = .ok (.ifCond .ne 13, 3) := by decide +kernel
theorem dX4_stageLeft_26 : decode cX4_stageLeft 26 = .ok (.iload_n 3, 1) := by decide +kernel
theorem dX4_stageLeft_27 : decode cX4_stageLeft 27 = .ok (.ifCond .ne 6, 3) := by decide +kernel
theorem dX4_stageLeft_30 : decode cX4_stageLeft 30 = .ok (.iload 4, 2) := by decide +kernel
theorem dX4_stageLeft_32 : decode cX4_stageLeft 32 = .ok (.ireturn, 1) := by decide +kernel
theorem dX4_stageLeft_33 : decode cX4_stageLeft 33 = .ok (.iinc 3 (-1), 3) := by decide +kernel
theorem dX4_stageLeft_36 : decode cX4_stageLeft 36 = .ok (.iinc 4 1, 3) := by decide +kernel
theorem dX4_stageLeft_39 : decode cX4_stageLeft 39 = .ok (.goto (-34), 3) := by decide +kernel
theorem dX4_stageLeft_42 : decode cX4_stageLeft 42 = .ok (.iconst 0, 1) := by decide +kernel
theorem dX4_stageLeft_43 : decode cX4_stageLeft 43 = .ok (.ireturn, 1) := by decide +kernel
theorem dX5_init_0 : decode cX5_init 0 = .ok (.aload_n 0, 1) := by decide +kernel
theorem dX5_init_1 : decode cX5_init 1 = .ok (.invokespecial 1, 3) := by decide +kernel
theorem dX5_init_4 : decode cX5_init 4 = .ok (.aload_n 0, 1) := by decide +kernel
theorem dX5_init_5 : decode cX5_init 5 = .ok (.new 7, 3) := by decide +kernel
theorem dX5_init_8 : decode cX5_init 8 = .ok (.dup, 1) := by decide +kernel
theorem dX5_init_9 : decode cX5_init 9 = .ok (.invokespecial 9, 3) := by decide +kernel
theorem dX5_init_12 : decode cX5_init 12 = .ok (.putfield 10, 3) := by decide +kernel
theorem dX5_init_15 : decode cX5_init 15 = .ok (.aload_n 0, 1) := by decide +kernel
theorem dX5_init_16 : decode cX5_init 16 = .ok (.new 16, 3) := by decide +kernel
theorem dX5_init_19 : decode cX5_init 19 = .ok (.dup, 1) := by decide +kernel
theorem dX5_init_20 : decode cX5_init 20 = .ok (.invokespecial 18, 3) := by decide +kernel
theorem dX5_init_23 : decode cX5_init 23 = .ok (.putfield 19, 3) := by decide +kernel
theorem dX5_init_26 : decode cX5_init 26 = .ok (.aload_n 0, 1) := by decide +kernel
theorem dX5_init_27 : decode cX5_init 27 = .ok (.new 23, 3) := by decide +kernel
theorem dX5_init_30 : decode cX5_init 30 = .ok (.dup, 1) := by decide +kernel
theorem dX5_init_31 : decode cX5_init 31 = .ok (.aload_n 0, 1) := by decide +kernel
theorem dX5_init_32 : decode cX5_init 32 = .ok (.getfield 10, 3) := by decide +kernel
theorem dX5_init_35 : decode cX5_init 35 = .ok (.aload_n 0, 1) := by decide +kernel
theorem dX5_init_36 : decode cX5_init 36 = .ok (.getfield 19, 3) := by decide +kernel
theorem dX5_init_39 : decode cX5_init 39 = .ok (.invokespecial 25, 3) := by decide +kernel
theorem dX5_init_42 : decode cX5_init 42 = .ok (.putfield 28, 3) := by decide +kernel
theorem dX5_init_45 : decode cX5_init 45 = .ok (.aload_n 0, 1) := by decide +kernel
theorem dX5_init_46 : decode cX5_init 46 = .ok (.new 32, 3) := by decide +kernel
theorem dX5_init_49 : decode cX5_init 49 = .ok (.dup, 1) := by decide +kernel
theorem dX5_init_50 : decode cX5_init 50 = .ok (.aload_n 0, 1) := by decide +kernel
theorem dX5_init_51 : decode cX5_init 51 = .ok (.getfield 10, 3) := by decide +kernel
theorem dX5_init_54 : decode cX5_init 54 = .ok (.invokespecial 34, 3) := by decide +kernel
theorem dX5_init_57 : decode cX5_init 57 = .ok (.putfield 37, 3) := by decide +kernel
theorem dX5_init_60 : decode cX5_init 60 = .ok (.return_, 1) := by decide +kernel
theorem dX5_phase_0 : decode cX5_phase 0 = .ok (.iload_n 1, 1) := by decide +kernel
theorem dX5_phase_1 : decode cX5_phase 1 = .ok (.iconst 1, 1) := by decide +kernel
theorem dX5_phase_2 : decode cX5_phase 2 = .ok (.bipush 30, 2) := by decide +kernel
theorem dX5_phase_4 : decode cX5_phase 4 = .ok (.invokestatic 41, 3) := by decide +kernel
theorem dX5_phase_7 : decode cX5_phase 7 = .ok (.ifCond .eq 23, 3) := by decide +kernel
theorem dX5_phase_10 : decode cX5_phase 10 = .ok (.iload_n 2, 1) := by decide +kernel
theorem dX5_phase_11 : decode cX5_phase 11 = .ok (.iload_n 1, 1) := by decide +kernel
theorem dX5_phase_12 : decode cX5_phase 12 = .ok (.bipush 120, 2) := by decide +kernel
theorem dX5_phase_14 : decode cX5_phase 14 = .ok (.invokestatic 41, 3) := by decide +kernel
theorem dX5_phase_17 : decode cX5_phase 17 = .ok (.ifCond .eq 13, 3) := by decide +kernel
theorem dX5_phase_20 : decode cX5_phase 20 = .ok (.iload_n 3, 1) := by decide +kernel
theorem dX5_phase_21 : decode cX5_phase 21 = .ok (.iconst 0, 1) := by decide +kernel
theorem dX5_phase_22 : decode cX5_phase 22 = .ok (.bipush 10, 2) := by decide +kernel
theorem dX5_phase_24 : decode cX5_phase 24 = .ok (.invokestatic 41, 3) := by decide +kernel
theorem dX5_phase_27 : decode cX5_phase 27 = .ok (.ifCond .ne 13, 3) := by decide +kernel
theorem dX5_phase_30 : decode cX5_phase 30 = .ok (.new 45, 3) := by decide +kernel
theorem dX5_phase_33 : decode cX5_phase 33 = .ok (.dup, 1) := by decide +kernel
theorem dX5_phase_34 : decode cX5_phase 34 = .ok (.ldc 47, 2) := by decide +kernel
theorem dX5_phase_36 : decode cX5_phase 36 = .ok (.invokespecial 49, 3) := by decide +kernel
theorem dX5_phase_39 : decode cX5_phase 39 = .ok (.athrow, 1) := by decide +kernel
theorem dX5_phase_40 : decode cX5_phase 40 = .ok (.aload_n 0, 1) := by decide +kernel
theorem dX5_phase_41 : decode cX5_phase 41 = .ok (.getfield 28, 3) := by decide +kernel
theorem dX5_phase_44 : decode cX5_phase 44 = .ok (.getfield 52, 3) := by decide +kernel
theorem dX5_phase_47 : decode cX5_phase 47 = .ok (.ifCond .ne 15, 3) := by decide +kernel
theorem dX5_phase_50 : decode cX5_phase 50 = .ok (.aload_n 0, 1) := by decide +kernel
theorem dX5_phase_51 : decode cX5_phase 51 = .ok (.getfield 10, 3) := by decide +kernel
theorem dX5_phase_54 : decode cX5_phase 54 = .ok (.getfield 56, 3) := by decide +kernel
theorem dX5_phase_57 : decode cX5_phase 57 = .ok (.bipush 8, 2) := by decide +kernel
theorem dX5_phase_59 : decode cX5_phase 59 = .ok (.if_icmp .lt 13, 3) := by decide +kernel
theorem dX5_phase_62 : decode cX5_phase 62 = .ok (.new 60, 3) := by decide +kernel
theorem dX5_phase_65 : decode cX5_phase 65 = .ok (.dup, 1) := by decide +kernel
theorem dX5_phase_66 : decode cX5_phase 66 = .ok (.ldc 62, 2) := by decide +kernel
theorem dX5_phase_68 : decode cX5_phase 68 = .ok (.invokespecial 64, 3) := by decide +kernel
theorem dX5_phase_71 : decode cX5_phase 71 = .ok (.athrow, 1) := by decide +kernel
theorem dX5_phase_72 : decode cX5_phase 72 = .ok (.aload_n 0, 1) := by decide +kernel
theorem dX5_phase_73 : decode cX5_phase 73 = .ok (.getfield 10, 3) := by decide +kernel
theorem dX5_phase_76 : decode cX5_phase 76 = .ok (.iload_n 1, 1) := by decide +kernel
theorem dX5_phase_77 : decode cX5_phase 77 = .ok (.iload_n 2, 1) := by decide +kernel
theorem dX5_phase_78 : decode cX5_phase 78 = .ok (.iload_n 3, 1) := by decide +kernel
theorem dX5_phase_79 : decode cX5_phase 79 = .ok (.invokevirtual 65, 3) := by decide +kernel
theorem dX5_phase_82 : decode cX5_phase 82 = .ok (.ireturn, 1) := by decide +kernel
theorem dX5_meet_0 : decode cX5_meet 0 = .ok (.aload_n 0, 1) := by decide +kernel
theorem dX5_meet_1 : decode cX5_meet 1 = .ok (.iload_n 1, 1) := by decide +kernel
theorem dX5_meet_2 : decode cX5_meet 2 = .ok (.invokevirtual 69, 3) := by decide +kernel
theorem dX5_meet_5 : decode cX5_meet 5 = .ok (.aload_n 0, 1) := by decide +kernel
theorem dX5_meet_6 : decode cX5_meet 6 = .ok (.iload_n 2, 1) := by decide +kernel
theorem dX5_meet_7 : decode cX5_meet 7 = .ok (.invokevirtual 69, 3) := by decide +kernel
theorem dX5_meet_10 : decode cX5_meet 10 = .ok (.iload_n 1, 1) := by decide +kernel
theorem dX5_meet_11 : decode cX5_meet 11 = .ok (.iload_n 2, 1) := by decide +kernel
theorem dX5_meet_12 : decode cX5_meet 12 = .ok (.if_icmp .eq 24, 3) := by decide +kernel
theorem dX5_meet_15 : decode cX5_meet 15 = .ok (.iload_n 3, 1) := by decide +kernel
theorem dX5_meet_16 : decode cX5_meet 16 = .ok (.iconst 1, 1) := by decide +kernel
theorem dX5_meet_17 : decode cX5_meet 17 = .ok (.bipush 20, 2) := by decide +kernel
theorem dX5_meet_19 : decode cX5_meet 19 = .ok (.invokestatic 41, 3) := by decide +kernel
theorem dX5_meet_22 : decode cX5_meet 22 = .ok (.ifCond .eq 14, 3) := by decide +kernel
theorem dX5_meet_25 : decode cX5_meet 25 = .ok (.iload 4, 2) := by decide +kernel
theorem dX5_meet_27 : decode cX5_meet 27 = .ok (.iconst 1, 1) := by decide +kernel
theorem dX5_meet_28 : decode cX5_meet 28 = .ok (.bipush 20, 2) := by decide +kernel
theorem dX5_meet_30 : decode cX5_meet 30 = .ok (.invokestatic 41, 3) := by decide +kernel
theorem dX5_meet_33 : decode cX5_meet 33 = .ok (.ifCond .ne 13, 3) := by decide +kernel
theorem dX5_meet_36 : decode cX5_meet 36 = .ok (.new 45, 3) := by decide +kernel
theorem dX5_meet_39 : decode cX5_meet 39 = .ok (.dup, 1) := by decide +kernel
theorem dX5_meet_40 : decode cX5_meet 40 = .ok (.ldc 73, 2) := by decide +kernel
theorem dX5_meet_42 : decode cX5_meet 42 = .ok (.invokespecial 49, 3) := by decide +kernel
theorem dX5_meet_45 : decode cX5_meet 45 = .ok (.athrow, 1) := by decide +kernel
theorem dX5_meet_46 : decode cX5_meet 46 = .ok (.aload_n 0, 1) := by decide +kernel
theorem dX5_meet_47 : decode cX5_meet 47 = .ok (.getfield 28, 3) := by decide +kernel
theorem dX5_meet_50 : decode cX5_meet 50 = .ok (.getfield 52, 3) := by decide +kernel
theorem dX5_meet_53 : decode cX5_meet 53 = .ok (.ifCond .ne 15, 3) := by decide +kernel
theorem dX5_meet_56 : decode cX5_meet 56 = .ok (.aload_n 0, 1) := by decide +kernel
theorem dX5_meet_57 : decode cX5_meet 57 = .ok (.getfield 10, 3) := by decide +kernel
theorem dX5_meet_60 : decode cX5_meet 60 = .ok (.iload_n 1, 1) := by decide +kernel
theorem dX5_meet_61 : decode cX5_meet 61 = .ok (.iload_n 2, 1) := by decide +kernel
theorem dX5_meet_62 : decode cX5_meet 62 = .ok (.invokevirtual 75, 3) := by decide +kernel
theorem dX5_meet_65 : decode cX5_meet 65 = .ok (.ifCond .eq 13, 3) := by decide +kernel
theorem dX5_meet_68 : decode cX5_meet 68 = .ok (.new 60, 3) := by decide +kernel
theorem dX5_meet_71 : decode cX5_meet 71 = .ok (.dup, 1) := by decide +kernel
theorem dX5_meet_72 : decode cX5_meet 72 = .ok (.ldc 79, 2) := by decide +kernel
theorem dX5_meet_74 : decode cX5_meet 74 = .ok (.invokespecial 64, 3) := by decide +kernel
theorem dX5_meet_77 : decode cX5_meet 77 = .ok (.athrow, 1) := by decide +kernel
theorem dX5_meet_78 : decode cX5_meet 78 = .ok (.aload_n 0, 1) := by decide +kernel
theorem dX5_meet_79 : decode cX5_meet 79 = .ok (.getfield 10, 3) := by decide +kernel
theorem dX5_meet_82 : decode cX5_meet 82 = .ok (.iload_n 1, 1) := by decide +kernel
theorem dX5_meet_83 : decode cX5_meet 83 = .ok (.iload_n 2, 1) := by decide +kernel
theorem dX5_meet_84 : decode cX5_meet 84 = .ok (.iload_n 3, 1) := by decide +kernel
theorem dX5_meet_85 : decode cX5_meet 85 = .ok (.invokevirtual 81, 3) := by decide +kernel
theorem dX5_meet_88 : decode cX5_meet 88 = .ok (.aload_n 0, 1) := by decide +kernel
theorem dX5_meet_89 : decode cX5_meet 89 = .ok (.getfield 10, 3) := by decide +kernel
theorem dX5_meet_92 : decode cX5_meet 92 = .ok (.iload_n 2, 1) := by decide +kernel
theorem dX5_meet_93 : decode cX5_meet 93 = .ok (.iload_n 1, 1) := by decide +kernel
theorem dX5_meet_94 : decode cX5_meet 94 = .ok (.iload 4, 2) := by decide +kernel
theorem dX5_meet_96 : decode cX5_meet 96 = .ok (.invokevirtual 81, 3) := by decide +kernel
theorem dX5_meet_99 : decode cX5_meet 99 = .ok (.return_, 1) := by decide +kernel
theorem dX5_stage_0 : decode cX5_stage 0 = .ok (.iload_n 1, 1) := by decide +kernel
theorem dX5_stage_1 : decode cX5_stage 1 = .ok (.ifCond .eq 15, 3) := by decide +kernel
theorem dX5_stage_4 : decode cX5_stage 4 = .ok (.iload_n 1, 1) := by decide +kernel
theorem dX5_stage_5 : decode cX5_stage 5 = .ok (.aload_n 0, 1) := by decide +kernel
theorem dX5_stage_6 : decode cX5_stage 6 = .ok (.getfield 10, 3) := by decide +kernel
theorem dX5_stage_9 : decode cX5_stage 9 = .ok (.getfield 56, 3) := by decide +kernel
theorem dX5_stage_12 : decode cX5_stage 12 = .ok (.iushr, 1) := by decide +kernel
theorem dX5_stage_13 : decode cX5_stage 13 = .ok (.ifCond .eq 13, 3) := by decide +kernel
theorem dX5_stage_16 : decode cX5_stage 16 = .ok (.new 45, 3) := by decide +kernel
theorem dX5_stage_19 : decode cX5_stage 19 = .ok (.dup, 1) := by decide +kernel
theorem dX5_stage_20 : decode cX5_stage 20 = .ok (.ldc 85, 2) := by decide +kernel
theorem dX5_stage_22 : decode cX5_stage 22 = .ok (.invokespecial 49, 3) := by decide +kernel
theorem dX5_stage_25 : decode cX5_stage 25 = .ok (.athrow, 1) := by decide +kernel
theorem dX5_stage_26 : decode cX5_stage 26 = .ok (.aload_n 0, 1) := by decide +kernel
theorem dX5_stage_27 : decode cX5_stage 27 = .ok (.getfield 28, 3) := by decide +kernel
theorem dX5_stage_30 : decode cX5_stage 30 = .ok (.getfield 52, 3) := by decide +kernel
theorem dX5_stage_33 : decode cX5_stage 33 = .ok (.ifCond .ne 26, 3) := by decide +kernel
theorem dX5_stage_36 : decode cX5_stage 36 = .ok (.aload_n 0, 1) := by decide +kernel
theorem dX5_stage_37 : decode cX5_stage 37 = .ok (.getfield 10, 3) := by decide +kernel
theorem dX5_stage_40 : decode cX5_stage 40 = .ok (.iload_n 1, 1) := by decide +kernel
theorem dX5_stage_41 : decode cX5_stage 41 = .ok (.invokevirtual 87, 3) := by decide +kernel
theorem dX5_stage_44 : decode cX5_stage 44 = .ok (.ifCond .ne 15, 3) := by decide +kernel
theorem dX5_stage_47 : decode cX5_stage 47 = .ok (.aload_n 0, 1) := by decide +kernel
theorem dX5_stage_48 : decode cX5_stage 48 = .ok (.getfield 10, 3) := by decide +kernel
theorem dX5_stage_51 : decode cX5_stage 51 = .ok (.getfield 91, 3) := by decide +kernel
theorem dX5_stage_54 : decode cX5_stage 54 = .ok (.bipush 6, 2) := by decide +kernel
theorem dX5_stage_56 : decode cX5_stage 56 = .ok (.if_icmp .lt 13, 3) := by decide +kernel
theorem dX5_stage_59 : decode cX5_stage 59 = .ok (.new 60, 3) := by decide +kernel
theorem dX5_stage_62 : decode cX5_stage 62 = .ok (.dup, 1) := by decide +kernel
theorem dX5_stage_63 : decode cX5_stage 63 = .ok (.ldc 94, 2) := by decide +kernel
theorem dX5_stage_65 : decode cX5_stage 65 = .ok (.invokespecial 64, 3) := by decide +kernel
theorem dX5_stage_68 : decode cX5_stage 68 = .ok (.athrow, 1) := by decide +kernel
theorem dX5_stage_69 : decode cX5_stage 69 = .ok (.aload_n 0, 1) := by decide +kernel
theorem dX5_stage_70 : decode cX5_stage 70 = .ok (.getfield 10, 3) := by decide +kernel
theorem dX5_stage_73 : decode cX5_stage 73 = .ok (.iload_n 1, 1) := by decide +kernel
theorem dX5_stage_74 : decode cX5_stage 74 = .ok (.invokevirtual 96, 3) := by decide +kernel
theorem dX5_stage_77 : decode cX5_stage 77 = .ok (.ireturn, 1) := by decide +kernel
theorem dX5_start_0 : decode cX5_start 0 = .ok (.aload_n 0, 1) := by decide +kernel
theorem dX5_start_1 : decode cX5_start 1 = .ok (.iload_n 1, 1) := by decide +kernel
theorem dX5_start_2 : decode cX5_start 2 = .ok (.invokevirtual 100, 3) := by decide +kernel
theorem dX5_start_5 : decode cX5_start 5 = .ok (.aload_n 0, 1) := by decide +kernel
theorem dX5_start_6 : decode cX5_start 6 = .ok (.getfield 28, 3) := by decide +kernel
theorem dX5_start_9 : decode cX5_start 9 = .ok (.invokevirtual 103, 3) := by decide +kernel
theorem dX5_start_12 : decode cX5_start 12 = .ok (.ifCond .eq 13, 3) := by decide +kernel
theorem dX5_start_15 : decode cX5_start 15 = .ok (.new 60, 3) := by decide +kernel
theorem dX5_start_18 : decode cX5_start 18 = .ok (.dup, 1) := by decide +kernel
theorem dX5_start_19 : decode cX5_start 19 = .ok (.ldc 107, 2) := by decide +kernel
theorem dX5_start_21 : decode cX5_start 21 = .ok (.invokespecial 64, 3) := by decide +kernel
theorem dX5_start_24 : decode cX5_start 24 = .ok (.athrow, 1) := by decide +kernel
theorem dX5_start_25 : decode cX5_start 25 = .ok (.aload_n 0, 1) := by decide +kernel
theorem dX5_start_26 : decode cX5_start 26 = .ok (.getfield 28, 3) := by decide +kernel
theorem dX5_start_29 : decode cX5_start 29 = .ok (.iload_n 1, 1) := by decide +kernel
theorem dX5_start_30 : decode cX5_start 30 = .ok (.invokevirtual 109, 3) := by decide +kernel
theorem dX5_start_33 : decode cX5_start 33 = .ok (.return_, 1) := by decide +kernel
theorem dX5_stop_0 : decode cX5_stop 0 = .ok (.aload_n 0, 1) := by decide +kernel
theorem dX5_stop_1 : decode cX5_stop 1 = .ok (.getfield 28, 3) := by decide +kernel
theorem dX5_stop_4 : decode cX5_stop 4 = .ok (.getfield 112, 3) := by decide +kernel
theorem dX5_stop_7 : decode cX5_stop 7 = .ok (.ifCond .ne 13, 3) := by decide +kernel
theorem dX5_stop_10 : decode cX5_stop 10 = .ok (.new 60, 3) := by decide +kernel
theorem dX5_stop_13 : decode cX5_stop 13 = .ok (.dup, 1) := by decide +kernel
theorem dX5_stop_14 : decode cX5_stop 14 = .ok (.ldc 115, 2) := by decide +kernel
theorem dX5_stop_16 : decode cX5_stop 16 = .ok (.invokespecial 64, 3) := by decide +kernel
theorem dX5_stop_19 : decode cX5_stop 19 = .ok (.athrow, 1) := by decide +kernel
theorem dX5_stop_20 : decode cX5_stop 20 = .ok (.aload_n 0, 1) := by decide +kernel
theorem dX5_stop_21 : decode cX5_stop 21 = .ok (.getfield 28, 3) := by decide +kernel
theorem dX5_stop_24 : decode cX5_stop 24 = .ok (.iconst 0, 1) := by decide +kernel
theorem dX5_stop_25 : decode cX5_stop 25 = .ok (.invokevirtual 117, 3) := by decide +kernel
theorem dX5_stop_28 : decode cX5_stop 28 = .ok (.return_, 1) := by decide +kernel
theorem dX5_press_0 : decode cX5_press 0 = .ok (.aload_n 0, 1) := by decide +kernel
theorem dX5_press_1 : decode cX5_press 1 = .ok (.iload_n 1, 1) := by decide +kernel
theorem dX5_press_2 : decode cX5_press 2 = .ok (.invokevirtual 69, 3) := by decide +kernel
theorem dX5_press_5 : decode cX5_press 5 = .ok (.aload_n 0, 1) := by decide +kernel
theorem dX5_press_6 : decode cX5_press 6 = .ok (.getfield 10, 3) := by decide +kernel
theorem dX5_press_9 : decode cX5_press 9 = .ok (.getfield 120, 3) := by decide +kernel
theorem dX5_press_12 : decode cX5_press 12 = .ok (.iload_n 1, 1) := by decide +kernel
theorem dX5_press_13 : decode cX5_press 13 = .ok (.aaload, 1) := by decide +kernel
theorem dX5_press_14 : decode cX5_press 14 = .ok (.astore_n 2, 1) := by decide +kernel
theorem dX5_press_15 : decode cX5_press 15 = .ok (.aload_n 2, 1) := by decide +kernel
theorem dX5_press_16 : decode cX5_press 16 = .ok (.invokevirtual 124, 3) := by decide +kernel
theorem dX5_press_19 : decode cX5_press 19 = .ok (.aload_n 2, 1) := by decide +kernel
theorem dX5_press_20 : decode cX5_press 20 = .ok (.invokevirtual 129, 3) := by decide +kernel
theorem dX5_press_23 : decode cX5_press 23 = .ok (.ireturn, 1) := by decide +kernel
theorem dX5_arrive_0 : decode cX5_arrive 0 = .ok (.aload_n 0, 1) := by decide +kernel
theorem dX5_arrive_1 : decode cX5_arrive 1 = .ok (.iload_n 1, 1) := by decide +kernel
theorem dX5_arrive_2 : decode cX5_arrive 2 = .ok (.invokevirtual 69, 3) := by decide +kernel
theorem dX5_arrive_5 : decode cX5_arrive 5 = .ok (.iload_n 2, 1) := by decide +kernel
theorem dX5_arrive_6 : decode cX5_arrive 6 = .ok (.iconst 1, 1) := by decide +kernel
theorem dX5_arrive_7 : decode cX5_arrive 7 = .ok (.bipush 50, 2) := by decide +kernel
theorem dX5_arrive_9 : decode cX5_arrive 9 = .ok (.invokestatic 41, 3) := by decide +kernel
theorem dX5_arrive_12 : decode cX5_arrive 12 = .ok (.ifCond .ne 13, 3) := by decide +kernel
theorem dX5_arrive_15 : decode cX5_arrive 15 = .ok (.new 45, 3) := by decide +kernel
theorem dX5_arrive_18 : decode cX5_arrive 18 = .ok (.dup, 1) := by decide +kernel
theorem dX5_arrive_19 : decode cX5_arrive 19 = .ok (.ldc 132, 2) := by decide +kernel
theorem dX5_arrive_21 : decode cX5_arrive 21 = .ok (.invokespecial 49, 3) := by decide +kernel
theorem dX5_arrive_24 : decode cX5_arrive 24 = .ok (.athrow, 1) := by decide +kernel
theorem dX5_arrive_25 : decode cX5_arrive 25 = .ok (.aload_n 0, 1) := by decide +kernel
theorem dX5_arrive_26 : decode cX5_arrive 26 = .ok (.getfield 10, 3) := by decide +kernel
theorem dX5_arrive_29 : decode cX5_arrive 29 = .ok (.getfield 120, 3) := by decide +kernel
theorem dX5_arrive_32 : decode cX5_arrive 32 = .ok (.iload_n 1, 1) := by decide +kernel
theorem dX5_arrive_33 : decode cX5_arrive 33 = .ok (.aaload, 1) := by decide +kernel
theorem dX5_arrive_34 : decode cX5_arrive 34 = .ok (.astore_n 3, 1) := by decide +kernel
theorem dX5_arrive_35 : decode cX5_arrive 35 = .ok (.aload_n 3, 1) := by decide +kernel
theorem dX5_arrive_36 : decode cX5_arrive 36 = .ok (.getfield 134, 3) := by decide +kernel
theorem dX5_arrive_39 : decode cX5_arrive 39 = .ok (.iload_n 2, 1) := by decide +kernel
theorem dX5_arrive_40 : decode cX5_arrive 40 = .ok (.iadd, 1) := by decide +kernel
theorem dX5_arrive_41 : decode cX5_arrive 41 = .ok (.sipush 1000, 3) := by decide +kernel
theorem dX5_arrive_44 : decode cX5_arrive 44 = .ok (.if_icmp .le 13, 3) := by decide +kernel
theorem dX5_arrive_47 : decode cX5_arrive 47 = .ok (.new 60, 3) := by decide +kernel
theorem dX5_arrive_50 : decode cX5_arrive 50 = .ok (.dup, 1) := by decide +kernel
theorem dX5_arrive_51 : decode cX5_arrive 51 = .ok (.ldc 137, 2) := by decide +kernel
theorem dX5_arrive_53 : decode cX5_arrive 53 = .ok (.invokespecial 64, 3) := by decide +kernel
theorem dX5_arrive_56 : decode cX5_arrive 56 = .ok (.athrow, 1) := by decide +kernel
theorem dX5_arrive_57 : decode cX5_arrive 57 = .ok (.aload_n 3, 1) := by decide +kernel
theorem dX5_arrive_58 : decode cX5_arrive 58 = .ok (.dup, 1) := by decide +kernel
theorem dX5_arrive_59 : decode cX5_arrive 59 = .ok (.getfield 134, 3) := by decide +kernel
theorem dX5_arrive_62 : decode cX5_arrive 62 = .ok (.iload_n 2, 1) := by decide +kernel
theorem dX5_arrive_63 : decode cX5_arrive 63 = .ok (.iadd, 1) := by decide +kernel
theorem dX5_arrive_64 : decode cX5_arrive 64 = .ok (.putfield 134, 3) := by decide +kernel
theorem dX5_arrive_67 : decode cX5_arrive 67 = .ok (.aload_n 3, 1) := by decide +kernel
theorem dX5_arrive_68 : decode cX5_arrive 68 = .ok (.getfield 134, 3) := by decide +kernel
theorem dX5_arrive_71 : decode cX5_arrive 71 = .ok (.ireturn, 1) := by decide +kernel
theorem dX5_ask_0 : decode cX5_ask 0 = .ok (.aload_n 0, 1) := by decide +kernel
theorem dX5_ask_1 : decode cX5_ask 1 = .ok (.iload_n 1, 1) := by decide +kernel
theorem dX5_ask_2 : decode cX5_ask 2 = .ok (.invokevirtual 69, 3) := by decide +kernel
theorem dX5_ask_5 : decode cX5_ask 5 = .ok (.aload_n 0, 1) := by decide +kernel
theorem dX5_ask_6 : decode cX5_ask 6 = .ok (.getfield 28, 3) := by decide +kernel
theorem dX5_ask_9 : decode cX5_ask 9 = .ok (.getfield 139, 3) := by decide +kernel
theorem dX5_ask_12 : decode cX5_ask 12 = .ok (.iconst (-1), 1) := by decide +kernel
theorem dX5_ask_13 : decode cX5_ask 13 = .ok (.if_icmp .eq 13, 3) := by decide +kernel
theorem dX5_ask_16 : decode cX5_ask 16 = .ok (.new 60, 3) := by decide +kernel
theorem dX5_ask_19 : decode cX5_ask 19 = .ok (.dup, 1) := by decide +kernel
theorem dX5_ask_20 : decode cX5_ask 20 = .ok (.ldc 142, 2) := by decide +kernel
theorem dX5_ask_22 : decode cX5_ask 22 = .ok (.invokespecial 64, 3) := by decide +kernel
theorem dX5_ask_25 : decode cX5_ask 25 = .ok (.athrow, 1) := by decide +kernel
theorem dX5_ask_26 : decode cX5_ask 26 = .ok (.aload_n 0, 1) := by decide +kernel
theorem dX5_ask_27 : decode cX5_ask 27 = .ok (.getfield 28, 3) := by decide +kernel
theorem dX5_ask_30 : decode cX5_ask 30 = .ok (.iload_n 1, 1) := by decide +kernel
theorem dX5_ask_31 : decode cX5_ask 31 = .ok (.putfield 139, 3) := by decide +kernel
theorem dX5_ask_34 : decode cX5_ask 34 = .ok (.return_, 1) := by decide +kernel
theorem dX5_cancel_0 : decode cX5_cancel 0 = .ok (.aload_n 0, 1) := by decide +kernel
theorem dX5_cancel_1 : decode cX5_cancel 1 = .ok (.getfield 28, 3) := by decide +kernel
theorem dX5_cancel_4 : decode cX5_cancel 4 = .ok (.getfield 139, 3) := by decide +kernel
theorem dX5_cancel_7 : decode cX5_cancel 7 = .ok (.iconst (-1), 1) := by decide +kernel
theorem dX5_cancel_8 : decode cX5_cancel 8 = .ok (.if_icmp .ne 13, 3) := by decide +kernel
theorem dX5_cancel_11 : decode cX5_cancel 11 = .ok (.new 60, 3) := by decide +kernel
theorem dX5_cancel_14 : decode cX5_cancel 14 = .ok (.dup, 1) := by decide +kernel
theorem dX5_cancel_15 : decode cX5_cancel 15 = .ok (.ldc 144, 2) := by decide +kernel
theorem dX5_cancel_17 : decode cX5_cancel 17 = .ok (.invokespecial 64, 3) := by decide +kernel
theorem dX5_cancel_20 : decode cX5_cancel 20 = .ok (.athrow, 1) := by decide +kernel
theorem dX5_cancel_21 : decode cX5_cancel 21 = .ok (.aload_n 0, 1) := by decide +kernel
theorem dX5_cancel_22 : decode cX5_cancel 22 = .ok (.getfield 28, 3) := by decide +kernel
theorem dX5_cancel_25 : decode cX5_cancel 25 = .ok (.getfield 139, 3) := by decide +kernel
theorem dX5_cancel_28 : decode cX5_cancel 28 = .ok (.istore_n 1, 1) := by decide +kernel
theorem dX5_cancel_29 : decode cX5_cancel 29 = .ok (.aload_n 0, 1) := by decide +kernel
theorem dX5_cancel_30 : decode cX5_cancel 30 = .ok (.getfield 28, 3) := by decide +kernel
theorem dX5_cancel_33 : decode cX5_cancel 33 = .ok (.iconst (-1), 1) := by decide +kernel
theorem dX5_cancel_34 : decode cX5_cancel 34 = .ok (.putfield 139, 3) := by decide +kernel
theorem dX5_cancel_37 : decode cX5_cancel 37 = .ok (.iload_n 1, 1) := by decide +kernel
theorem dX5_cancel_38 : decode cX5_cancel 38 = .ok (.ireturn, 1) := by decide +kernel
theorem dX5_breaks_0 : decode cX5_breaks 0 = .ok (.aload_n 0, 1) := by decide +kernel
theorem dX5_breaks_1 : decode cX5_breaks 1 = .ok (.iload_n 1, 1) := by decide +kernel
theorem dX5_breaks_2 : decode cX5_breaks 2 = .ok (.invokevirtual 69, 3) := by decide +kernel
theorem dX5_breaks_5 : decode cX5_breaks 5 = .ok (.iload_n 2, 1) := by decide +kernel
theorem dX5_breaks_6 : decode cX5_breaks 6 = .ok (.iconst 0, 1) := by decide +kernel
theorem dX5_breaks_7 : decode cX5_breaks 7 = .ok (.iconst 2, 1) := by decide +kernel
theorem dX5_breaks_8 : decode cX5_breaks 8 = .ok (.invokestatic 41, 3) := by decide +kernel
theorem dX5_breaks_11 : decode cX5_breaks 11 = .ok (.ifCond .ne 13, 3) := by decide +kernel
theorem dX5_breaks_14 : decode cX5_breaks 14 = .ok (.new 45, 3) := by decide +kernel
theorem dX5_breaks_17 : decode cX5_breaks 17 = .ok (.dup, 1) := by decide +kernel
theorem dX5_breaks_18 : decode cX5_breaks 18 = .ok (.ldc 146, 2) := by decide +kernel
theorem dX5_breaks_20 : decode cX5_breaks 20 = .ok (.invokespecial 49, 3) := by decide +kernel
theorem dX5_breaks_23 : decode cX5_breaks 23 = .ok (.athrow, 1) := by decide +kernel
theorem dX5_breaks_24 : decode cX5_breaks 24 = .ok (.aload_n 0, 1) := by decide +kernel
theorem dX5_breaks_25 : decode cX5_breaks 25 = .ok (.getfield 10, 3) := by decide +kernel
theorem dX5_breaks_28 : decode cX5_breaks 28 = .ok (.getfield 120, 3) := by decide +kernel
theorem dX5_breaks_31 : decode cX5_breaks 31 = .ok (.iload_n 1, 1) := by decide +kernel
theorem dX5_breaks_32 : decode cX5_breaks 32 = .ok (.aaload, 1) := by decide +kernel
theorem dX5_breaks_33 : decode cX5_breaks 33 = .ok (.astore 4, 2) := by decide +kernel
theorem dX5_breaks_35 : decode cX5_breaks 35 = .ok (.aload 4, 2) := by decide +kernel
theorem dX5_breaks_37 : decode cX5_breaks 37 = .ok (.iload_n 2, 1) := by decide +kernel
theorem dX5_breaks_38 : decode cX5_breaks 38 = .ok (.invokevirtual 148, 3) := by decide +kernel
theorem dX5_breaks_41 : decode cX5_breaks 41 = .ok (.istore 5, 2) := by decide +kernel
theorem dX5_breaks_43 : decode cX5_breaks 43 = .ok (.aload 4, 2) := by decide +kernel
theorem dX5_breaks_45 : decode cX5_breaks 45 = .ok (.iload_n 2, 1) := by decide +kernel
theorem dX5_breaks_46 : decode cX5_breaks 46 = .ok (.iload_n 3, 1) := by decide +kernel
theorem dX5_breaks_47 : decode cX5_breaks 47 = .ok (.invokevirtual 151, 3) := by decide +kernel
theorem dX5_breaks_50 : decode cX5_breaks 50 = .ok (.iload 5, 2) := by decide +kernel
theorem dX5_breaks_52 : decode cX5_breaks 52 = .ok (.ireturn, 1) := by decide +kernel
theorem dX5_go_0 : decode cX5_go 0 = .ok (.iload_n 1, 1) := by decide +kernel
theorem dX5_go_1 : decode cX5_go 1 = .ok (.iconst 1, 1) := by decide +kernel
theorem dX5_go_2 : decode cX5_go 2 = .ok (.sipush 1000, 3) := by decide +kernel
theorem dX5_go_5 : decode cX5_go 5 = .ok (.invokestatic 41, 3) := by decide +kernel
theorem dX5_go_8 : decode cX5_go 8 = .ok (.ifCond .ne 13, 3) := by decide +kernel
theorem dX5_go_11 : decode cX5_go 11 = .ok (.new 45, 3) := by decide +kernel
theorem dX5_go_14 : decode cX5_go 14 = .ok (.dup, 1) := by decide +kernel
theorem dX5_go_15 : decode cX5_go 15 = .ok (.ldc 155, 2) := by decide +kernel
theorem dX5_go_17 : decode cX5_go 17 = .ok (.invokespecial 49, 3) := by decide +kernel
theorem dX5_go_20 : decode cX5_go 20 = .ok (.athrow, 1) := by decide +kernel
theorem dX5_go_21 : decode cX5_go 21 = .ok (.aload_n 0, 1) := by decide +kernel
theorem dX5_go_22 : decode cX5_go 22 = .ok (.getfield 28, 3) := by decide +kernel
theorem dX5_go_25 : decode cX5_go 25 = .ok (.getfield 157, 3) := by decide +kernel
theorem dX5_go_28 : decode cX5_go 28 = .ok (.iload_n 1, 1) := by decide +kernel
theorem dX5_go_29 : decode cX5_go 29 = .ok (.iadd, 1) := by decide +kernel
theorem dX5_go_30 : decode cX5_go 30 = .ok (.sipush 5000, 3) := by decide +kernel
theorem dX5_go_33 : decode cX5_go 33 = .ok (.if_icmp .le 13, 3) := by decide +kernel
theorem dX5_go_36 : decode cX5_go 36 = .ok (.new 60, 3) := by decide +kernel
theorem dX5_go_39 : decode cX5_go 39 = .ok (.dup, 1) := by decide +kernel
theorem dX5_go_40 : decode cX5_go 40 = .ok (.ldc 160, 2) := by decide +kernel
theorem dX5_go_42 : decode cX5_go 42 = .ok (.invokespecial 64, 3) := by decide +kernel
theorem dX5_go_45 : decode cX5_go 45 = .ok (.athrow, 1) := by decide +kernel
theorem dX5_go_46 : decode cX5_go 46 = .ok (.aload_n 0, 1) := by decide +kernel
theorem dX5_go_47 : decode cX5_go 47 = .ok (.getfield 28, 3) := by decide +kernel
theorem dX5_go_50 : decode cX5_go 50 = .ok (.getfield 162, 3) := by decide +kernel
theorem dX5_go_53 : decode cX5_go 53 = .ok (.istore_n 2, 1) := by decide +kernel
theorem dX5_go_54 : decode cX5_go 54 = .ok (.iconst 0, 1) := by decide +kernel
theorem dX5_go_55 : decode cX5_go 55 = .ok (.istore_n 3, 1) := by decide +kernel
theorem dX5_go_56 : decode cX5_go 56 = .ok (.iload_n 3, 1) := by decide +kernel
theorem dX5_go_57 : decode cX5_go 57 = .ok (.iload_n 1, 1) := by decide +kernel
theorem dX5_go_58 : decode cX5_go 58 = .ok (.if_icmp .ge 16, 3) := by decide +kernel
theorem dX5_go_61 : decode cX5_go 61 = .ok (.aload_n 0, 1) := by decide +kernel
theorem dX5_go_62 : decode cX5_go 62 = .ok (.getfield 28, 3) := by decide +kernel
theorem dX5_go_65 : decode cX5_go 65 = .ok (.invokevirtual 165, 3) := by decide +kernel
theorem dX5_go_68 : decode cX5_go 68 = .ok (.iinc 3 1, 3) := by decide +kernel
theorem dX5_go_71 : decode cX5_go 71 = .ok (.goto (-15), 3) := by decide +kernel
theorem dX5_go_74 : decode cX5_go 74 = .ok (.aload_n 0, 1) := by decide +kernel
theorem dX5_go_75 : decode cX5_go 75 = .ok (.getfield 28, 3) := by decide +kernel
theorem dX5_go_78 : decode cX5_go 78 = .ok (.getfield 162, 3) := by decide +kernel
theorem dX5_go_81 : decode cX5_go 81 = .ok (.iload_n 2, 1) := by decide +kernel
theorem dX5_go_82 : decode cX5_go 82 = .ok (.isub, 1) := by decide +kernel
theorem dX5_go_83 : decode cX5_go 83 = .ok (.ireturn, 1) := by decide +kernel
theorem dX5_lamp_0 : decode cX5_lamp 0 = .ok (.aload_n 0, 1) := by decide +kernel
theorem dX5_lamp_1 : decode cX5_lamp 1 = .ok (.iload_n 1, 1) := by decide +kernel
theorem dX5_lamp_2 : decode cX5_lamp 2 = .ok (.invokevirtual 69, 3) := by decide +kernel
theorem dX5_lamp_5 : decode cX5_lamp 5 = .ok (.iload_n 2, 1) := by decide +kernel
theorem dX5_lamp_6 : decode cX5_lamp 6 = .ok (.iconst 0, 1) := by decide +kernel
theorem dX5_lamp_7 : decode cX5_lamp 7 = .ok (.aload_n 0, 1) := by decide +kernel
theorem dX5_lamp_8 : decode cX5_lamp 8 = .ok (.getfield 28, 3) := by decide +kernel
theorem dX5_lamp_11 : decode cX5_lamp 11 = .ok (.getfield 157, 3) := by decide +kernel
theorem dX5_lamp_14 : decode cX5_lamp 14 = .ok (.iconst 1, 1) := by decide +kernel
theorem dX5_lamp_15 : decode cX5_lamp 15 = .ok (.isub, 1) := by decide +kernel
theorem dX5_lamp_16 : decode cX5_lamp 16 = .ok (.invokestatic 41, 3) := by decide +kernel
theorem dX5_lamp_19 : decode cX5_lamp 19 = .ok (.ifCond .ne 13, 3) := by decide +kernel
theorem dX5_lamp_22 : decode cX5_lamp 22 = .ok (.new 168, 3) := by decide +kernel
theorem dX5_lamp_25 : decode cX5_lamp 25 = .ok (.dup, 1) := by decide +kernel
theorem dX5_lamp_26 : decode cX5_lamp 26 = .ok (.ldc 170, 2) := by decide +kernel
theorem dX5_lamp_28 : decode cX5_lamp 28 = .ok (.invokespecial 172, 3) := by decide +kernel
theorem dX5_lamp_31 : decode cX5_lamp 31 = .ok (.athrow, 1) := by decide +kernel
theorem dX5_lamp_32 : decode cX5_lamp 32 = .ok (.aload_n 0, 1) := by decide +kernel
theorem dX5_lamp_33 : decode cX5_lamp 33 = .ok (.getfield 19, 3) := by decide +kernel
theorem dX5_lamp_36 : decode cX5_lamp 36 = .ok (.iload_n 1, 1) := by decide +kernel
theorem dX5_lamp_37 : decode cX5_lamp 37 = .ok (.iload_n 2, 1) := by decide +kernel
theorem dX5_lamp_38 : decode cX5_lamp 38 = .ok (.invokevirtual 173, 3) := by decide +kernel
theorem dX5_lamp_41 : decode cX5_lamp 41 = .ok (.ireturn, 1) := by decide +kernel
theorem dX5_ofPhase_0 : decode cX5_ofPhase 0 = .ok (.aload_n 0, 1) := by decide +kernel
theorem dX5_ofPhase_1 : decode cX5_ofPhase 1 = .ok (.iload_n 1, 1) := by decide +kernel
theorem dX5_ofPhase_2 : decode cX5_ofPhase 2 = .ok (.invokevirtual 69, 3) := by decide +kernel
theorem dX5_ofPhase_5 : decode cX5_ofPhase 5 = .ok (.iload_n 2, 1) := by decide +kernel
theorem dX5_ofPhase_6 : decode cX5_ofPhase 6 = .ok (.iconst 0, 1) := by decide +kernel
theorem dX5_ofPhase_7 : decode cX5_ofPhase 7 = .ok (.bipush 6, 2) := by decide +kernel
theorem dX5_ofPhase_9 : decode cX5_ofPhase 9 = .ok (.invokestatic 41, 3) := by decide +kernel
theorem dX5_ofPhase_12 : decode cX5_ofPhase 12 = .ok (.ifCond .ne 13, 3) := by decide +kernel
theorem dX5_ofPhase_15 : decode cX5_ofPhase 15 = .ok (.new 45, 3) := by decide +kernel
theorem dX5_ofPhase_18 : decode cX5_ofPhase 18 = .ok (.dup, 1) := by decide +kernel
theorem dX5_ofPhase_19 : decode cX5_ofPhase 19 = .ok (.ldc 177, 2) := by decide +kernel
theorem dX5_ofPhase_21 : decode cX5_ofPhase 21 = .ok (.invokespecial 49, 3) := by decide +kernel
theorem dX5_ofPhase_24 : decode cX5_ofPhase 24 = .ok (.athrow, 1) := by decide +kernel
theorem dX5_ofPhase_25 : decode cX5_ofPhase 25 = .ok (.aload_n 0, 1) := by decide +kernel
theorem dX5_ofPhase_26 : decode cX5_ofPhase 26 = .ok (.getfield 10, 3) := by decide +kernel
theorem dX5_ofPhase_29 : decode cX5_ofPhase 29 = .ok (.getfield 120, 3) := by decide +kernel
theorem dX5_ofPhase_32 : decode cX5_ofPhase 32 = .ok (.iload_n 1, 1) := by decide +kernel
theorem dX5_ofPhase_33 : decode cX5_ofPhase 33 = .ok (.aaload, 1) := by decide +kernel
theorem dX5_ofPhase_34 : decode cX5_ofPhase 34 = .ok (.iload_n 2, 1) := by decide +kernel
theorem dX5_ofPhase_35 : decode cX5_ofPhase 35 = .ok (.invokevirtual 179, 3) := by decide +kernel
theorem dX5_ofPhase_38 : decode cX5_ofPhase 38 = .ok (.ireturn, 1) := by decide +kernel
theorem dX5_of_0 : decode cX5_of 0 = .ok (.iload_n 1, 1) := by decide +kernel
theorem dX5_of_1 : decode cX5_of 1 = .ok (.iconst 0, 1) := by decide +kernel
theorem dX5_of_2 : decode cX5_of 2 = .ok (.iconst 4, 1) := by decide +kernel
theorem dX5_of_3 : decode cX5_of 3 = .ok (.invokestatic 41, 3) := by decide +kernel
theorem dX5_of_6 : decode cX5_of 6 = .ok (.ifCond .ne 13, 3) := by decide +kernel
theorem dX5_of_9 : decode cX5_of 9 = .ok (.new 45, 3) := by decide +kernel
theorem dX5_of_12 : decode cX5_of 12 = .ok (.dup, 1) := by decide +kernel
theorem dX5_of_13 : decode cX5_of 13 = .ok (.ldc 177, 2) := by decide +kernel
theorem dX5_of_15 : decode cX5_of 15 = .ok (.invokespecial 49, 3) := by decide +kernel
theorem dX5_of_18 : decode cX5_of 18 = .ok (.athrow, 1) := by decide +kernel
theorem dX5_of_19 : decode cX5_of 19 = .ok (.aload_n 0, 1) := by decide +kernel
theorem dX5_of_20 : decode cX5_of 20 = .ok (.getfield 28, 3) := by decide +kernel
theorem dX5_of_23 : decode cX5_of 23 = .ok (.iload_n 1, 1) := by decide +kernel
theorem dX5_of_24 : decode cX5_of 24 = .ok (.invokevirtual 182, 3) := by decide +kernel
theorem dX5_of_27 : decode cX5_of 27 = .ok (.ireturn, 1) := by decide +kernel
theorem dX5_delay_0 : decode cX5_delay 0 = .ok (.aload_n 0, 1) := by decide +kernel
theorem dX5_delay_1 : decode cX5_delay 1 = .ok (.getfield 28, 3) := by decide +kernel
theorem dX5_delay_4 : decode cX5_delay 4 = .ok (.getfield 183, 3) := by decide +kernel
theorem dX5_delay_7 : decode cX5_delay 7 = .ok (.lreturn, 1) := by decide +kernel
theorem dX5_delayEach_0 : decode cX5_delayEach 0 = .ok (.aload_n 0, 1) := by decide +kernel
theorem dX5_delayEach_1 : decode cX5_delayEach 1 = .ok (.getfield 28, 3) := by decide +kernel
theorem dX5_delayEach_4 : decode cX5_delayEach 4 = .ok (.getfield 162, 3) := by decide +kernel
theorem dX5_delayEach_7 : decode cX5_delayEach 7 = .ok (.ifCond .ne 5, 3) := by decide +kernel
theorem dX5_delayEach_10 : decode cX5_delayEach 10 = .ok (.fconst 0, 1) := by decide +kernel
theorem dX5_delayEach_11 : decode cX5_delayEach 11 = .ok (.freturn, 1) := by decide +kernel
theorem dX5_delayEach_12 : decode cX5_delayEach 12 = .ok (.aload_n 0, 1) := by decide +kernel
theorem dX5_delayEach_13 : decode cX5_delayEach 13 = .ok (.getfield 28, 3) := by decide +kernel
theorem dX5_delayEach_16 : decode cX5_delayEach 16 = .ok (.getfield 183, 3) := by decide +kernel
theorem dX5_delayEach_19 : decode cX5_delayEach 19 = .ok (.l2f, 1) := by decide +kernel
theorem dX5_delayEach_20 : decode cX5_delayEach 20 = .ok (.aload_n 0, 1) := by decide +kernel
theorem dX5_delayEach_21 : decode cX5_delayEach 21 = .ok (.getfield 28, 3) := by decide +kernel
theorem dX5_delayEach_24 : decode cX5_delayEach 24 = .ok (.getfield 162, 3) := by decide +kernel
theorem dX5_delayEach_27 : decode cX5_delayEach 27 = .ok (.i2f, 1) := by decide +kernel
theorem dX5_delayEach_28 : decode cX5_delayEach 28 = .ok (.fdiv, 1) := by decide +kernel
theorem dX5_delayEach_29 : decode cX5_delayEach 29 = .ok (.freturn, 1) := by decide +kernel
theorem dX5_seen_0 : decode cX5_seen 0 = .ok (.aload_n 0, 1) := by decide +kernel
theorem dX5_seen_1 : decode cX5_seen 1 = .ok (.iload_n 1, 1) := by decide +kernel
theorem dX5_seen_2 : decode cX5_seen 2 = .ok (.invokevirtual 69, 3) := by decide +kernel
theorem dX5_seen_5 : decode cX5_seen 5 = .ok (.aload_n 0, 1) := by decide +kernel
theorem dX5_seen_6 : decode cX5_seen 6 = .ok (.iload_n 2, 1) := by decide +kernel
theorem dX5_seen_7 : decode cX5_seen 7 = .ok (.invokevirtual 69, 3) := by decide +kernel
theorem dX5_seen_10 : decode cX5_seen 10 = .ok (.iload_n 1, 1) := by decide +kernel
theorem dX5_seen_11 : decode cX5_seen 11 = .ok (.iload_n 2, 1) := by decide +kernel
theorem dX5_seen_12 : decode cX5_seen 12 = .ok (.if_icmp .ne 13, 3) := by decide +kernel
theorem dX5_seen_15 : decode cX5_seen 15 = .ok (.new 45, 3) := by decide +kernel
theorem dX5_seen_18 : decode cX5_seen 18 = .ok (.dup, 1) := by decide +kernel
theorem dX5_seen_19 : decode cX5_seen 19 = .ok (.ldc 187, 2) := by decide +kernel
theorem dX5_seen_21 : decode cX5_seen 21 = .ok (.invokespecial 49, 3) := by decide +kernel
theorem dX5_seen_24 : decode cX5_seen 24 = .ok (.athrow, 1) := by decide +kernel
theorem dX5_seen_25 : decode cX5_seen 25 = .ok (.aload_n 0, 1) := by decide +kernel
theorem dX5_seen_26 : decode cX5_seen 26 = .ok (.getfield 19, 3) := by decide +kernel
theorem dX5_seen_29 : decode cX5_seen 29 = .ok (.iload_n 1, 1) := by decide +kernel
theorem dX5_seen_30 : decode cX5_seen 30 = .ok (.iload_n 2, 1) := by decide +kernel
theorem dX5_seen_31 : decode cX5_seen 31 = .ok (.aload_n 0, 1) := by decide +kernel
theorem dX5_seen_32 : decode cX5_seen 32 = .ok (.getfield 28, 3) := by decide +kernel
theorem dX5_seen_35 : decode cX5_seen 35 = .ok (.getfield 157, 3) := by decide +kernel
theorem dX5_seen_38 : decode cX5_seen 38 = .ok (.invokevirtual 189, 3) := by decide +kernel
theorem dX5_seen_41 : decode cX5_seen 41 = .ok (.ireturn, 1) := by decide +kernel
theorem dX5_change_0 : decode cX5_change 0 = .ok (.aload_n 0, 1) := by decide +kernel
theorem dX5_change_1 : decode cX5_change 1 = .ok (.iload_n 1, 1) := by decide +kernel
theorem dX5_change_2 : decode cX5_change 2 = .ok (.invokevirtual 100, 3) := by decide +kernel
theorem dX5_change_5 : decode cX5_change 5 = .ok (.aload_n 0, 1) := by decide +kernel
theorem dX5_change_6 : decode cX5_change 6 = .ok (.iload_n 2, 1) := by decide +kernel
theorem dX5_change_7 : decode cX5_change 7 = .ok (.invokevirtual 100, 3) := by decide +kernel
theorem dX5_change_10 : decode cX5_change 10 = .ok (.aload_n 0, 1) := by decide +kernel
theorem dX5_change_11 : decode cX5_change 11 = .ok (.getfield 10, 3) := by decide +kernel
theorem dX5_change_14 : decode cX5_change 14 = .ok (.iload_n 1, 1) := by decide +kernel
theorem dX5_change_15 : decode cX5_change 15 = .ok (.iload_n 2, 1) := by decide +kernel
theorem dX5_change_16 : decode cX5_change 16 = .ok (.invokevirtual 192, 3) := by decide +kernel
theorem dX5_change_19 : decode cX5_change 19 = .ok (.ireturn, 1) := by decide +kernel
theorem dX5_round_0 : decode cX5_round 0 = .ok (.aload_n 0, 1) := by decide +kernel
theorem dX5_round_1 : decode cX5_round 1 = .ok (.getfield 37, 3) := by decide +kernel
theorem dX5_round_4 : decode cX5_round 4 = .ok (.invokevirtual 195, 3) := by decide +kernel
theorem dX5_round_7 : decode cX5_round 7 = .ok (.ireturn, 1) := by decide +kernel
theorem dX5_roundAnew_0 : decode cX5_roundAnew 0 = .ok (.aload_n 0, 1) := by decide +kernel
theorem dX5_roundAnew_1 : decode cX5_roundAnew 1 = .ok (.getfield 37, 3) := by decide +kernel
theorem dX5_roundAnew_4 : decode cX5_roundAnew 4 = .ok (.invokevirtual 199, 3) := by decide +kernel
theorem dX5_roundAnew_7 : decode cX5_roundAnew 7 = .ok (.ireturn, 1) := by decide +kernel
theorem dX5_inRound_0 : decode cX5_inRound 0 = .ok (.iload_n 1, 1) := by decide +kernel
theorem dX5_inRound_1 : decode cX5_inRound 1 = .ok (.iconst 0, 1) := by decide +kernel
theorem dX5_inRound_2 : decode cX5_inRound 2 = .ok (.aload_n 0, 1) := by decide +kernel
theorem dX5_inRound_3 : decode cX5_inRound 3 = .ok (.getfield 10, 3) := by decide +kernel
theorem dX5_inRound_6 : decode cX5_inRound 6 = .ok (.getfield 91, 3) := by decide +kernel
theorem dX5_inRound_9 : decode cX5_inRound 9 = .ok (.iconst 1, 1) := by decide +kernel
theorem dX5_inRound_10 : decode cX5_inRound 10 = .ok (.isub, 1) := by decide +kernel
theorem dX5_inRound_11 : decode cX5_inRound 11 = .ok (.invokestatic 41, 3) := by decide +kernel
theorem dX5_inRound_14 : decode cX5_inRound 14 = .ok (.ifCond .ne 13, 3) := by decide +kernel
theorem dX5_inRound_17 : decode cX5_inRound 17 = .ok (.new 168, 3) := by decide +kernel
theorem dX5_inRound_20 : decode cX5_inRound 20 = .ok (.dup, 1) := by decide +kernel
theorem dX5_inRound_21 : decode cX5_inRound 21 = .ok (.ldc 202, 2) := by decide +kernel
theorem dX5_inRound_23 : decode cX5_inRound 23 = .ok (.invokespecial 172, 3) := by decide +kernel
theorem dX5_inRound_26 : decode cX5_inRound 26 = .ok (.athrow, 1) := by decide +kernel
theorem dX5_inRound_27 : decode cX5_inRound 27 = .ok (.aload_n 0, 1) := by decide +kernel
theorem dX5_inRound_28 : decode cX5_inRound 28 = .ok (.getfield 37, 3) := by decide +kernel
theorem dX5_inRound_31 : decode cX5_inRound 31 = .ok (.iload_n 1, 1) := by decide +kernel
theorem dX5_inRound_32 : decode cX5_inRound 32 = .ok (.invokevirtual 204, 3) := by decide +kernel
theorem dX5_inRound_35 : decode cX5_inRound 35 = .ok (.ireturn, 1) := by decide +kernel
theorem dX5_isWithin_0 : decode cX5_isWithin 0 = .ok (.iload_n 1, 1) := by decide +kernel
theorem dX5_isWithin_1 : decode cX5_isWithin 1 = .ok (.iload_n 0, 1) := by decide +kernel
theorem dX5_isWithin_2 : decode cX5_isWithin 2 = .ok (.if_icmp .gt 12, 3) := by decide +kernel
theorem dX5_isWithin_5 : decode cX5_isWithin 5 = .ok (.iload_n 0, 1) := by decide +kernel
theorem dX5_isWithin_6 : decode cX5_isWithin 6 = .ok (.iload_n 2, 1) := by decide +kernel
theorem dX5_isWithin_7 : decode cX5_isWithin 7 = .ok (.if_icmp .gt 7, 3) := by decide +kernel
theorem dX5_isWithin_10 : decode cX5_isWithin 10 = .ok (.iconst 1, 1) := by decide +kernel
theorem dX5_isWithin_11 : decode cX5_isWithin 11 = .ok (.goto 4, 3) := by decide +kernel
theorem dX5_isWithin_14 : decode cX5_isWithin 14 = .ok (.iconst 0, 1) := by decide +kernel
theorem dX5_isWithin_15 : decode cX5_isWithin 15 = .ok (.ireturn, 1) := by decide +kernel
theorem dX5_has_0 : decode cX5_has 0 = .ok (.iload_n 0, 1) := by decide +kernel
theorem dX5_has_1 : decode cX5_has 1 = .ok (.iload_n 1, 1) := by decide +kernel
theorem dX5_has_2 : decode cX5_has 2 = .ok (.ishr, 1) := by decide +kernel
theorem dX5_has_3 : decode cX5_has 3 = .ok (.iconst 1, 1) := by decide +kernel
theorem dX5_has_4 : decode cX5_has 4 = .ok (.iand, 1) := by decide +kernel
theorem dX5_has_5 : decode cX5_has 5 = .ok (.ifCond .eq 7, 3) := by decide +kernel
theorem dX5_has_8 : decode cX5_has 8 = .ok (.iconst 1, 1) := by decide +kernel
theorem dX5_has_9 : decode cX5_has 9 = .ok (.goto 4, 3) := by decide +kernel
theorem dX5_has_12 : decode cX5_has 12 = .ok (.iconst 0, 1) := by decide +kernel
theorem dX5_has_13 : decode cX5_has 13 = .ok (.ireturn, 1) := by decide +kernel
theorem dX5_needPhase_0 : decode cX5_needPhase 0 = .ok (.iload_n 1, 1) := by decide +kernel
theorem dX5_needPhase_1 : decode cX5_needPhase 1 = .ok (.iconst 0, 1) := by decide +kernel
theorem dX5_needPhase_2 : decode cX5_needPhase 2 = .ok (.aload_n 0, 1) := by decide +kernel
theorem dX5_needPhase_3 : decode cX5_needPhase 3 = .ok (.getfield 10, 3) := by decide +kernel
theorem dX5_needPhase_6 : decode cX5_needPhase 6 = .ok (.getfield 56, 3) := by decide +kernel
theorem dX5_needPhase_9 : decode cX5_needPhase 9 = .ok (.iconst 1, 1) := by decide +kernel
theorem dX5_needPhase_10 : decode cX5_needPhase 10 = .ok (.isub, 1) := by decide +kernel
theorem dX5_needPhase_11 : decode cX5_needPhase 11 = .ok (.invokestatic 41, 3) := by decide +kernel
theorem dX5_needPhase_14 : decode cX5_needPhase 14 = .ok (.ifCond .ne 13, 3) := by decide +kernel
theorem dX5_needPhase_17 : decode cX5_needPhase 17 = .ok (.new 168, 3) := by decide +kernel
theorem dX5_needPhase_20 : decode cX5_needPhase 20 = .ok (.dup, 1) := by decide +kernel
theorem dX5_needPhase_21 : decode cX5_needPhase 21 = .ok (.ldc 207, 2) := by decide +kernel
theorem dX5_needPhase_23 : decode cX5_needPhase 23 = .ok (.invokespecial 172, 3) := by decide +kernel
theorem dX5_needPhase_26 : decode cX5_needPhase 26 = .ok (.athrow, 1) := by decide +kernel
theorem dX5_needPhase_27 : decode cX5_needPhase 27 = .ok (.return_, 1) := by decide +kernel
theorem dX5_needStage_0 : decode cX5_needStage 0 = .ok (.iload_n 1, 1) := by decide +kernel
theorem dX5_needStage_1 : decode cX5_needStage 1 = .ok (.iconst 0, 1) := by decide +kernel
theorem dX5_needStage_2 : decode cX5_needStage 2 = .ok (.aload_n 0, 1) := by decide +kernel
theorem dX5_needStage_3 : decode cX5_needStage 3 = .ok (.getfield 10, 3) := by decide +kernel
theorem dX5_needStage_6 : decode cX5_needStage 6 = .ok (.getfield 91, 3) := by decide +kernel
theorem dX5_needStage_9 : decode cX5_needStage 9 = .ok (.iconst 1, 1) := by decide +kernel
theorem dX5_needStage_10 : decode cX5_needStage 10 = .ok (.isub, 1) := by decide +kernel
theorem dX5_needStage_11 : decode cX5_needStage 11 = .ok (.invokestatic 41, 3) := by decide +kernel
theorem dX5_needStage_14 : decode cX5_needStage 14 = .ok (.ifCond .ne 13, 3) := by decide +kernel
theorem dX5_needStage_17 : decode cX5_needStage 17 = .ok (.new 168, 3) := by decide +kernel
theorem dX5_needStage_20 : decode cX5_needStage 20 = .ok (.dup, 1) := by decide +kernel
theorem dX5_needStage_21 : decode cX5_needStage 21 = .ok (.ldc 209, 2) := by decide +kernel
theorem dX5_needStage_23 : decode cX5_needStage 23 = .ok (.invokespecial 172, 3) := by decide +kernel
theorem dX5_needStage_26 : decode cX5_needStage 26 = .ok (.athrow, 1) := by decide +kernel
theorem dX5_needStage_27 : decode cX5_needStage 27 = .ok (.return_, 1) := by decide +kernel
theorem dJ9_max_7cf53_0 : decode cJ9_max_7cf53 0 = .ok (.iload_n 0, 1) := by decide +kernel
theorem dJ9_max_7cf53_1 : decode cJ9_max_7cf53 1 = .ok (.iload_n 1, 1) := by decide +kernel
theorem dJ9_max_7cf53_2 : decode cJ9_max_7cf53 2 = .ok (.if_icmp .lt 7, 3) := by decide +kernel
theorem dJ9_max_7cf53_5 : decode cJ9_max_7cf53 5 = .ok (.iload_n 0, 1) := by decide +kernel
theorem dJ9_max_7cf53_6 : decode cJ9_max_7cf53 6 = .ok (.goto 4, 3) := by decide +kernel
theorem dJ9_max_7cf53_9 : decode cJ9_max_7cf53 9 = .ok (.iload_n 1, 1) := by decide +kernel
theorem dJ9_max_7cf53_10 : decode cJ9_max_7cf53 10 = .ok (.ireturn, 1) := by decide +kernel
theorem dJ9_min_7cf53_0 : decode cJ9_min_7cf53 0 = .ok (.iload_n 0, 1) := by decide +kernel
theorem dJ9_min_7cf53_1 : decode cJ9_min_7cf53 1 = .ok (.iload_n 1, 1) := by decide +kernel
theorem dJ9_min_7cf53_2 : decode cJ9_min_7cf53 2 = .ok (.if_icmp .gt 7, 3) := by decide +kernel
theorem dJ9_min_7cf53_5 : decode cJ9_min_7cf53 5 = .ok (.iload_n 0, 1) := by decide +kernel
theorem dJ9_min_7cf53_6 : decode cJ9_min_7cf53 6 = .ok (.goto 4, 3) := by decide +kernel
theorem dJ9_min_7cf53_9 : decode cJ9_min_7cf53 9 = .ok (.iload_n 1, 1) := by decide +kernel
theorem dJ9_min_7cf53_10 : decode cJ9_min_7cf53 10 = .ok (.ireturn, 1) := by decide +kernel
