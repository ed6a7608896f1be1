theorem dL_cell_0 : decode cL_cell 0 = .ok (.iload_n 1, 1) := by decide +kernel
theorem dL_cell_1 : decode cL_cell 1 = .ok (.aload_n 0, 1) := by decide +kernel
theorem dL_cell_2 : decode cL_cell 2 = .ok (.arraylength, 1) := by decide +kernel
theorem dL_cell_3 : decode cL_cell 3 = .ok (.if_icmp .ge 9, 3) := by decide +kernel
theorem dL_cell_6 : decode cL_cell 6 = .ok (.aload_n 0, 1) := by decide +kernel
theorem dL_cell_7 : decode cL_cell 7 = .ok (.iload_n 1, 1) := by decide +kernel
theorem dL_cell_8 : decode cL_cell 8 = .ok (.iaload, 1) := by decide +kernel
theorem dL_cell_9 : decode cL_cell 9 = .ok (.goto 18, 3) := by decide +kernel
theorem dL_cell_12 : decode cL_cell 12 = .ok (.sipush 7919, 3) := by decide +kernel
theorem dL_cell_15 : decode cL_cell 15 = .ok (.iload_n 1, 1) := by decide +kernel
theorem dL_cell_16 : decode cL_cell 16 = .ok (.sipush 3023, 3) := by decide +kernel
theorem dL_cell_19 : decode cL_cell 19 = .ok (.iadd, 1) := by decide +kernel
theorem dL_cell_20 : decode cL_cell 20 = .ok (.imul, 1) := by decide +kernel
theorem dL_cell_21 : decode cL_cell 21 = .ok (.iload_n 1, 1) := by decide +kernel
theorem dL_cell_22 : decode cL_cell 22 = .ok (.sipush 709, 3) := by decide +kernel
theorem dL_cell_25 : decode cL_cell 25 = .ok (.iadd, 1) := by decide +kernel
theorem dL_cell_26 : decode cL_cell 26 = .ok (.imul, 1) := by decide +kernel
theorem dL_cell_27 : decode cL_cell 27 = .ok (.ireturn, 1) := by decide +kernel
theorem dL_low_0 : decode cL_low 0 = .ok (.iload_n 0, 1) := by decide +kernel
theorem dL_low_1 : decode cL_low 1 = .ok (.ldc 7, 2) := by decide +kernel
theorem dL_low_3 : decode cL_low 3 = .ok (.iand, 1) := by decide +kernel
theorem dL_low_4 : decode cL_low 4 = .ok (.iload_n 1, 1) := by decide +kernel
theorem dL_low_5 : decode cL_low 5 = .ok (.irem, 1) := by decide +kernel
theorem dL_low_6 : decode cL_low 6 = .ok (.ireturn, 1) := by decide +kernel
theorem dL_phase_0 : decode cL_phase 0 = .ok (.aload_n 0, 1) := by decide +kernel
theorem dL_phase_1 : decode cL_phase 1 = .ok (.iload_n 1, 1) := by decide +kernel
theorem dL_phase_2 : decode cL_phase 2 = .ok (.iload_n 2, 1) := by decide +kernel
theorem dL_phase_3 : decode cL_phase 3 = .ok (.iload_n 3, 1) := by decide +kernel
theorem dL_phase_4 : decode cL_phase 4 = .ok (.invokevirtual 8, 3) := by decide +kernel
theorem dL_phase_7 : decode cL_phase 7 = .ok (.ireturn, 1) := by decide +kernel
theorem dL_phase_8 : decode cL_phase 8 = .ok (.astore 4, 2) := by decide +kernel
theorem dL_phase_10 : decode cL_phase 10 = .ok (.ldc 16, 2) := by decide +kernel
theorem dL_phase_12 : decode cL_phase 12 = .ok (.ireturn, 1) := by decide +kernel
theorem dL_phase_13 : decode cL_phase 13 = .ok (.astore 4, 2) := by decide +kernel
theorem dL_phase_15 : decode cL_phase 15 = .ok (.ldc 16, 2) := by decide +kernel
theorem dL_phase_17 : decode cL_phase 17 = .ok (.ireturn, 1) := by decide +kernel
theorem dL_meet_0 : decode cL_meet 0 = .ok (.aload_n 0, 1) := by decide +kernel
theorem dL_meet_1 : decode cL_meet 1 = .ok (.iload_n 1, 1) := by decide +kernel
theorem dL_meet_2 : decode cL_meet 2 = .ok (.iload_n 2, 1) := by decide +kernel
theorem dL_meet_3 : decode cL_meet 3 = .ok (.iload_n 3, 1) := by decide +kernel
theorem dL_meet_4 : decode cL_meet 4 = .ok (.iload 4, 2) := by decide +kernel
theorem dL_meet_6 : decode cL_meet 6 = .ok (.invokevirtual 19, 3) := by decide +kernel
theorem dL_meet_9 : decode cL_meet 9 = .ok (.iconst 0, 1) := by decide +kernel
theorem dL_meet_10 : decode cL_meet 10 = .ok (.ireturn, 1) := by decide +kernel
theorem dL_meet_11 : decode cL_meet 11 = .ok (.astore 5, 2) := by decide +kernel
theorem dL_meet_13 : decode cL_meet 13 = .ok (.ldc 16, 2) := by decide +kernel
theorem dL_meet_15 : decode cL_meet 15 = .ok (.ireturn, 1) := by decide +kernel
theorem dL_meet_16 : decode cL_meet 16 = .ok (.astore 5, 2) := by decide +kernel
theorem dL_meet_18 : decode cL_meet 18 = .ok (.ldc 16, 2) := by decide +kernel
theorem dL_meet_20 : decode cL_meet 20 = .ok (.ireturn, 1) := by decide +kernel
theorem dL_meet_21 : decode cL_meet 21 = .ok (.astore 5, 2) := by decide +kernel
theorem dL_meet_23 : decode cL_meet 23 = .ok (.ldc 16, 2) := by decide +kernel
theorem dL_meet_25 : decode cL_meet 25 = .ok (.ireturn, 1) := by decide +kernel
theorem dL_stage_0 : decode cL_stage 0 = .ok (.aload_n 0, 1) := by decide +kernel
theorem dL_stage_1 : decode cL_stage 1 = .ok (.iload_n 1, 1) := by decide +kernel
theorem dL_stage_2 : decode cL_stage 2 = .ok (.invokevirtual 25, 3) := by decide +kernel
theorem dL_stage_5 : decode cL_stage 5 = .ok (.ireturn, 1) := by decide +kernel
theorem dL_stage_6 : decode cL_stage 6 = .ok (.astore_n 2, 1) := by decide +kernel
theorem dL_stage_7 : decode cL_stage 7 = .ok (.ldc 16, 2) := by decide +kernel
theorem dL_stage_9 : decode cL_stage 9 = .ok (.ireturn, 1) := by decide +kernel
theorem dL_stage_10 : decode cL_stage 10 = .ok (.astore_n 2, 1) := by decide +kernel
theorem dL_stage_11 : decode cL_stage 11 = .ok (.ldc 16, 2) := by decide +kernel
theorem dL_stage_13 : decode cL_stage 13 = .ok (.ireturn, 1) := by decide +kernel
theorem dL_start_0 : decode cL_start 0 = .ok (.aload_n 0, 1) := by decide +kernel
theorem dL_start_1 : decode cL_start 1 = .ok (.iload_n 1, 1) := by decide +kernel
theorem dL_start_2 : decode cL_start 2 = .ok (.invokevirtual 29, 3) := by decide +kernel
theorem dL_start_5 : decode cL_start 5 = .ok (.iconst 0, 1) := by decide +kernel
theorem dL_start_6 : decode cL_start 6 = .ok (.ireturn, 1) := by decide +kernel
theorem dL_start_7 : decode cL_start 7 = .ok (.astore_n 2, 1) := by decide +kernel
theorem dL_start_8 : decode cL_start 8 = .ok (.ldc 16, 2) := by decide +kernel
theorem dL_start_10 : decode cL_start 10 = .ok (.ireturn, 1) := by decide +kernel
theorem dL_start_11 : decode cL_start 11 = .ok (.astore_n 2, 1) := by decide +kernel
theorem dL_start_12 : decode cL_start 12 = .ok (.ldc 16, 2) := by decide +kernel
theorem dL_start_14 : decode cL_start 14 = .ok (.ireturn, 1) := by decide +kernel
theorem dL_stop_0 : decode cL_stop 0 = .ok (.aload_n 0, 1) := by decide +kernel
theorem dL_stop_1 : decode cL_stop 1 = .ok (.invokevirtual 33, 3) := by decide +kernel
theorem dL_stop_4 : decode cL_stop 4 = .ok (.iconst 0, 1) := by decide +kernel
theorem dL_stop_5 : decode cL_stop 5 = .ok (.ireturn, 1) := by decide +kernel
theorem dL_stop_6 : decode cL_stop 6 = .ok (.astore_n 1, 1) := by decide +kernel
theorem dL_stop_7 : decode cL_stop 7 = .ok (.ldc 16, 2) := by decide +kernel
theorem dL_stop_9 : decode cL_stop 9 = .ok (.ireturn, 1) := by decide +kernel
theorem dL_press_0 : decode cL_press 0 = .ok (.aload_n 0, 1) := by decide +kernel
theorem dL_press_1 : decode cL_press 1 = .ok (.iload_n 1, 1) := by decide +kernel
theorem dL_press_2 : decode cL_press 2 = .ok (.invokevirtual 36, 3) := by decide +kernel
theorem dL_press_5 : decode cL_press 5 = .ok (.ifCond .eq 7, 3) := by decide +kernel
theorem dL_press_8 : decode cL_press 8 = .ok (.iconst 1, 1) := by decide +kernel
theorem dL_press_9 : decode cL_press 9 = .ok (.goto 4, 3) := by decide +kernel
theorem dL_press_12 : decode cL_press 12 = .ok (.iconst 0, 1) := by decide +kernel
theorem dL_press_13 : decode cL_press 13 = .ok (.ireturn, 1) := by decide +kernel
theorem dL_press_14 : decode cL_press 14 = .ok (.astore_n 2, 1) := by decide +kernel
theorem dL_press_15 : decode cL_press 15 = .ok (.ldc 16, 2) := by decide +kernel
theorem dL_press_17 : decode cL_press 17 = .ok (.ireturn, 1) := by decide +kernel
theorem dL_arrive_0 : decode cL_arrive 0 = .ok (.aload_n 0, 1) := by decide +kernel
theorem dL_arrive_1 : decode cL_arrive 1 = .ok (.iload_n 1, 1) := by decide +kernel
theorem dL_arrive_2 : decode cL_arrive 2 = .ok (.iload_n 2, 1) := by decide +kernel
theorem dL_arrive_3 : decode cL_arrive 3 = .ok (.invokevirtual 40, 3) := by decide +kernel
theorem dL_arrive_6 : decode cL_arrive 6 = .ok (.ireturn, 1) := by decide +kernel
theorem dL_arrive_7 : decode cL_arrive 7 = .ok (.astore_n 3, 1) := by decide +kernel
theorem dL_arrive_8 : decode cL_arrive 8 = .ok (.ldc 16, 2) := by decide +kernel
theorem dL_arrive_10 : decode cL_arrive 10 = .ok (.ireturn, 1) := by decide +kernel
theorem dL_arrive_11 : decode cL_arrive 11 = .ok (.astore_n 3, 1) := by decide +kernel
theorem dL_arrive_12 : decode cL_arrive 12 = .ok (.ldc 16, 2) := by decide +kernel
theorem dL_arrive_14 : decode cL_arrive 14 = .ok (.ireturn, 1) := by decide +kernel
theorem dL_arrive_15 : decode cL_arrive 15 = .ok (.astore_n 3, 1) := by decide +kernel
theorem dL_arrive_16 : decode cL_arrive 16 = .ok (.ldc 16, 2) := by decide +kernel
theorem dL_arrive_18 : decode cL_arrive 18 = .ok (.ireturn, 1) := by decide +kernel
theorem dL_ask_0 : decode cL_ask 0 = .ok (.aload_n 0, 1) := by decide +kernel
theorem dL_ask_1 : decode cL_ask 1 = .ok (.iload_n 1, 1) := by decide +kernel
theorem dL_ask_2 : decode cL_ask 2 = .ok (.invokevirtual 44, 3) := by decide +kernel
theorem dL_ask_5 : decode cL_ask 5 = .ok (.iconst 0, 1) := by decide +kernel
theorem dL_ask_6 : decode cL_ask 6 = .ok (.ireturn, 1) := by decide +kernel
theorem dL_ask_7 : decode cL_ask 7 = .ok (.astore_n 2, 1) := by decide +kernel
theorem dL_ask_8 : decode cL_ask 8 = .ok (.ldc 16, 2) := by decide +kernel
theorem dL_ask_10 : decode cL_ask 10 = .ok (.ireturn, 1) := by decide +kernel
theorem dL_ask_11 : decode cL_ask 11 = .ok (.astore_n 2, 1) := by decide +kernel
theorem dL_ask_12 : decode cL_ask 12 = .ok (.ldc 16, 2) := by decide +kernel
theorem dL_ask_14 : decode cL_ask 14 = .ok (.ireturn, 1) := by decide +kernel
theorem dL_cancel_0 : decode cL_cancel 0 = .ok (.aload_n 0, 1) := by decide +kernel
theorem dL_cancel_1 : decode cL_cancel 1 = .ok (.invokevirtual 47, 3) := by decide +kernel
theorem dL_cancel_4 : decode cL_cancel 4 = .ok (.ireturn, 1) := by decide +kernel
theorem dL_cancel_5 : decode cL_cancel 5 = .ok (.astore_n 1, 1) := by decide +kernel
theorem dL_cancel_6 : decode cL_cancel 6 = .ok (.ldc 16, 2) := by decide +kernel
theorem dL_cancel_8 : decode cL_cancel 8 = .ok (.ireturn, 1) := by decide +kernel
theorem dL_breaks_0 : decode cL_breaks 0 = .ok (.aload_n 0, 1) := by decide +kernel
theorem dL_breaks_1 : decode cL_breaks 1 = .ok (.iload_n 1, 1) := by decide +kernel
theorem dL_breaks_2 : decode cL_breaks 2 = .ok (.iload_n 2, 1) := by decide +kernel
theorem dL_breaks_3 : decode cL_breaks 3 = .ok (.iload_n 3, 1) := by decide +kernel
theorem dL_breaks_4 : decode cL_breaks 4 = .ok (.invokevirtual 51, 3) := by decide +kernel
theorem dL_breaks_7 : decode cL_breaks 7 = .ok (.ifCond .eq 7, 3) := by decide +kernel
theorem dL_breaks_10 : decode cL_breaks 10 = .ok (.iconst 1, 1) := by decide +kernel
theorem dL_breaks_11 : decode cL_breaks 11 = .ok (.goto 4, 3) := by decide +kernel
theorem dL_breaks_14 : decode cL_breaks 14 = .ok (.iconst 0, 1) := by decide +kernel
theorem dL_breaks_15 : decode cL_breaks 15 = .ok (.ireturn, 1) := by decide +kernel
theorem dL_breaks_16 : decode cL_breaks 16 = .ok (.astore 4, 2) := by decide +kernel
theorem dL_breaks_18 : decode cL_breaks 18 = .ok (.ldc 16, 2) := by decide +kernel
theorem dL_breaks_20 : decode cL_breaks 20 = .ok (.ireturn, 1) := by decide +kernel
theorem dL_breaks_21 : decode cL_breaks 21 = .ok (.astore 4, 2) := by decide +kernel
theorem dL_breaks_23 : decode cL_breaks 23 = .ok (.ldc 16, 2) := by decide +kernel
theorem dL_breaks_25 : decode cL_breaks 25 = .ok (.ireturn, 1) := by decide +kernel
theorem dL_go_0 : decode cL_go 0 = .ok (.aload_n 0, 1) := by decide +kernel
theorem dL_go_1 : decode cL_go 1 = .ok (.iload_n 1, 1) := by decide +kernel
theorem dL_go_2 : decode cL_go 2 = .ok (.invokevirtual 55, 3) := by decide +kernel
theorem dL_go_5 : decode cL_go 5 = .ok (.ireturn, 1) := by decide +kernel
theorem dL_go_6 : decode cL_go 6 = .ok (.astore_n 2, 1) := by decide +kernel
theorem dL_go_7 : decode cL_go 7 = .ok (.ldc 16, 2) := by decide +kernel
theorem dL_go_9 : decode cL_go 9 = .ok (.ireturn, 1) := by decide +kernel
theorem dL_go_10 : decode cL_go 10 = .ok (.astore_n 2, 1) := by decide +kernel
theorem dL_go_11 : decode cL_go 11 = .ok (.ldc 16, 2) := by decide +kernel
theorem dL_go_13 : decode cL_go 13 = .ok (.ireturn, 1) := by decide +kernel
theorem dL_lamp_0 : decode cL_lamp 0 = .ok (.aload_n 0, 1) := by decide +kernel
theorem dL_lamp_1 : decode cL_lamp 1 = .ok (.iload_n 1, 1) := by decide +kernel
theorem dL_lamp_2 : decode cL_lamp 2 = .ok (.iload_n 2, 1) := by decide +kernel
theorem dL_lamp_3 : decode cL_lamp 3 = .ok (.invokevirtual 58, 3) := by decide +kernel
theorem dL_lamp_6 : decode cL_lamp 6 = .ok (.ireturn, 1) := by decide +kernel
theorem dL_lamp_7 : decode cL_lamp 7 = .ok (.astore_n 3, 1) := by decide +kernel
theorem dL_lamp_8 : decode cL_lamp 8 = .ok (.ldc 16, 2) := by decide +kernel
theorem dL_lamp_10 : decode cL_lamp 10 = .ok (.ireturn, 1) := by decide +kernel
theorem dL_ofPhase_0 : decode cL_ofPhase 0 = .ok (.aload_n 0, 1) := by decide +kernel
theorem dL_ofPhase_1 : decode cL_ofPhase 1 = .ok (.iload_n 1, 1) := by decide +kernel
theorem dL_ofPhase_2 : decode cL_ofPhase 2 = .ok (.iload_n 2, 1) := by decide +kernel
theorem dL_ofPhase_3 : decode cL_ofPhase 3 = .ok (.invokevirtual 61, 3) := by decide +kernel
theorem dL_ofPhase_6 : decode cL_ofPhase 6 = .ok (.ireturn, 1) := by decide +kernel
theorem dL_ofPhase_7 : decode cL_ofPhase 7 = .ok (.astore_n 3, 1) := by decide +kernel
theorem dL_ofPhase_8 : decode cL_ofPhase 8 = .ok (.ldc 16, 2) := by decide +kernel
theorem dL_ofPhase_10 : decode cL_ofPhase 10 = .ok (.ireturn, 1) := by decide +kernel
theorem dL_ofPhase_11 : decode cL_ofPhase 11 = .ok (.astore_n 3, 1) := by decide +kernel
theorem dL_ofPhase_12 : decode cL_ofPhase 12 = .ok (.ldc 16, 2) := by decide +kernel
theorem dL_ofPhase_14 : decode cL_ofPhase 14 = .ok (.ireturn, 1) := by decide +kernel
theorem dL_of_0 : decode cL_of 0 = .ok (.aload_n 0, 1) := by decide +kernel
theorem dL_of_1 : decode cL_of 1 = .ok (.iload_n 1, 1) := by decide +kernel
theorem dL_of_2 : decode cL_of 2 = .ok (.invokevirtual 64, 3) := by decide +kernel
theorem dL_of_5 : decode cL_of 5 = .ok (.ireturn, 1) := by decide +kernel
theorem dL_of_6 : decode cL_of 6 = .ok (.astore_n 2, 1) := by decide +kernel
theorem dL_of_7 : decode cL_of 7 = .ok (.ldc 16, 2) := by decide +kernel
theorem dL_of_9 : decode cL_of 9 = .ok (.ireturn, 1) := by decide +kernel
theorem dL_seen_0 : decode cL_seen 0 = .ok (.aload_n 0, 1) := by decide +kernel
theorem dL_seen_1 : decode cL_seen 1 = .ok (.iload_n 1, 1) := by decide +kernel
theorem dL_seen_2 : decode cL_seen 2 = .ok (.iload_n 2, 1) := by decide +kernel
theorem dL_seen_3 : decode cL_seen 3 = .ok (.invokevirtual 67, 3) := by decide +kernel
theorem dL_seen_6 : decode cL_seen 6 = .ok (.ireturn, 1) := by decide +kernel
theorem dL_seen_7 : decode cL_seen 7 = .ok (.astore_n 3, 1) := by decide +kernel
theorem dL_seen_8 : decode cL_seen 8 = .ok (.ldc 16, 2) := by decide +kernel
theorem dL_seen_10 : decode cL_seen 10 = .ok (.ireturn, 1) := by decide +kernel
theorem dL_seen_11 : decode cL_seen 11 = .ok (.astore_n 3, 1) := by decide +kernel
theorem dL_seen_12 : decode cL_seen 12 = .ok (.ldc 16, 2) := by decide +kernel
theorem dL_seen_14 : decode cL_seen 14 = .ok (.ireturn, 1) := by decide +kernel
theorem dL_change_0 : decode cL_change 0 = .ok (.aload_n 0, 1) := by decide +kernel
theorem dL_change_1 : decode cL_change 1 = .ok (.iload_n 1, 1) := by decide +kernel
theorem dL_change_2 : decode cL_change 2 = .ok (.iload_n 2, 1) := by decide +kernel
theorem dL_change_3 : decode cL_change 3 = .ok (.invokevirtual 70, 3) := by decide +kernel
theorem dL_change_6 : decode cL_change 6 = .ok (.ireturn, 1) := by decide +kernel
theorem dL_change_7 : decode cL_change 7 = .ok (.astore_n 3, 1) := by decide +kernel
theorem dL_change_8 : decode cL_change 8 = .ok (.ldc 16, 2) := by decide +kernel
theorem dL_change_10 : decode cL_change 10 = .ok (.ireturn, 1) := by decide +kernel
theorem dL_inRound_0 : decode cL_inRound 0 = .ok (.aload_n 0, 1) := by decide +kernel
theorem dL_inRound_1 : decode cL_inRound 1 = .ok (.iload_n 1, 1) := by decide +kernel
theorem dL_inRound_2 : decode cL_inRound 2 = .ok (.invokevirtual 73, 3) := by decide +kernel
theorem dL_inRound_5 : decode cL_inRound 5 = .ok (.ireturn, 1) := by decide +kernel
theorem dL_inRound_6 : decode cL_inRound 6 = .ok (.astore_n 2, 1) := by decide +kernel
theorem dL_inRound_7 : decode cL_inRound 7 = .ok (.ldc 16, 2) := by decide +kernel
theorem dL_inRound_9 : decode cL_inRound 9 = .ok (.ireturn, 1) := by decide +kernel
theorem dL_prepare_0 : decode cL_prepare 0 = .ok (.iconst 0, 1) := by decide +kernel
theorem dL_prepare_1 : decode cL_prepare 1 = .ok (.istore_n 2, 1) := by decide +kernel
theorem dL_prepare_2 : decode cL_prepare 2 = .ok (.iload_n 2, 1) := by decide +kernel
theorem dL_prepare_3 : decode cL_prepare 3 = .ok (.iconst 4, 1) := by decide +kernel
theorem dL_prepare_4 : decode cL_prepare 4 = .ok (.if_icmp .ge 47, 3) := by decide +kernel
theorem dL_prepare_7 : decode cL_prepare 7 = .ok (.iconst 1, 1) := by decide +kernel
theorem dL_prepare_8 : decode cL_prepare 8 = .ok (.iload_n 1, 1) := by decide +kernel
theorem dL_prepare_9 : decode cL_prepare 9 = .ok (.iconst 3, 1) := by decide +kernel
theorem dL_prepare_10 : decode cL_prepare 10 = .ok (.iload_n 2, 1) := by decide +kernel
theorem dL_prepare_11 : decode cL_prepare 11 = .ok (.imul, 1) := by decide +kernel
theorem dL_prepare_12 : decode cL_prepare 12 = .ok (.ishr, 1) := by decide +kernel
theorem dL_prepare_13 : decode cL_prepare 13 = .ok (.bipush 6, 2) := by decide +kernel
theorem dL_prepare_15 : decode cL_prepare 15 = .ok (.invokestatic 76, 3) := by decide +kernel
theorem dL_prepare_18 : decode cL_prepare 18 = .ok (.iadd, 1) := by decide +kernel
theorem dL_prepare_19 : decode cL_prepare 19 = .ok (.istore_n 3, 1) := by decide +kernel
theorem dL_prepare_20 : decode cL_prepare 20 = .ok (.aload_n 0, 1) := by decide +kernel
theorem dL_prepare_21 : decode cL_prepare 21 = .ok (.iload_n 3, 1) := by decide +kernel
theorem dL_prepare_22 : decode cL_prepare 22 = .ok (.iload_n 3, 1) := by decide +kernel
theorem dL_prepare_23 : decode cL_prepare 23 = .ok (.iload_n 1, 1) := by decide +kernel
theorem dL_prepare_24 : decode cL_prepare 24 = .ok (.iconst 2, 1) := by decide +kernel
theorem dL_prepare_25 : decode cL_prepare 25 = .ok (.iload_n 2, 1) := by decide +kernel
theorem dL_prepare_26 : decode cL_prepare 26 = .ok (.imul, 1) := by decide +kernel
theorem dL_prepare_27 : decode cL_prepare 27 = .ok (.ishr, 1) := by decide +kernel
theorem dL_prepare_28 : decode cL_prepare 28 = .ok (.bipush 20, 2) := by decide +kernel
theorem dL_prepare_30 : decode cL_prepare 30 = .ok (.invokestatic 76, 3) := by decide +kernel
theorem dL_prepare_33 : decode cL_prepare 33 = .ok (.iadd, 1) := by decide +kernel
theorem dL_prepare_34 : decode cL_prepare 34 = .ok (.iload_n 1, 1) := by decide +kernel
theorem dL_prepare_35 : decode cL_prepare 35 = .ok (.iload_n 2, 1) := by decide +kernel
theorem dL_prepare_36 : decode cL_prepare 36 = .ok (.ishr, 1) := by decide +kernel
theorem dL_prepare_37 : decode cL_prepare 37 = .ok (.iconst 5, 1) := by decide +kernel
theorem dL_prepare_38 : decode cL_prepare 38 = .ok (.invokestatic 76, 3) := by decide +kernel
theorem dL_prepare_41 : decode cL_prepare 41 = .ok (.invokevirtual 8, 3) := by decide +kernel
theorem dL_prepare_44 : decode cL_prepare 44 = .ok (.pop, 1) := by decide +kernel
theorem dL_prepare_45 : decode cL_prepare 45 = .ok (.iinc 2 1, 3) := by decide +kernel
theorem dL_prepare_48 : decode cL_prepare 48 = .ok (.goto (-46), 3) := by decide +kernel
theorem dL_prepare_51 : decode cL_prepare 51 = .ok (.aload_n 0, 1) := by decide +kernel
theorem dL_prepare_52 : decode cL_prepare 52 = .ok (.iconst 0, 1) := by decide +kernel
theorem dL_prepare_53 : decode cL_prepare 53 = .ok (.iconst 1, 1) := by decide +kernel
theorem dL_prepare_54 : decode cL_prepare 54 = .ok (.iconst 1, 1) := by decide +kernel
theorem dL_prepare_55 : decode cL_prepare 55 = .ok (.iload_n 1, 1) := by decide +kernel
theorem dL_prepare_56 : decode cL_prepare 56 = .ok (.iconst 4, 1) := by decide +kernel
theorem dL_prepare_57 : decode cL_prepare 57 = .ok (.ishr, 1) := by decide +kernel
theorem dL_prepare_58 : decode cL_prepare 58 = .ok (.bipush 8, 2) := by decide +kernel
theorem dL_prepare_60 : decode cL_prepare 60 = .ok (.invokestatic 76, 3) := by decide +kernel
theorem dL_prepare_63 : decode cL_prepare 63 = .ok (.iadd, 1) := by decide +kernel
theorem dL_prepare_64 : decode cL_prepare 64 = .ok (.iconst 1, 1) := by decide +kernel
theorem dL_prepare_65 : decode cL_prepare 65 = .ok (.iload_n 1, 1) := by decide +kernel
theorem dL_prepare_66 : decode cL_prepare 66 = .ok (.bipush 7, 2) := by decide +kernel
theorem dL_prepare_68 : decode cL_prepare 68 = .ok (.ishr, 1) := by decide +kernel
theorem dL_prepare_69 : decode cL_prepare 69 = .ok (.bipush 8, 2) := by decide +kernel
theorem dL_prepare_71 : decode cL_prepare 71 = .ok (.invokestatic 76, 3) := by decide +kernel
theorem dL_prepare_74 : decode cL_prepare 74 = .ok (.iadd, 1) := by decide +kernel
theorem dL_prepare_75 : decode cL_prepare 75 = .ok (.invokevirtual 19, 3) := by decide +kernel
theorem dL_prepare_78 : decode cL_prepare 78 = .ok (.aload_n 0, 1) := by decide +kernel
theorem dL_prepare_79 : decode cL_prepare 79 = .ok (.iconst 0, 1) := by decide +kernel
theorem dL_prepare_80 : decode cL_prepare 80 = .ok (.iconst 2, 1) := by decide +kernel
theorem dL_prepare_81 : decode cL_prepare 81 = .ok (.iconst 1, 1) := by decide +kernel
theorem dL_prepare_82 : decode cL_prepare 82 = .ok (.iload_n 1, 1) := by decide +kernel
theorem dL_prepare_83 : decode cL_prepare 83 = .ok (.iconst 5, 1) := by decide +kernel
theorem dL_prepare_84 : decode cL_prepare 84 = .ok (.ishr, 1) := by decide +kernel
theorem dL_prepare_85 : decode cL_prepare 85 = .ok (.bipush 8, 2) := by decide +kernel
theorem dL_prepare_87 : decode cL_prepare 87 = .ok (.invokestatic 76, 3) := by decide +kernel
theorem dL_prepare_90 : decode cL_prepare 90 = .ok (.iadd, 1) := by decide +kernel
theorem dL_prepare_91 : decode cL_prepare 91 = .ok (.iconst 1, 1) := by decide +kernel
theorem dL_prepare_92 : decode cL_prepare 92 = .ok (.iload_n 1, 1) := by decide +kernel
theorem dL_prepare_93 : decode cL_prepare 93 = .ok (.bipush 9, 2) := by decide +kernel
theorem dL_prepare_95 : decode cL_prepare 95 = .ok (.ishr, 1) := by decide +kernel
theorem dL_prepare_96 : decode cL_prepare 96 = .ok (.bipush 8, 2) := by decide +kernel
theorem dL_prepare_98 : decode cL_prepare 98 = .ok (.invokestatic 76, 3) := by decide +kernel
theorem dL_prepare_101 : decode cL_prepare 101 = .ok (.iadd, 1) := by decide +kernel
theorem dL_prepare_102 : decode cL_prepare 102 = .ok (.invokevirtual 19, 3) := by decide +kernel
theorem dL_prepare_105 : decode cL_prepare 105 = .ok (.aload_n 0, 1) := by decide +kernel
theorem dL_prepare_106 : decode cL_prepare 106 = .ok (.iconst 2, 1) := by decide +kernel
theorem dL_prepare_107 : decode cL_prepare 107 = .ok (.iconst 3, 1) := by decide +kernel
theorem dL_prepare_108 : decode cL_prepare 108 = .ok (.iconst 1, 1) := by decide +kernel
theorem dL_prepare_109 : decode cL_prepare 109 = .ok (.iload_n 1, 1) := by decide +kernel
theorem dL_prepare_110 : decode cL_prepare 110 = .ok (.bipush 6, 2) := by decide +kernel
theorem dL_prepare_112 : decode cL_prepare 112 = .ok (.ishr, 1) := by decide +kernel
theorem dL_prepare_113 : decode cL_prepare 113 = .ok (.bipush 8, 2) := by decide +kernel
theorem dL_prepare_115 : decode cL_prepare 115 = .ok (.invokestatic 76, 3) := by decide +kernel
theorem dL_prepare_118 : decode cL_prepare 118 = .ok (.iadd, 1) := by decide +kernel
theorem dL_prepare_119 : decode cL_prepare 119 = .ok (.iconst 1, 1) := by decide +kernel
theorem dL_prepare_120 : decode cL_prepare 120 = .ok (.iload_n 1, 1) := by decide +kernel
theorem dL_prepare_121 : decode cL_prepare 121 = .ok (.iconst 3, 1) := by decide +kernel
theorem dL_prepare_122 : decode cL_prepare 122 = .ok (.ishr, 1) := by decide +kernel
theorem dL_prepare_123 : decode cL_prepare 123 = .ok (.bipush 8, 2) := by decide +kernel
theorem dL_prepare_125 : decode cL_prepare 125 = .ok (.invokestatic 76, 3) := by decide +kernel
theorem dL_prepare_128 : decode cL_prepare 128 = .ok (.iadd, 1) := by decide +kernel
theorem dL_prepare_129 : decode cL_prepare 129 = .ok (.invokevirtual 19, 3) := by decide +kernel
theorem dL_prepare_132 : decode cL_prepare 132 = .ok (.aload_n 0, 1) := by decide +kernel
theorem dL_prepare_133 : decode cL_prepare 133 = .ok (.bipush 9, 2) := by decide +kernel
theorem dL_prepare_135 : decode cL_prepare 135 = .ok (.invokevirtual 25, 3) := by decide +kernel
theorem dL_prepare_138 : decode cL_prepare 138 = .ok (.pop, 1) := by decide +kernel
theorem dL_prepare_139 : decode cL_prepare 139 = .ok (.aload_n 0, 1) := by decide +kernel
theorem dL_prepare_140 : decode cL_prepare 140 = .ok (.bipush 6, 2) := by decide +kernel
theorem dL_prepare_142 : decode cL_prepare 142 = .ok (.invokevirtual 25, 3) := by decide +kernel
theorem dL_prepare_145 : decode cL_prepare 145 = .ok (.pop, 1) := by decide +kernel
theorem dL_prepare_146 : decode cL_prepare 146 = .ok (.aload_n 0, 1) := by decide +kernel
theorem dL_prepare_147 : decode cL_prepare 147 = .ok (.iload_n 1, 1) := by decide +kernel
theorem dL_prepare_148 : decode cL_prepare 148 = .ok (.bipush 8, 2) := by decide +kernel
theorem dL_prepare_150 : decode cL_prepare 150 = .ok (.ishr, 1) := by decide +kernel
theorem dL_prepare_151 : decode cL_prepare 151 = .ok (.iconst 2, 1) := by decide +kernel
theorem dL_prepare_152 : decode cL_prepare 152 = .ok (.invokestatic 76, 3) := by decide +kernel
theorem dL_prepare_155 : decode cL_prepare 155 = .ok (.ifCond .ne 8, 3) := by decide +kernel
theorem dL_prepare_158 : decode cL_prepare 158 = .ok (.bipush 8, 2) := by decide +kernel
theorem dL_prepare_160 : decode cL_prepare 160 = .ok (.goto 5, 3) := by decide +kernel
theorem dL_prepare_163 : decode cL_prepare 163 = .ok (.bipush 10, 2) := by decide +kernel
theorem dL_prepare_165 : decode cL_prepare 165 = .ok (.invokevirtual 25, 3) := by decide +kernel
theorem dL_prepare_168 : decode cL_prepare 168 = .ok (.pop, 1) := by decide +kernel
theorem dL_prepare_169 : decode cL_prepare 169 = .ok (.return_, 1) := by decide +kernel
theorem dL_act_0 : decode cL_act 0 = .ok (.iload_n 1, 1) := by decide +kernel
theorem dL_act_1 : decode cL_act 1 = .ok (.bipush 26, 2) := by decide +kernel
theorem dL_act_3 : decode cL_act 3 = .ok (.ishr, 1) := by decide +kernel
theorem dL_act_4 : decode cL_act 4 = .ok (.bipush 14, 2) := by decide +kernel
theorem dL_act_6 : decode cL_act 6 = .ok (.invokestatic 76, 3) := by decide +kernel
theorem dL_act_9 : decode cL_act 9 = .ok (.ifCond .ne 7, 3) := by decide +kernel
theorem dL_act_12 : decode cL_act 12 = .ok (.iconst 1, 1) := by decide +kernel
theorem dL_act_13 : decode cL_act 13 = .ok (.goto 4, 3) := by decide +kernel
theorem dL_act_16 : decode cL_act 16 = .ok (.iconst 0, 1) := by decide +kernel
theorem dL_act_17 : decode cL_act 17 = .ok (.istore_n 2, 1) := by decide +kernel
theorem dL_act_18 : decode cL_act 18 = .ok (.iload_n 2, 1) := by decide +kernel
theorem dL_act_19 : decode cL_act 19 = .ok (.ifCond .eq 16, 3) := by decide +kernel
theorem dL_act_22 : decode cL_act 22 = .ok (.iload_n 1, 1) := by decide +kernel
theorem dL_act_23 : decode cL_act 23 = .ok (.iconst 4, 1) := by decide +kernel
theorem dL_act_24 : decode cL_act 24 = .ok (.ishr, 1) := by decide +kernel
theorem dL_act_25 : decode cL_act 25 = .ok (.bipush 11, 2) := by decide +kernel
theorem dL_act_27 : decode cL_act 27 = .ok (.invokestatic 76, 3) := by decide +kernel
theorem dL_act_30 : decode cL_act 30 = .ok (.iconst 2, 1) := by decide +kernel
theorem dL_act_31 : decode cL_act 31 = .ok (.isub, 1) := by decide +kernel
theorem dL_act_32 : decode cL_act 32 = .ok (.goto 10, 3) := by decide +kernel
theorem dL_act_35 : decode cL_act 35 = .ok (.iload_n 1, 1) := by decide +kernel
theorem dL_act_36 : decode cL_act 36 = .ok (.iconst 4, 1) := by decide +kernel
theorem dL_act_37 : decode cL_act 37 = .ok (.ishr, 1) := by decide +kernel
theorem dL_act_38 : decode cL_act 38 = .ok (.iconst 4, 1) := by decide +kernel
theorem dL_act_39 : decode cL_act 39 = .ok (.invokestatic 76, 3) := by decide +kernel
theorem dL_act_42 : decode cL_act 42 = .ok (.istore_n 3, 1) := by decide +kernel
theorem dL_act_43 : decode cL_act 43 = .ok (.iload_n 2, 1) := by decide +kernel
theorem dL_act_44 : decode cL_act 44 = .ok (.ifCond .eq 17, 3) := by decide +kernel
theorem dL_act_47 : decode cL_act 47 = .ok (.iload_n 1, 1) := by decide +kernel
theorem dL_act_48 : decode cL_act 48 = .ok (.bipush 7, 2) := by decide +kernel
theorem dL_act_50 : decode cL_act 50 = .ok (.ishr, 1) := by decide +kernel
theorem dL_act_51 : decode cL_act 51 = .ok (.bipush 11, 2) := by decide +kernel
theorem dL_act_53 : decode cL_act 53 = .ok (.invokestatic 76, 3) := by decide +kernel
theorem dL_act_56 : decode cL_act 56 = .ok (.iconst 2, 1) := by decide +kernel
theorem dL_act_57 : decode cL_act 57 = .ok (.isub, 1) := by decide +kernel
theorem dL_act_58 : decode cL_act 58 = .ok (.goto 11, 3) := by decide +kernel
theorem dL_act_61 : decode cL_act 61 = .ok (.iload_n 1, 1) := by decide +kernel
theorem dL_act_62 : decode cL_act 62 = .ok (.bipush 7, 2) := by decide +kernel
theorem dL_act_64 : decode cL_act 64 = .ok (.ishr, 1) := by decide +kernel
theorem dL_act_65 : decode cL_act 65 = .ok (.iconst 4, 1) := by decide +kernel
theorem dL_act_66 : decode cL_act 66 = .ok (.invokestatic 76, 3) := by decide +kernel
theorem dL_act_69 : decode cL_act 69 = .ok (.istore 4, 2) := by decide +kernel
theorem dL_act_71 : decode cL_act 71 = .ok (.iload_n 2, 1) := by decide +kernel
theorem dL_act_72 : decode cL_act 72 = .ok (.ifCond .eq 10, 3) := by decide +kernel
theorem dL_act_75 : decode cL_act 75 = .ok (.iload_n 1, 1) := by decide +kernel
theorem dL_act_76 : decode cL_act 76 = .ok (.bipush 9, 2) := by decide +kernel
theorem dL_act_78 : decode cL_act 78 = .ok (.ishr, 1) := by decide +kernel
theorem dL_act_79 : decode cL_act 79 = .ok (.goto 12, 3) := by decide +kernel
theorem dL_act_82 : decode cL_act 82 = .ok (.iload_n 1, 1) := by decide +kernel
theorem dL_act_83 : decode cL_act 83 = .ok (.bipush 9, 2) := by decide +kernel
theorem dL_act_85 : decode cL_act 85 = .ok (.ishr, 1) := by decide +kernel
theorem dL_act_86 : decode cL_act 86 = .ok (.bipush 30, 2) := by decide +kernel
theorem dL_act_88 : decode cL_act 88 = .ok (.invokestatic 76, 3) := by decide +kernel
theorem dL_act_91 : decode cL_act 91 = .ok (.istore 5, 2) := by decide +kernel
theorem dL_act_93 : decode cL_act 93 = .ok (.iload_n 2, 1) := by decide +kernel
theorem dL_act_94 : decode cL_act 94 = .ok (.ifCond .eq 17, 3) := by decide +kernel
theorem dL_act_97 : decode cL_act 97 = .ok (.iload_n 1, 1) := by decide +kernel
theorem dL_act_98 : decode cL_act 98 = .ok (.bipush 11, 2) := by decide +kernel
theorem dL_act_100 : decode cL_act 100 = .ok (.ishr, 1) := by decide +kernel
theorem dL_act_101 : decode cL_act 101 = .ok (.bipush 10, 2) := by decide +kernel
theorem dL_act_103 : decode cL_act 103 = .ok (.invokestatic 76, 3) := by decide +kernel
theorem dL_act_106 : decode cL_act 106 = .ok (.iconst 2, 1) := by decide +kernel
theorem dL_act_107 : decode cL_act 107 = .ok (.isub, 1) := by decide +kernel
theorem dL_act_108 : decode cL_act 108 = .ok (.goto 11, 3) := by decide +kernel
theorem dL_act_111 : decode cL_act 111 = .ok (.iload_n 1, 1) := by decide +kernel
theorem dL_act_112 : decode cL_act 112 = .ok (.bipush 11, 2) := by decide +kernel
theorem dL_act_114 : decode cL_act 114 = .ok (.ishr, 1) := by decide +kernel
theorem dL_act_115 : decode cL_act 115 = .ok (.iconst 3, 1) := by decide +kernel
theorem dL_act_116 : decode cL_act 116 = .ok (.invokestatic 76, 3) := by decide +kernel
theorem dL_act_119 : decode cL_act 119 = .ok (.istore 6, 2) := by decide +kernel
theorem dL_act_121 : decode cL_act 121 = .ok (.iload_n 1, 1) := by decide +kernel
theorem dL_act_122 : decode cL_act 122 = .ok (.bipush 44, 2) := by decide +kernel
theorem dL_act_124 : decode cL_act 124 = .ok (.invokestatic 76, 3) := by decide +kernel
theorem dL_act_127 : decode cL_act 127 = .ok (.tableswitch 636 0 42 #[185, 241, 289, 314, 314, 314, 314, 314, 336, 359, 359, 359, 365, 365, 365, 365, 365, 391, 391, 397, 397, 402, 441, 456, 456, 456, 456, 456, 456, 456, 456, 456, 456, 481, 510, 510, 534, 534, 556, 571, 579, 609, 614], 185) := by decide +kernel
theorem dL_act_312 : decode cL_act 312 = .ok (.aload_n 0, 1) := by decide +kernel
theorem dL_act_313 : decode cL_act 313 = .ok (.iload_n 2, 1) := by decide +kernel
theorem dL_act_314 : decode cL_act 314 = .ok (.ifCond .eq 8, 3) := by decide +kernel
theorem dL_act_317 : decode cL_act 317 = .ok (.iload 5, 2) := by decide +kernel
theorem dL_act_319 : decode cL_act 319 = .ok (.goto 13, 3) := by decide +kernel
theorem dL_act_322 : decode cL_act 322 = .ok (.iconst 1, 1) := by decide +kernel
theorem dL_act_323 : decode cL_act 323 = .ok (.iload_n 1, 1) := by decide +kernel
theorem dL_act_324 : decode cL_act 324 = .ok (.bipush 9, 2) := by decide +kernel
theorem dL_act_326 : decode cL_act 326 = .ok (.ishr, 1) := by decide +kernel
theorem dL_act_327 : decode cL_act 327 = .ok (.iconst 5, 1) := by decide +kernel
theorem dL_act_328 : decode cL_act 328 = .ok (.invokestatic 76, 3) := by decide +kernel
theorem dL_act_331 : decode cL_act 331 = .ok (.iadd, 1) := by decide +kernel
theorem dL_act_332 : decode cL_act 332 = .ok (.iload_n 2, 1) := by decide +kernel
theorem dL_act_333 : decode cL_act 333 = .ok (.ifCond .eq 9, 3) := by decide +kernel
theorem dL_act_336 : decode cL_act 336 = .ok (.iload_n 1, 1) := by decide +kernel
theorem dL_act_337 : decode cL_act 337 = .ok (.iconst 3, 1) := by decide +kernel
theorem dL_act_338 : decode cL_act 338 = .ok (.ishr, 1) := by decide +kernel
theorem dL_act_339 : decode cL_act 339 = .ok (.goto 14, 3) := by decide +kernel
theorem dL_act_342 : decode cL_act 342 = .ok (.iconst 5, 1) := by decide +kernel
theorem dL_act_343 : decode cL_act 343 = .ok (.iload_n 1, 1) := by decide +kernel
theorem dL_act_344 : decode cL_act 344 = .ok (.bipush 11, 2) := by decide +kernel
theorem dL_act_346 : decode cL_act 346 = .ok (.ishr, 1) := by decide +kernel
theorem dL_act_347 : decode cL_act 347 = .ok (.bipush 30, 2) := by decide +kernel
theorem dL_act_349 : decode cL_act 349 = .ok (.invokestatic 76, 3) := by decide +kernel
theorem dL_act_352 : decode cL_act 352 = .ok (.iadd, 1) := by decide +kernel
theorem dL_act_353 : decode cL_act 353 = .ok (.iload_n 2, 1) := by decide +kernel
theorem dL_act_354 : decode cL_act 354 = .ok (.ifCond .eq 8, 3) := by decide +kernel
theorem dL_act_357 : decode cL_act 357 = .ok (.iload 5, 2) := by decide +kernel
theorem dL_act_359 : decode cL_act 359 = .ok (.goto 5, 3) := by decide +kernel
theorem dL_act_362 : decode cL_act 362 = .ok (.iload 6, 2) := by decide +kernel
theorem dL_act_364 : decode cL_act 364 = .ok (.invokestatic 81, 3) := by decide +kernel
theorem dL_act_367 : decode cL_act 367 = .ok (.ireturn, 1) := by decide +kernel
theorem dL_act_368 : decode cL_act 368 = .ok (.aload_n 0, 1) := by decide +kernel
theorem dL_act_369 : decode cL_act 369 = .ok (.iload_n 3, 1) := by decide +kernel
theorem dL_act_370 : decode cL_act 370 = .ok (.iload 4, 2) := by decide +kernel
theorem dL_act_372 : decode cL_act 372 = .ok (.iload_n 2, 1) := by decide +kernel
theorem dL_act_373 : decode cL_act 373 = .ok (.ifCond .eq 8, 3) := by decide +kernel
theorem dL_act_376 : decode cL_act 376 = .ok (.iload 5, 2) := by decide +kernel
theorem dL_act_378 : decode cL_act 378 = .ok (.goto 14, 3) := by decide +kernel
theorem dL_act_381 : decode cL_act 381 = .ok (.iconst 1, 1) := by decide +kernel
theorem dL_act_382 : decode cL_act 382 = .ok (.iload_n 1, 1) := by decide +kernel
theorem dL_act_383 : decode cL_act 383 = .ok (.bipush 9, 2) := by decide +kernel
theorem dL_act_385 : decode cL_act 385 = .ok (.ishr, 1) := by decide +kernel
theorem dL_act_386 : decode cL_act 386 = .ok (.bipush 20, 2) := by decide +kernel
theorem dL_act_388 : decode cL_act 388 = .ok (.invokestatic 76, 3) := by decide +kernel
theorem dL_act_391 : decode cL_act 391 = .ok (.iadd, 1) := by decide +kernel
theorem dL_act_392 : decode cL_act 392 = .ok (.iload_n 2, 1) := by decide +kernel
theorem dL_act_393 : decode cL_act 393 = .ok (.ifCond .eq 8, 3) := by decide +kernel
theorem dL_act_396 : decode cL_act 396 = .ok (.iload 6, 2) := by decide +kernel
theorem dL_act_398 : decode cL_act 398 = .ok (.goto 14, 3) := by decide +kernel
theorem dL_act_401 : decode cL_act 401 = .ok (.iconst 1, 1) := by decide +kernel
theorem dL_act_402 : decode cL_act 402 = .ok (.iload_n 1, 1) := by decide +kernel
theorem dL_act_403 : decode cL_act 403 = .ok (.bipush 13, 2) := by decide +kernel
theorem dL_act_405 : decode cL_act 405 = .ok (.ishr, 1) := by decide +kernel
theorem dL_act_406 : decode cL_act 406 = .ok (.bipush 9, 2) := by decide +kernel
theorem dL_act_408 : decode cL_act 408 = .ok (.invokestatic 76, 3) := by decide +kernel
theorem dL_act_411 : decode cL_act 411 = .ok (.iadd, 1) := by decide +kernel
theorem dL_act_412 : decode cL_act 412 = .ok (.invokestatic 84, 3) := by decide +kernel
theorem dL_act_415 : decode cL_act 415 = .ok (.ireturn, 1) := by decide +kernel
theorem dL_act_416 : decode cL_act 416 = .ok (.aload_n 0, 1) := by decide +kernel
theorem dL_act_417 : decode cL_act 417 = .ok (.iload_n 2, 1) := by decide +kernel
theorem dL_act_418 : decode cL_act 418 = .ok (.ifCond .eq 8, 3) := by decide +kernel
theorem dL_act_421 : decode cL_act 421 = .ok (.iload 5, 2) := by decide +kernel
theorem dL_act_423 : decode cL_act 423 = .ok (.goto 14, 3) := by decide +kernel
theorem dL_act_426 : decode cL_act 426 = .ok (.iconst 1, 1) := by decide +kernel
theorem dL_act_427 : decode cL_act 427 = .ok (.iload_n 1, 1) := by decide +kernel
theorem dL_act_428 : decode cL_act 428 = .ok (.bipush 9, 2) := by decide +kernel
theorem dL_act_430 : decode cL_act 430 = .ok (.ishr, 1) := by decide +kernel
theorem dL_act_431 : decode cL_act 431 = .ok (.bipush 15, 2) := by decide +kernel
theorem dL_act_433 : decode cL_act 433 = .ok (.invokestatic 76, 3) := by decide +kernel
theorem dL_act_436 : decode cL_act 436 = .ok (.iadd, 1) := by decide +kernel
theorem dL_act_437 : decode cL_act 437 = .ok (.invokestatic 87, 3) := by decide +kernel
theorem dL_act_440 : decode cL_act 440 = .ok (.ireturn, 1) := by decide +kernel
theorem dL_act_441 : decode cL_act 441 = .ok (.aload_n 0, 1) := by decide +kernel
theorem dL_act_442 : decode cL_act 442 = .ok (.iload_n 2, 1) := by decide +kernel
theorem dL_act_443 : decode cL_act 443 = .ok (.ifCond .eq 8, 3) := by decide +kernel
theorem dL_act_446 : decode cL_act 446 = .ok (.iload 6, 2) := by decide +kernel
theorem dL_act_448 : decode cL_act 448 = .ok (.goto 11, 3) := by decide +kernel
theorem dL_act_451 : decode cL_act 451 = .ok (.iload_n 1, 1) := by decide +kernel
theorem dL_act_452 : decode cL_act 452 = .ok (.bipush 9, 2) := by decide +kernel
theorem dL_act_454 : decode cL_act 454 = .ok (.ishr, 1) := by decide +kernel
theorem dL_act_455 : decode cL_act 455 = .ok (.iconst 3, 1) := by decide +kernel
theorem dL_act_456 : decode cL_act 456 = .ok (.invokestatic 76, 3) := by decide +kernel
theorem dL_act_459 : decode cL_act 459 = .ok (.invokestatic 90, 3) := by decide +kernel
theorem dL_act_462 : decode cL_act 462 = .ok (.ireturn, 1) := by decide +kernel
theorem dL_act_463 : decode cL_act 463 = .ok (.iload_n 1, 1) := by decide +kernel
theorem dL_act_464 : decode cL_act 464 = .ok (.bipush 9, 2) := by decide +kernel
theorem dL_act_466 : decode cL_act 466 = .ok (.ishr, 1) := by decide +kernel
theorem dL_act_467 : decode cL_act 467 = .ok (.iconst 4, 1) := by decide +kernel
theorem dL_act_468 : decode cL_act 468 = .ok (.invokestatic 76, 3) := by decide +kernel
theorem dL_act_471 : decode cL_act 471 = .ok (.ifCond .ne 10, 3) := by decide +kernel
theorem dL_act_474 : decode cL_act 474 = .ok (.aload_n 0, 1) := by decide +kernel
theorem dL_act_475 : decode cL_act 475 = .ok (.invokestatic 92, 3) := by decide +kernel
theorem dL_act_478 : decode cL_act 478 = .ok (.goto 7, 3) := by decide +kernel
theorem dL_act_481 : decode cL_act 481 = .ok (.aload_n 0, 1) := by decide +kernel
theorem dL_act_482 : decode cL_act 482 = .ok (.invokevirtual 95, 3) := by decide +kernel
theorem dL_act_485 : decode cL_act 485 = .ok (.ireturn, 1) := by decide +kernel
theorem dL_act_486 : decode cL_act 486 = .ok (.aload_n 0, 1) := by decide +kernel
theorem dL_act_487 : decode cL_act 487 = .ok (.iload_n 3, 1) := by decide +kernel
theorem dL_act_488 : decode cL_act 488 = .ok (.invokestatic 98, 3) := by decide +kernel
theorem dL_act_491 : decode cL_act 491 = .ok (.ireturn, 1) := by decide +kernel
theorem dL_act_492 : decode cL_act 492 = .ok (.aload_n 0, 1) := by decide +kernel
theorem dL_act_493 : decode cL_act 493 = .ok (.iload_n 3, 1) := by decide +kernel
theorem dL_act_494 : decode cL_act 494 = .ok (.iload_n 2, 1) := by decide +kernel
theorem dL_act_495 : decode cL_act 495 = .ok (.ifCond .eq 8, 3) := by decide +kernel
theorem dL_act_498 : decode cL_act 498 = .ok (.iload 5, 2) := by decide +kernel
theorem dL_act_500 : decode cL_act 500 = .ok (.goto 14, 3) := by decide +kernel
theorem dL_act_503 : decode cL_act 503 = .ok (.iconst 1, 1) := by decide +kernel
theorem dL_act_504 : decode cL_act 504 = .ok (.iload_n 1, 1) := by decide +kernel
theorem dL_act_505 : decode cL_act 505 = .ok (.bipush 9, 2) := by decide +kernel
theorem dL_act_507 : decode cL_act 507 = .ok (.ishr, 1) := by decide +kernel
theorem dL_act_508 : decode cL_act 508 = .ok (.bipush 9, 2) := by decide +kernel
theorem dL_act_510 : decode cL_act 510 = .ok (.invokestatic 76, 3) := by decide +kernel
theorem dL_act_513 : decode cL_act 513 = .ok (.iadd, 1) := by decide +kernel
theorem dL_act_514 : decode cL_act 514 = .ok (.invokestatic 100, 3) := by decide +kernel
theorem dL_act_517 : decode cL_act 517 = .ok (.ireturn, 1) := by decide +kernel
theorem dL_act_518 : decode cL_act 518 = .ok (.aload_n 0, 1) := by decide +kernel
theorem dL_act_519 : decode cL_act 519 = .ok (.iload_n 3, 1) := by decide +kernel
theorem dL_act_520 : decode cL_act 520 = .ok (.invokestatic 103, 3) := by decide +kernel
theorem dL_act_523 : decode cL_act 523 = .ok (.ireturn, 1) := by decide +kernel
theorem dL_act_524 : decode cL_act 524 = .ok (.aload_n 0, 1) := by decide +kernel
theorem dL_act_525 : decode cL_act 525 = .ok (.invokestatic 105, 3) := by decide +kernel
theorem dL_act_528 : decode cL_act 528 = .ok (.ireturn, 1) := by decide +kernel
theorem dL_act_529 : decode cL_act 529 = .ok (.aload_n 0, 1) := by decide +kernel
theorem dL_act_530 : decode cL_act 530 = .ok (.iload_n 3, 1) := by decide +kernel
theorem dL_act_531 : decode cL_act 531 = .ok (.iload_n 2, 1) := by decide +kernel
theorem dL_act_532 : decode cL_act 532 = .ok (.ifCond .eq 8, 3) := by decide +kernel
theorem dL_act_535 : decode cL_act 535 = .ok (.iload 6, 2) := by decide +kernel
theorem dL_act_537 : decode cL_act 537 = .ok (.goto 11, 3) := by decide +kernel
theorem dL_act_540 : decode cL_act 540 = .ok (.iload_n 1, 1) := by decide +kernel
theorem dL_act_541 : decode cL_act 541 = .ok (.bipush 9, 2) := by decide +kernel
theorem dL_act_543 : decode cL_act 543 = .ok (.ishr, 1) := by decide +kernel
theorem dL_act_544 : decode cL_act 544 = .ok (.iconst 3, 1) := by decide +kernel
theorem dL_act_545 : decode cL_act 545 = .ok (.invokestatic 76, 3) := by decide +kernel
theorem dL_act_548 : decode cL_act 548 = .ok (.iload_n 1, 1) := by decide +kernel
theorem dL_act_549 : decode cL_act 549 = .ok (.bipush 11, 2) := by decide +kernel
theorem dL_act_551 : decode cL_act 551 = .ok (.ishr, 1) := by decide +kernel
theorem dL_act_552 : decode cL_act 552 = .ok (.iconst 2, 1) := by decide +kernel
theorem dL_act_553 : decode cL_act 553 = .ok (.invokestatic 76, 3) := by decide +kernel
theorem dL_act_556 : decode cL_act 556 = .ok (.ifCond .ne 7, 3) := by decide +kernel
theorem dL_act_559 : decode cL_act 559 = .ok (.iconst 1, 1) := by decide +kernel
theorem dL_act_560 : decode cL_act 560 = .ok (.goto 4, 3) := by decide +kernel
theorem dL_act_563 : decode cL_act 563 = .ok (.iconst 0, 1) := by decide +kernel
theorem dL_act_564 : decode cL_act 564 = .ok (.invokestatic 107, 3) := by decide +kernel
theorem dL_act_567 : decode cL_act 567 = .ok (.ireturn, 1) := by decide +kernel
theorem dL_act_568 : decode cL_act 568 = .ok (.aload_n 0, 1) := by decide +kernel
theorem dL_act_569 : decode cL_act 569 = .ok (.iload_n 3, 1) := by decide +kernel
theorem dL_act_570 : decode cL_act 570 = .ok (.iload_n 1, 1) := by decide +kernel
theorem dL_act_571 : decode cL_act 571 = .ok (.bipush 9, 2) := by decide +kernel
theorem dL_act_573 : decode cL_act 573 = .ok (.ishr, 1) := by decide +kernel
theorem dL_act_574 : decode cL_act 574 = .ok (.iconst 3, 1) := by decide +kernel
theorem dL_act_575 : decode cL_act 575 = .ok (.invokestatic 76, 3) := by decide +kernel
theorem dL_act_578 : decode cL_act 578 = .ok (.iconst 0, 1) := by decide +kernel
theorem dL_act_579 : decode cL_act 579 = .ok (.invokestatic 107, 3) := by decide +kernel
theorem dL_act_582 : decode cL_act 582 = .ok (.ireturn, 1) := by decide +kernel
theorem dL_act_583 : decode cL_act 583 = .ok (.aload_n 0, 1) := by decide +kernel
theorem dL_act_584 : decode cL_act 584 = .ok (.iload_n 2, 1) := by decide +kernel
theorem dL_act_585 : decode cL_act 585 = .ok (.ifCond .eq 8, 3) := by decide +kernel
theorem dL_act_588 : decode cL_act 588 = .ok (.iload 5, 2) := by decide +kernel
theorem dL_act_590 : decode cL_act 590 = .ok (.goto 14, 3) := by decide +kernel
theorem dL_act_593 : decode cL_act 593 = .ok (.iconst 1, 1) := by decide +kernel
theorem dL_act_594 : decode cL_act 594 = .ok (.iload_n 1, 1) := by decide +kernel
theorem dL_act_595 : decode cL_act 595 = .ok (.bipush 9, 2) := by decide +kernel
theorem dL_act_597 : decode cL_act 597 = .ok (.ishr, 1) := by decide +kernel
theorem dL_act_598 : decode cL_act 598 = .ok (.bipush 20, 2) := by decide +kernel
theorem dL_act_600 : decode cL_act 600 = .ok (.invokestatic 76, 3) := by decide +kernel
theorem dL_act_603 : decode cL_act 603 = .ok (.iadd, 1) := by decide +kernel
theorem dL_act_604 : decode cL_act 604 = .ok (.invokestatic 110, 3) := by decide +kernel
theorem dL_act_607 : decode cL_act 607 = .ok (.ireturn, 1) := by decide +kernel
theorem dL_act_608 : decode cL_act 608 = .ok (.aload_n 0, 1) := by decide +kernel
theorem dL_act_609 : decode cL_act 609 = .ok (.iload_n 3, 1) := by decide +kernel
theorem dL_act_610 : decode cL_act 610 = .ok (.iload_n 2, 1) := by decide +kernel
theorem dL_act_611 : decode cL_act 611 = .ok (.ifCond .eq 8, 3) := by decide +kernel
theorem dL_act_614 : decode cL_act 614 = .ok (.iload 5, 2) := by decide +kernel
theorem dL_act_616 : decode cL_act 616 = .ok (.goto 17, 3) := by decide +kernel
theorem dL_act_619 : decode cL_act 619 = .ok (.iload_n 1, 1) := by decide +kernel
theorem dL_act_620 : decode cL_act 620 = .ok (.bipush 9, 2) := by decide +kernel
theorem dL_act_622 : decode cL_act 622 = .ok (.ishr, 1) := by decide +kernel
theorem dL_act_623 : decode cL_act 623 = .ok (.iconst 1, 1) := by decide +kernel
theorem dL_act_624 : decode cL_act 624 = .ok (.aload_n 0, 1) := by decide +kernel
theorem dL_act_625 : decode cL_act 625 = .ok (.iconst 2, 1) := by decide +kernel
theorem dL_act_626 : decode cL_act 626 = .ok (.invokevirtual 64, 3) := by decide +kernel
theorem dL_act_629 : decode cL_act 629 = .ok (.iadd, 1) := by decide +kernel
theorem dL_act_630 : decode cL_act 630 = .ok (.invokestatic 76, 3) := by decide +kernel
theorem dL_act_633 : decode cL_act 633 = .ok (.invokestatic 112, 3) := by decide +kernel
theorem dL_act_636 : decode cL_act 636 = .ok (.ireturn, 1) := by decide +kernel
theorem dL_act_637 : decode cL_act 637 = .ok (.aload_n 0, 1) := by decide +kernel
theorem dL_act_638 : decode cL_act 638 = .ok (.iload_n 3, 1) := by decide +kernel
theorem dL_act_639 : decode cL_act 639 = .ok (.iload_n 2, 1) := by decide +kernel
theorem dL_act_640 : decode cL_act 640 = .ok (.ifCond .eq 8, 3) := by decide +kernel
theorem dL_act_643 : decode cL_act 643 = .ok (.iload 5, 2) := by decide +kernel
theorem dL_act_645 : decode cL_act 645 = .ok (.goto 12, 3) := by decide +kernel
theorem dL_act_648 : decode cL_act 648 = .ok (.iload_n 1, 1) := by decide +kernel
theorem dL_act_649 : decode cL_act 649 = .ok (.bipush 9, 2) := by decide +kernel
theorem dL_act_651 : decode cL_act 651 = .ok (.ishr, 1) := by decide +kernel
theorem dL_act_652 : decode cL_act 652 = .ok (.bipush 7, 2) := by decide +kernel
theorem dL_act_654 : decode cL_act 654 = .ok (.invokestatic 76, 3) := by decide +kernel
theorem dL_act_657 : decode cL_act 657 = .ok (.invokestatic 114, 3) := by decide +kernel
theorem dL_act_660 : decode cL_act 660 = .ok (.ireturn, 1) := by decide +kernel
theorem dL_act_661 : decode cL_act 661 = .ok (.aload_n 0, 1) := by decide +kernel
theorem dL_act_662 : decode cL_act 662 = .ok (.iload_n 2, 1) := by decide +kernel
theorem dL_act_663 : decode cL_act 663 = .ok (.ifCond .eq 8, 3) := by decide +kernel
theorem dL_act_666 : decode cL_act 666 = .ok (.iload 5, 2) := by decide +kernel
theorem dL_act_668 : decode cL_act 668 = .ok (.goto 11, 3) := by decide +kernel
theorem dL_act_671 : decode cL_act 671 = .ok (.iload_n 1, 1) := by decide +kernel
theorem dL_act_672 : decode cL_act 672 = .ok (.bipush 9, 2) := by decide +kernel
theorem dL_act_674 : decode cL_act 674 = .ok (.ishr, 1) := by decide +kernel
theorem dL_act_675 : decode cL_act 675 = .ok (.iconst 5, 1) := by decide +kernel
theorem dL_act_676 : decode cL_act 676 = .ok (.invokestatic 76, 3) := by decide +kernel
theorem dL_act_679 : decode cL_act 679 = .ok (.invokestatic 116, 3) := by decide +kernel
theorem dL_act_682 : decode cL_act 682 = .ok (.ireturn, 1) := by decide +kernel
theorem dL_act_683 : decode cL_act 683 = .ok (.aload_n 0, 1) := by decide +kernel
theorem dL_act_684 : decode cL_act 684 = .ok (.invokevirtual 118, 3) := by decide +kernel
theorem dL_act_687 : decode cL_act 687 = .ok (.l2i, 1) := by decide +kernel
theorem dL_act_688 : decode cL_act 688 = .ok (.ldc 122, 2) := by decide +kernel
theorem dL_act_690 : decode cL_act 690 = .ok (.aload_n 0, 1) := by decide +kernel
theorem dL_act_691 : decode cL_act 691 = .ok (.invokevirtual 123, 3) := by decide +kernel
theorem dL_act_694 : decode cL_act 694 = .ok (.fmul, 1) := by decide +kernel
theorem dL_act_695 : decode cL_act 695 = .ok (.f2i, 1) := by decide +kernel
theorem dL_act_696 : decode cL_act 696 = .ok (.iadd, 1) := by decide +kernel
theorem dL_act_697 : decode cL_act 697 = .ok (.ireturn, 1) := by decide +kernel
theorem dL_act_698 : decode cL_act 698 = .ok (.aload_n 0, 1) := by decide +kernel
theorem dL_act_699 : decode cL_act 699 = .ok (.iload_n 3, 1) := by decide +kernel
theorem dL_act_700 : decode cL_act 700 = .ok (.iload 4, 2) := by decide +kernel
theorem dL_act_702 : decode cL_act 702 = .ok (.invokestatic 127, 3) := by decide +kernel
theorem dL_act_705 : decode cL_act 705 = .ok (.ireturn, 1) := by decide +kernel
theorem dL_act_706 : decode cL_act 706 = .ok (.aload_n 0, 1) := by decide +kernel
theorem dL_act_707 : decode cL_act 707 = .ok (.iload_n 2, 1) := by decide +kernel
theorem dL_act_708 : decode cL_act 708 = .ok (.ifCond .eq 8, 3) := by decide +kernel
theorem dL_act_711 : decode cL_act 711 = .ok (.iload 6, 2) := by decide +kernel
theorem dL_act_713 : decode cL_act 713 = .ok (.goto 11, 3) := by decide +kernel
theorem dL_act_716 : decode cL_act 716 = .ok (.iload_n 1, 1) := by decide +kernel
theorem dL_act_717 : decode cL_act 717 = .ok (.bipush 9, 2) := by decide +kernel
theorem dL_act_719 : decode cL_act 719 = .ok (.ishr, 1) := by decide +kernel
theorem dL_act_720 : decode cL_act 720 = .ok (.iconst 3, 1) := by decide +kernel
theorem dL_act_721 : decode cL_act 721 = .ok (.invokestatic 76, 3) := by decide +kernel
theorem dL_act_724 : decode cL_act 724 = .ok (.iload_n 1, 1) := by decide +kernel
theorem dL_act_725 : decode cL_act 725 = .ok (.bipush 13, 2) := by decide +kernel
theorem dL_act_727 : decode cL_act 727 = .ok (.ishr, 1) := by decide +kernel
theorem dL_act_728 : decode cL_act 728 = .ok (.iconst 3, 1) := by decide +kernel
theorem dL_act_729 : decode cL_act 729 = .ok (.invokestatic 76, 3) := by decide +kernel
theorem dL_act_732 : decode cL_act 732 = .ok (.invokestatic 129, 3) := by decide +kernel
theorem dL_act_735 : decode cL_act 735 = .ok (.ireturn, 1) := by decide +kernel
theorem dL_act_736 : decode cL_act 736 = .ok (.aload_n 0, 1) := by decide +kernel
theorem dL_act_737 : decode cL_act 737 = .ok (.invokevirtual 131, 3) := by decide +kernel
theorem dL_act_740 : decode cL_act 740 = .ok (.ireturn, 1) := by decide +kernel
theorem dL_act_741 : decode cL_act 741 = .ok (.aload_n 0, 1) := by decide +kernel
theorem dL_act_742 : decode cL_act 742 = .ok (.iload_n 2, 1) := by decide +kernel
theorem dL_act_743 : decode cL_act 743 = .ok (.ifCond .eq 8, 3) := by decide +kernel
theorem dL_act_746 : decode cL_act 746 = .ok (.iload 5, 2) := by decide +kernel
theorem dL_act_748 : decode cL_act 748 = .ok (.goto 11, 3) := by decide +kernel
theorem dL_act_751 : decode cL_act 751 = .ok (.iload_n 1, 1) := by decide +kernel
theorem dL_act_752 : decode cL_act 752 = .ok (.bipush 9, 2) := by decide +kernel
theorem dL_act_754 : decode cL_act 754 = .ok (.ishr, 1) := by decide +kernel
theorem dL_act_755 : decode cL_act 755 = .ok (.iconst 4, 1) := by decide +kernel
theorem dL_act_756 : decode cL_act 756 = .ok (.invokestatic 76, 3) := by decide +kernel
theorem dL_act_759 : decode cL_act 759 = .ok (.invokestatic 134, 3) := by decide +kernel
theorem dL_act_762 : decode cL_act 762 = .ok (.ireturn, 1) := by decide +kernel
theorem dL_act_763 : decode cL_act 763 = .ok (.aload_n 0, 1) := by decide +kernel
theorem dL_act_764 : decode cL_act 764 = .ok (.iconst 1, 1) := by decide +kernel
theorem dL_act_765 : decode cL_act 765 = .ok (.invokestatic 110, 3) := by decide +kernel
theorem dL_act_768 : decode cL_act 768 = .ok (.ireturn, 1) := by decide +kernel
theorem dL_areAlike_0 : decode cL_areAlike 0 = .ok (.aload_n 0, 1) := by decide +kernel
theorem dL_areAlike_1 : decode cL_areAlike 1 = .ok (.invokevirtual 118, 3) := by decide +kernel
theorem dL_areAlike_4 : decode cL_areAlike 4 = .ok (.aload_n 1, 1) := by decide +kernel
theorem dL_areAlike_5 : decode cL_areAlike 5 = .ok (.invokevirtual 118, 3) := by decide +kernel
theorem dL_areAlike_8 : decode cL_areAlike 8 = .ok (.lcmp, 1) := by decide +kernel
theorem dL_areAlike_9 : decode cL_areAlike 9 = .ok (.ifCond .ne 18, 3) := by decide +kernel
theorem dL_areAlike_12 : decode cL_areAlike 12 = .ok (.aload_n 0, 1) := by decide +kernel
theorem dL_areAlike_13 : decode cL_areAlike 13 = .ok (.invokevirtual 131, 3) := by decide +kernel
theorem dL_areAlike_16 : decode cL_areAlike 16 = .ok (.aload_n 1, 1) := by decide +kernel
theorem dL_areAlike_17 : decode cL_areAlike 17 = .ok (.invokevirtual 131, 3) := by decide +kernel
theorem dL_areAlike_20 : decode cL_areAlike 20 = .ok (.if_icmp .ne 7, 3) := by decide +kernel
theorem dL_areAlike_23 : decode cL_areAlike 23 = .ok (.iconst 1, 1) := by decide +kernel
theorem dL_areAlike_24 : decode cL_areAlike 24 = .ok (.goto 4, 3) := by decide +kernel
theorem dL_areAlike_27 : decode cL_areAlike 27 = .ok (.iconst 0, 1) := by decide +kernel
theorem dL_areAlike_28 : decode cL_areAlike 28 = .ok (.istore_n 3, 1) := by decide +kernel
theorem dL_areAlike_29 : decode cL_areAlike 29 = .ok (.iconst 0, 1) := by decide +kernel
theorem dL_areAlike_30 : decode cL_areAlike 30 = .ok (.istore 4, 2) := by decide +kernel
theorem dL_areAlike_32 : decode cL_areAlike 32 = .ok (.iload 4, 2) := by decide +kernel
theorem dL_areAlike_34 : decode cL_areAlike 34 = .ok (.bipush 8, 2) := by decide +kernel
theorem dL_areAlike_36 : decode cL_areAlike 36 = .ok (.if_icmp .ge 101, 3) := by decide +kernel
theorem dL_areAlike_39 : decode cL_areAlike 39 = .ok (.iload_n 3, 1) := by decide +kernel
theorem dL_areAlike_40 : decode cL_areAlike 40 = .ok (.ifCond .eq 97, 3) := by decide +kernel
theorem dL_areAlike_43 : decode cL_areAlike 43 = .ok (.aload_n 0, 1) := by decide +kernel
theorem dL_areAlike_44 : decode cL_areAlike 44 = .ok (.iload 4, 2) := by decide +kernel
theorem dL_areAlike_46 : decode cL_areAlike 46 = .ok (.invokestatic 116, 3) := by decide +kernel
theorem dL_areAlike_49 : decode cL_areAlike 49 = .ok (.aload_n 1, 1) := by decide +kernel
theorem dL_areAlike_50 : decode cL_areAlike 50 = .ok (.iload 4, 2) := by decide +kernel
theorem dL_areAlike_52 : decode cL_areAlike 52 = .ok (.invokestatic 116, 3) := by decide +kernel
theorem dL_areAlike_55 : decode cL_areAlike 55 = .ok (.if_icmp .ne 74, 3) := by decide +kernel
theorem dL_areAlike_58 : decode cL_areAlike 58 = .ok (.aload_n 0, 1) := by decide +kernel
theorem dL_areAlike_59 : decode cL_areAlike 59 = .ok (.iload 4, 2) := by decide +kernel
theorem dL_areAlike_61 : decode cL_areAlike 61 = .ok (.iload_n 2, 1) := by decide +kernel
theorem dL_areAlike_62 : decode cL_areAlike 62 = .ok (.bipush 7, 2) := by decide +kernel
theorem dL_areAlike_64 : decode cL_areAlike 64 = .ok (.invokestatic 76, 3) := by decide +kernel
theorem dL_areAlike_67 : decode cL_areAlike 67 = .ok (.invokestatic 114, 3) := by decide +kernel
theorem dL_areAlike_70 : decode cL_areAlike 70 = .ok (.aload_n 1, 1) := by decide +kernel
theorem dL_areAlike_71 : decode cL_areAlike 71 = .ok (.iload 4, 2) := by decide +kernel
theorem dL_areAlike_73 : decode cL_areAlike 73 = .ok (.iload_n 2, 1) := by decide +kernel
theorem dL_areAlike_74 : decode cL_areAlike 74 = .ok (.bipush 7, 2) := by decide +kernel
theorem dL_areAlike_76 : decode cL_areAlike 76 = .ok (.invokestatic 76, 3) := by decide +kernel
theorem dL_areAlike_79 : decode cL_areAlike 79 = .ok (.invokestatic 114, 3) := by decide +kernel
theorem dL_areAlike_82 : decode cL_areAlike 82 = .ok (.if_icmp .ne 47, 3) := by decide +kernel
theorem dL_areAlike_85 : decode cL_areAlike 85 = .ok (.aload_n 0, 1) := by decide +kernel
theorem dL_areAlike_86 : decode cL_areAlike 86 = .ok (.iload 4, 2) := by decide +kernel
theorem dL_areAlike_88 : decode cL_areAlike 88 = .ok (.iload_n 2, 1) := by decide +kernel
theorem dL_areAlike_89 : decode cL_areAlike 89 = .ok (.iconst 4, 1) := by decide +kernel
theorem dL_areAlike_90 : decode cL_areAlike 90 = .ok (.invokestatic 76, 3) := by decide +kernel
theorem dL_areAlike_93 : decode cL_areAlike 93 = .ok (.invokestatic 127, 3) := by decide +kernel
theorem dL_areAlike_96 : decode cL_areAlike 96 = .ok (.aload_n 1, 1) := by decide +kernel
theorem dL_areAlike_97 : decode cL_areAlike 97 = .ok (.iload 4, 2) := by decide +kernel
theorem dL_areAlike_99 : decode cL_areAlike 99 = .ok (.iload_n 2, 1) := by decide +kernel
theorem dL_areAlike_100 : decode cL_areAlike 100 = .ok (.iconst 4, 1) := by decide +kernel
theorem dL_areAlike_101 : decode cL_areAlike 101 = .ok (.invokestatic 76, 3) := by decide +kernel
theorem dL_areAlike_104 : decode cL_areAlike 104 = .ok (.invokestatic 127, 3) := by decide +kernel
theorem dL_areAlike_107 : decode cL_areAlike 107 = .ok (.if_icmp .ne 22, 3) := by decide +kernel
theorem dL_areAlike_110 : decode cL_areAlike 110 = .ok (.aload_n 0, 1) := by decide +kernel
theorem dL_areAlike_111 : decode cL_areAlike 111 = .ok (.iload 4, 2) := by decide +kernel
theorem dL_areAlike_113 : decode cL_areAlike 113 = .ok (.invokestatic 134, 3) := by decide +kernel
theorem dL_areAlike_116 : decode cL_areAlike 116 = .ok (.aload_n 1, 1) := by decide +kernel
theorem dL_areAlike_117 : decode cL_areAlike 117 = .ok (.iload 4, 2) := by decide +kernel
theorem dL_areAlike_119 : decode cL_areAlike 119 = .ok (.invokestatic 134, 3) := by decide +kernel
theorem dL_areAlike_122 : decode cL_areAlike 122 = .ok (.if_icmp .ne 7, 3) := by decide +kernel
theorem dL_areAlike_125 : decode cL_areAlike 125 = .ok (.iconst 1, 1) := by decide +kernel
theorem dL_areAlike_126 : decode cL_areAlike 126 = .ok (.goto 4, 3) := by decide +kernel
theorem dL_areAlike_129 : decode cL_areAlike 129 = .ok (.iconst 0, 1) := by decide +kernel
theorem dL_areAlike_130 : decode cL_areAlike 130 = .ok (.istore_n 3, 1) := by decide +kernel
theorem dL_areAlike_131 : decode cL_areAlike 131 = .ok (.iinc 4 1, 3) := by decide +kernel
theorem dL_areAlike_134 : decode cL_areAlike 134 = .ok (.goto (-102), 3) := by decide +kernel
theorem dL_areAlike_137 : decode cL_areAlike 137 = .ok (.iload_n 3, 1) := by decide +kernel
theorem dL_areAlike_138 : decode cL_areAlike 138 = .ok (.ireturn, 1) := by decide +kernel
theorem dL_isSafe_0 : decode cL_isSafe 0 = .ok (.aload_n 0, 1) := by decide +kernel
theorem dL_isSafe_1 : decode cL_isSafe 1 = .ok (.iload_n 1, 1) := by decide +kernel
theorem dL_isSafe_2 : decode cL_isSafe 2 = .ok (.iload_n 2, 1) := by decide +kernel
theorem dL_isSafe_3 : decode cL_isSafe 3 = .ok (.invokevirtual 67, 3) := by decide +kernel
theorem dL_isSafe_6 : decode cL_isSafe 6 = .ok (.istore 4, 2) := by decide +kernel
theorem dL_isSafe_8 : decode cL_isSafe 8 = .ok (.aload_n 0, 1) := by decide +kernel
theorem dL_isSafe_9 : decode cL_isSafe 9 = .ok (.iload_n 1, 1) := by decide +kernel
theorem dL_isSafe_10 : decode cL_isSafe 10 = .ok (.iconst 0, 1) := by decide +kernel
theorem dL_isSafe_11 : decode cL_isSafe 11 = .ok (.invokevirtual 61, 3) := by decide +kernel
theorem dL_isSafe_14 : decode cL_isSafe 14 = .ok (.iconst 1, 1) := by decide +kernel
theorem dL_isSafe_15 : decode cL_isSafe 15 = .ok (.if_icmp .ne 17, 3) := by decide +kernel
theorem dL_isSafe_18 : decode cL_isSafe 18 = .ok (.aload_n 0, 1) := by decide +kernel
theorem dL_isSafe_19 : decode cL_isSafe 19 = .ok (.iload_n 2, 1) := by decide +kernel
theorem dL_isSafe_20 : decode cL_isSafe 20 = .ok (.iconst 0, 1) := by decide +kernel
theorem dL_isSafe_21 : decode cL_isSafe 21 = .ok (.invokevirtual 61, 3) := by decide +kernel
theorem dL_isSafe_24 : decode cL_isSafe 24 = .ok (.iconst 1, 1) := by decide +kernel
theorem dL_isSafe_25 : decode cL_isSafe 25 = .ok (.if_icmp .ne 7, 3) := by decide +kernel
theorem dL_isSafe_28 : decode cL_isSafe 28 = .ok (.iconst 1, 1) := by decide +kernel
theorem dL_isSafe_29 : decode cL_isSafe 29 = .ok (.goto 4, 3) := by decide +kernel
theorem dL_isSafe_32 : decode cL_isSafe 32 = .ok (.iconst 0, 1) := by decide +kernel
theorem dL_isSafe_33 : decode cL_isSafe 33 = .ok (.istore 5, 2) := by decide +kernel
theorem dL_isSafe_35 : decode cL_isSafe 35 = .ok (.iload 5, 2) := by decide +kernel
theorem dL_isSafe_37 : decode cL_isSafe 37 = .ok (.ifCond .ne 18, 3) := by decide +kernel
theorem dL_isSafe_40 : decode cL_isSafe 40 = .ok (.iload 4, 2) := by decide +kernel
theorem dL_isSafe_42 : decode cL_isSafe 42 = .ok (.ifCond .lt 9, 3) := by decide +kernel
theorem dL_isSafe_45 : decode cL_isSafe 45 = .ok (.iload 4, 2) := by decide +kernel
theorem dL_isSafe_47 : decode cL_isSafe 47 = .ok (.iload_n 3, 1) := by decide +kernel
theorem dL_isSafe_48 : decode cL_isSafe 48 = .ok (.if_icmp .lt 7, 3) := by decide +kernel
theorem dL_isSafe_51 : decode cL_isSafe 51 = .ok (.iconst 1, 1) := by decide +kernel
theorem dL_isSafe_52 : decode cL_isSafe 52 = .ok (.goto 4, 3) := by decide +kernel
theorem dL_isSafe_55 : decode cL_isSafe 55 = .ok (.iconst 0, 1) := by decide +kernel
theorem dL_isSafe_56 : decode cL_isSafe 56 = .ok (.ireturn, 1) := by decide +kernel
theorem dL_isSo_0 : decode cL_isSo 0 = .ok (.aload_n 0, 1) := by decide +kernel
theorem dL_isSo_1 : decode cL_isSo 1 = .ok (.invokevirtual 131, 3) := by decide +kernel
theorem dL_isSo_4 : decode cL_isSo 4 = .ok (.aload_n 0, 1) := by decide +kernel
theorem dL_isSo_5 : decode cL_isSo 5 = .ok (.invokevirtual 95, 3) := by decide +kernel
theorem dL_isSo_8 : decode cL_isSo 8 = .ok (.if_icmp .ne 24, 3) := by decide +kernel
theorem dL_isSo_11 : decode cL_isSo 11 = .ok (.aload_n 0, 1) := by decide +kernel
theorem dL_isSo_12 : decode cL_isSo 12 = .ok (.iconst 0, 1) := by decide +kernel
theorem dL_isSo_13 : decode cL_isSo 13 = .ok (.invokevirtual 73, 3) := by decide +kernel
theorem dL_isSo_16 : decode cL_isSo 16 = .ok (.ifCond .ne 16, 3) := by decide +kernel
theorem dL_isSo_19 : decode cL_isSo 19 = .ok (.aload_n 0, 1) := by decide +kernel
theorem dL_isSo_20 : decode cL_isSo 20 = .ok (.invokevirtual 118, 3) := by decide +kernel
theorem dL_isSo_23 : decode cL_isSo 23 = .ok (.lconst 0, 1) := by decide +kernel
theorem dL_isSo_24 : decode cL_isSo 24 = .ok (.lcmp, 1) := by decide +kernel
theorem dL_isSo_25 : decode cL_isSo 25 = .ok (.ifCond .lt 7, 3) := by decide +kernel
theorem dL_isSo_28 : decode cL_isSo 28 = .ok (.iconst 1, 1) := by decide +kernel
theorem dL_isSo_29 : decode cL_isSo 29 = .ok (.goto 4, 3) := by decide +kernel
theorem dL_isSo_32 : decode cL_isSo 32 = .ok (.iconst 0, 1) := by decide +kernel
theorem dL_isSo_33 : decode cL_isSo 33 = .ok (.istore_n 2, 1) := by decide +kernel
theorem dL_isSo_34 : decode cL_isSo 34 = .ok (.iload_n 2, 1) := by decide +kernel
theorem dL_isSo_35 : decode cL_isSo 35 = .ok (.ifCond .eq 67, 3) := by decide +kernel
theorem dL_isSo_38 : decode cL_isSo 38 = .ok (.aload_n 0, 1) := by decide +kernel
theorem dL_isSo_39 : decode cL_isSo 39 = .ok (.iconst 0, 1) := by decide +kernel
theorem dL_isSo_40 : decode cL_isSo 40 = .ok (.iconst 1, 1) := by decide +kernel
theorem dL_isSo_41 : decode cL_isSo 41 = .ok (.iconst 1, 1) := by decide +kernel
theorem dL_isSo_42 : decode cL_isSo 42 = .ok (.invokestatic 136, 3) := by decide +kernel
theorem dL_isSo_45 : decode cL_isSo 45 = .ok (.ifCond .eq 57, 3) := by decide +kernel
theorem dL_isSo_48 : decode cL_isSo 48 = .ok (.aload_n 0, 1) := by decide +kernel
theorem dL_isSo_49 : decode cL_isSo 49 = .ok (.iconst 1, 1) := by decide +kernel
theorem dL_isSo_50 : decode cL_isSo 50 = .ok (.iconst 0, 1) := by decide +kernel
theorem dL_isSo_51 : decode cL_isSo 51 = .ok (.iconst 1, 1) := by decide +kernel
theorem dL_isSo_52 : decode cL_isSo 52 = .ok (.invokestatic 136, 3) := by decide +kernel
theorem dL_isSo_55 : decode cL_isSo 55 = .ok (.ifCond .eq 47, 3) := by decide +kernel
theorem dL_isSo_58 : decode cL_isSo 58 = .ok (.aload_n 0, 1) := by decide +kernel
theorem dL_isSo_59 : decode cL_isSo 59 = .ok (.iconst 0, 1) := by decide +kernel
theorem dL_isSo_60 : decode cL_isSo 60 = .ok (.iconst 2, 1) := by decide +kernel
theorem dL_isSo_61 : decode cL_isSo 61 = .ok (.iconst 1, 1) := by decide +kernel
theorem dL_isSo_62 : decode cL_isSo 62 = .ok (.invokestatic 136, 3) := by decide +kernel
theorem dL_isSo_65 : decode cL_isSo 65 = .ok (.ifCond .eq 37, 3) := by decide +kernel
theorem dL_isSo_68 : decode cL_isSo 68 = .ok (.aload_n 0, 1) := by decide +kernel
theorem dL_isSo_69 : decode cL_isSo 69 = .ok (.iconst 2, 1) := by decide +kernel
theorem dL_isSo_70 : decode cL_isSo 70 = .ok (.iconst 3, 1) := by decide +kernel
theorem dL_isSo_71 : decode cL_isSo 71 = .ok (.iconst 1, 1) := by decide +kernel
theorem dL_isSo_72 : decode cL_isSo 72 = .ok (.invokestatic 136, 3) := by decide +kernel
theorem dL_isSo_75 : decode cL_isSo 75 = .ok (.ifCond .eq 27, 3) := by decide +kernel
theorem dL_isSo_78 : decode cL_isSo 78 = .ok (.aload_n 0, 1) := by decide +kernel
theorem dL_isSo_79 : decode cL_isSo 79 = .ok (.iconst 3, 1) := by decide +kernel
theorem dL_isSo_80 : decode cL_isSo 80 = .ok (.iconst 2, 1) := by decide +kernel
theorem dL_isSo_81 : decode cL_isSo 81 = .ok (.iconst 1, 1) := by decide +kernel
theorem dL_isSo_82 : decode cL_isSo 82 = .ok (.invokestatic 136, 3) := by decide +kernel
theorem dL_isSo_85 : decode cL_isSo 85 = .ok (.ifCond .eq 17, 3) := by decide +kernel
theorem dL_isSo_88 : decode cL_isSo 88 = .ok (.aload_n 0, 1) := by decide +kernel
theorem dL_isSo_89 : decode cL_isSo 89 = .ok (.iconst 2, 1) := by decide +kernel
theorem dL_isSo_90 : decode cL_isSo 90 = .ok (.iconst 0, 1) := by decide +kernel
theorem dL_isSo_91 : decode cL_isSo 91 = .ok (.iconst 1, 1) := by decide +kernel
theorem dL_isSo_92 : decode cL_isSo 92 = .ok (.invokestatic 136, 3) := by decide +kernel
theorem dL_isSo_95 : decode cL_isSo 95 = .ok (.ifCond .eq 7, 3) := by decide +kernel
theorem dL_isSo_98 : decode cL_isSo 98 = .ok (.iconst 1, 1) := by decide +kernel
theorem dL_isSo_99 : decode cL_isSo 99 = .ok (.goto 4, 3) := by decide +kernel
theorem dL_isSo_102 : decode cL_isSo 102 = .ok (.iconst 0, 1) := by decide +kernel
theorem dL_isSo_103 : decode cL_isSo 103 = .ok (.istore_n 2, 1) := by decide +kernel
theorem dL_isSo_104 : decode cL_isSo 104 = .ok (.aload_n 0, 1) := by decide +kernel
theorem dL_isSo_105 : decode cL_isSo 105 = .ok (.iconst 0, 1) := by decide +kernel
theorem dL_isSo_106 : decode cL_isSo 106 = .ok (.invokevirtual 64, 3) := by decide +kernel
theorem dL_isSo_109 : decode cL_isSo 109 = .ok (.istore_n 3, 1) := by decide +kernel
theorem dL_isSo_110 : decode cL_isSo 110 = .ok (.iconst 0, 1) := by decide +kernel
theorem dL_isSo_111 : decode cL_isSo 111 = .ok (.istore 4, 2) := by decide +kernel
theorem dL_isSo_113 : decode cL_isSo 113 = .ok (.iload 4, 2) := by decide +kernel
theorem dL_isSo_115 : decode cL_isSo 115 = .ok (.iconst 4, 1) := by decide +kernel
theorem dL_isSo_116 : decode cL_isSo 116 = .ok (.if_icmp .ge 157, 3) := by decide +kernel
theorem dL_isSo_119 : decode cL_isSo 119 = .ok (.iload_n 2, 1) := by decide +kernel
theorem dL_isSo_120 : decode cL_isSo 120 = .ok (.ifCond .eq 153, 3) := by decide +kernel
theorem dL_isSo_123 : decode cL_isSo 123 = .ok (.aload_n 0, 1) := by decide +kernel
theorem dL_isSo_124 : decode cL_isSo 124 = .ok (.iload 4, 2) := by decide +kernel
theorem dL_isSo_126 : decode cL_isSo 126 = .ok (.iconst 0, 1) := by decide +kernel
theorem dL_isSo_127 : decode cL_isSo 127 = .ok (.invokevirtual 61, 3) := by decide +kernel
theorem dL_isSo_130 : decode cL_isSo 130 = .ok (.istore 5, 2) := by decide +kernel
theorem dL_isSo_132 : decode cL_isSo 132 = .ok (.iload_n 3, 1) := by decide +kernel
theorem dL_isSo_133 : decode cL_isSo 133 = .ok (.iconst 1, 1) := by decide +kernel
theorem dL_isSo_134 : decode cL_isSo 134 = .ok (.if_icmp .eq 13, 3) := by decide +kernel
theorem dL_isSo_137 : decode cL_isSo 137 = .ok (.iload_n 3, 1) := by decide +kernel
theorem dL_isSo_138 : decode cL_isSo 138 = .ok (.iconst 2, 1) := by decide +kernel
theorem dL_isSo_139 : decode cL_isSo 139 = .ok (.if_icmp .eq 8, 3) := by decide +kernel
theorem dL_isSo_142 : decode cL_isSo 142 = .ok (.iload 5, 2) := by decide +kernel
theorem dL_isSo_144 : decode cL_isSo 144 = .ok (.ifCond .ne 77, 3) := by decide +kernel
theorem dL_isSo_147 : decode cL_isSo 147 = .ok (.iload 5, 2) := by decide +kernel
theorem dL_isSo_149 : decode cL_isSo 149 = .ok (.iconst 1, 1) := by decide +kernel
theorem dL_isSo_150 : decode cL_isSo 150 = .ok (.if_icmp .eq 23, 3) := by decide +kernel
theorem dL_isSo_153 : decode cL_isSo 153 = .ok (.aload_n 0, 1) := by decide +kernel
theorem dL_isSo_154 : decode cL_isSo 154 = .ok (.iload 4, 2) := by decide +kernel
theorem dL_isSo_156 : decode cL_isSo 156 = .ok (.iconst 1, 1) := by decide +kernel
theorem dL_isSo_157 : decode cL_isSo 157 = .ok (.invokevirtual 61, 3) := by decide +kernel
theorem dL_isSo_160 : decode cL_isSo 160 = .ok (.ifCond .ne 61, 3) := by decide +kernel
theorem dL_isSo_163 : decode cL_isSo 163 = .ok (.aload_n 0, 1) := by decide +kernel
theorem dL_isSo_164 : decode cL_isSo 164 = .ok (.iload 4, 2) := by decide +kernel
theorem dL_isSo_166 : decode cL_isSo 166 = .ok (.iconst 2, 1) := by decide +kernel
theorem dL_isSo_167 : decode cL_isSo 167 = .ok (.invokevirtual 61, 3) := by decide +kernel
theorem dL_isSo_170 : decode cL_isSo 170 = .ok (.ifCond .ne 51, 3) := by decide +kernel
theorem dL_isSo_173 : decode cL_isSo 173 = .ok (.aload_n 0, 1) := by decide +kernel
theorem dL_isSo_174 : decode cL_isSo 174 = .ok (.iload 4, 2) := by decide +kernel
theorem dL_isSo_176 : decode cL_isSo 176 = .ok (.iconst 5, 1) := by decide +kernel
theorem dL_isSo_177 : decode cL_isSo 177 = .ok (.invokevirtual 61, 3) := by decide +kernel
theorem dL_isSo_180 : decode cL_isSo 180 = .ok (.aload_n 0, 1) := by decide +kernel
theorem dL_isSo_181 : decode cL_isSo 181 = .ok (.iload 4, 2) := by decide +kernel
theorem dL_isSo_183 : decode cL_isSo 183 = .ok (.iconst 4, 1) := by decide +kernel
theorem dL_isSo_184 : decode cL_isSo 184 = .ok (.invokevirtual 61, 3) := by decide +kernel
theorem dL_isSo_187 : decode cL_isSo 187 = .ok (.if_icmp .lt 34, 3) := by decide +kernel
theorem dL_isSo_190 : decode cL_isSo 190 = .ok (.iload 5, 2) := by decide +kernel
theorem dL_isSo_192 : decode cL_isSo 192 = .ok (.iconst 1, 1) := by decide +kernel
theorem dL_isSo_193 : decode cL_isSo 193 = .ok (.if_icmp .ne 14, 3) := by decide +kernel
theorem dL_isSo_196 : decode cL_isSo 196 = .ok (.aload_n 0, 1) := by decide +kernel
theorem dL_isSo_197 : decode cL_isSo 197 = .ok (.iload 4, 2) := by decide +kernel
theorem dL_isSo_199 : decode cL_isSo 199 = .ok (.bipush 6, 2) := by decide +kernel
theorem dL_isSo_201 : decode cL_isSo 201 = .ok (.invokevirtual 61, 3) := by decide +kernel
theorem dL_isSo_204 : decode cL_isSo 204 = .ok (.ifCond .ne 17, 3) := by decide +kernel
theorem dL_isSo_207 : decode cL_isSo 207 = .ok (.aload_n 0, 1) := by decide +kernel
theorem dL_isSo_208 : decode cL_isSo 208 = .ok (.iload 4, 2) := by decide +kernel
theorem dL_isSo_210 : decode cL_isSo 210 = .ok (.iconst 3, 1) := by decide +kernel
theorem dL_isSo_211 : decode cL_isSo 211 = .ok (.invokevirtual 61, 3) := by decide +kernel
theorem dL_isSo_214 : decode cL_isSo 214 = .ok (.ifCond .lt 7, 3) := by decide +kernel
theorem dL_isSo_217 : decode cL_isSo 217 = .ok (.iconst 1, 1) := by decide +kernel
theorem dL_isSo_218 : decode cL_isSo 218 = .ok (.goto 4, 3) := by decide +kernel
theorem dL_isSo_221 : decode cL_isSo 221 = .ok (.iconst 0, 1) := by decide +kernel
theorem dL_isSo_222 : decode cL_isSo 222 = .ok (.istore_n 2, 1) := by decide +kernel
theorem dL_isSo_223 : decode cL_isSo 223 = .ok (.iload_n 2, 1) := by decide +kernel
theorem dL_isSo_224 : decode cL_isSo 224 = .ok (.ifCond .eq 43, 3) := by decide +kernel
theorem dL_isSo_227 : decode cL_isSo 227 = .ok (.aload_n 0, 1) := by decide +kernel
theorem dL_isSo_228 : decode cL_isSo 228 = .ok (.iconst 2, 1) := by decide +kernel
theorem dL_isSo_229 : decode cL_isSo 229 = .ok (.invokevirtual 64, 3) := by decide +kernel
theorem dL_isSo_232 : decode cL_isSo 232 = .ok (.ifCond .le 35, 3) := by decide +kernel
theorem dL_isSo_235 : decode cL_isSo 235 = .ok (.aload_n 0, 1) := by decide +kernel
theorem dL_isSo_236 : decode cL_isSo 236 = .ok (.iload 4, 2) := by decide +kernel
theorem dL_isSo_238 : decode cL_isSo 238 = .ok (.aload_n 0, 1) := by decide +kernel
theorem dL_isSo_239 : decode cL_isSo 239 = .ok (.iconst 2, 1) := by decide +kernel
theorem dL_isSo_240 : decode cL_isSo 240 = .ok (.invokevirtual 64, 3) := by decide +kernel
theorem dL_isSo_243 : decode cL_isSo 243 = .ok (.iconst 1, 1) := by decide +kernel
theorem dL_isSo_244 : decode cL_isSo 244 = .ok (.isub, 1) := by decide +kernel
theorem dL_isSo_245 : decode cL_isSo 245 = .ok (.invokevirtual 58, 3) := by decide +kernel
theorem dL_isSo_248 : decode cL_isSo 248 = .ok (.istore 6, 2) := by decide +kernel
theorem dL_isSo_250 : decode cL_isSo 250 = .ok (.iload 6, 2) := by decide +kernel
theorem dL_isSo_252 : decode cL_isSo 252 = .ok (.ifCond .lt 13, 3) := by decide +kernel
theorem dL_isSo_255 : decode cL_isSo 255 = .ok (.iload 6, 2) := by decide +kernel
theorem dL_isSo_257 : decode cL_isSo 257 = .ok (.iconst 4, 1) := by decide +kernel
theorem dL_isSo_258 : decode cL_isSo 258 = .ok (.if_icmp .ge 7, 3) := by decide +kernel
theorem dL_isSo_261 : decode cL_isSo 261 = .ok (.iconst 1, 1) := by decide +kernel
theorem dL_isSo_262 : decode cL_isSo 262 = .ok (.goto 4, 3) := by decide +kernel
theorem dL_isSo_265 : decode cL_isSo 265 = .ok (.iconst 0, 1) := by decide +kernel
theorem dL_isSo_266 : decode cL_isSo 266 = .ok (.istore_n 2, 1) := by decide +kernel
theorem dL_isSo_267 : decode cL_isSo 267 = .ok (.iinc 4 1, 3) := by decide +kernel
theorem dL_isSo_270 : decode cL_isSo 270 = .ok (.goto (-157), 3) := by decide +kernel
theorem dL_isSo_273 : decode cL_isSo 273 = .ok (.iconst 0, 1) := by decide +kernel
theorem dL_isSo_274 : decode cL_isSo 274 = .ok (.istore 4, 2) := by decide +kernel
theorem dL_isSo_276 : decode cL_isSo 276 = .ok (.iconst 0, 1) := by decide +kernel
theorem dL_isSo_277 : decode cL_isSo 277 = .ok (.istore 5, 2) := by decide +kernel
theorem dL_isSo_279 : decode cL_isSo 279 = .ok (.iload_n 2, 1) := by decide +kernel
theorem dL_isSo_280 : decode cL_isSo 280 = .ok (.ifCond .eq 31, 3) := by decide +kernel
theorem dL_isSo_283 : decode cL_isSo 283 = .ok (.aload_n 0, 1) := by decide +kernel
theorem dL_isSo_284 : decode cL_isSo 284 = .ok (.iload 4, 2) := by decide +kernel
theorem dL_isSo_286 : decode cL_isSo 286 = .ok (.invokestatic 134, 3) := by decide +kernel
theorem dL_isSo_289 : decode cL_isSo 289 = .ok (.ifCond .lt 22, 3) := by decide +kernel
theorem dL_isSo_292 : decode cL_isSo 292 = .ok (.iload 5, 2) := by decide +kernel
theorem dL_isSo_294 : decode cL_isSo 294 = .ok (.iconst 1, 1) := by decide +kernel
theorem dL_isSo_295 : decode cL_isSo 295 = .ok (.aload_n 0, 1) := by decide +kernel
theorem dL_isSo_296 : decode cL_isSo 296 = .ok (.iload 4, 2) := by decide +kernel
theorem dL_isSo_298 : decode cL_isSo 298 = .ok (.invokevirtual 73, 3) := by decide +kernel
theorem dL_isSo_301 : decode cL_isSo 301 = .ok (.ishl, 1) := by decide +kernel
theorem dL_isSo_302 : decode cL_isSo 302 = .ok (.ior, 1) := by decide +kernel
theorem dL_isSo_303 : decode cL_isSo 303 = .ok (.istore 5, 2) := by decide +kernel
theorem dL_isSo_305 : decode cL_isSo 305 = .ok (.iinc 4 1, 3) := by decide +kernel
theorem dL_isSo_308 : decode cL_isSo 308 = .ok (.goto (-29), 3) := by decide +kernel
theorem dL_isSo_311 : decode cL_isSo 311 = .ok (.iconst 0, 1) := by decide +kernel
theorem dL_isSo_312 : decode cL_isSo 312 = .ok (.istore 6, 2) := by decide +kernel
theorem dL_isSo_314 : decode cL_isSo 314 = .ok (.iconst 0, 1) := by decide +kernel
theorem dL_isSo_315 : decode cL_isSo 315 = .ok (.istore 7, 2) := by decide +kernel
theorem dL_isSo_317 : decode cL_isSo 317 = .ok (.iload 7, 2) := by decide +kernel
theorem dL_isSo_319 : decode cL_isSo 319 = .ok (.iload 4, 2) := by decide +kernel
theorem dL_isSo_321 : decode cL_isSo 321 = .ok (.if_icmp .ge 35, 3) := by decide +kernel
theorem dL_isSo_324 : decode cL_isSo 324 = .ok (.iload 6, 2) := by decide +kernel
theorem dL_isSo_326 : decode cL_isSo 326 = .ok (.aload_n 0, 1) := by decide +kernel
theorem dL_isSo_327 : decode cL_isSo 327 = .ok (.aload_n 0, 1) := by decide +kernel
theorem dL_isSo_328 : decode cL_isSo 328 = .ok (.iload 7, 2) := by decide +kernel
theorem dL_isSo_330 : decode cL_isSo 330 = .ok (.invokevirtual 73, 3) := by decide +kernel
theorem dL_isSo_333 : decode cL_isSo 333 = .ok (.aload_n 0, 1) := by decide +kernel
theorem dL_isSo_334 : decode cL_isSo 334 = .ok (.iload 7, 2) := by decide +kernel
theorem dL_isSo_336 : decode cL_isSo 336 = .ok (.iconst 1, 1) := by decide +kernel
theorem dL_isSo_337 : decode cL_isSo 337 = .ok (.iadd, 1) := by decide +kernel
theorem dL_isSo_338 : decode cL_isSo 338 = .ok (.iload 4, 2) := by decide +kernel
theorem dL_isSo_340 : decode cL_isSo 340 = .ok (.irem, 1) := by decide +kernel
theorem dL_isSo_341 : decode cL_isSo 341 = .ok (.invokevirtual 73, 3) := by decide +kernel
theorem dL_isSo_344 : decode cL_isSo 344 = .ok (.invokevirtual 70, 3) := by decide +kernel
theorem dL_isSo_347 : decode cL_isSo 347 = .ok (.iadd, 1) := by decide +kernel
theorem dL_isSo_348 : decode cL_isSo 348 = .ok (.istore 6, 2) := by decide +kernel
theorem dL_isSo_350 : decode cL_isSo 350 = .ok (.iinc 7 1, 3) := by decide +kernel
theorem dL_isSo_353 : decode cL_isSo 353 = .ok (.goto (-36), 3) := by decide +kernel
theorem dL_isSo_356 : decode cL_isSo 356 = .ok (.iload_n 2, 1) := by decide +kernel
theorem dL_isSo_357 : decode cL_isSo 357 = .ok (.ifCond .eq 47, 3) := by decide +kernel
theorem dL_isSo_360 : decode cL_isSo 360 = .ok (.iload 5, 2) := by decide +kernel
theorem dL_isSo_362 : decode cL_isSo 362 = .ok (.iconst 1, 1) := by decide +kernel
theorem dL_isSo_363 : decode cL_isSo 363 = .ok (.iload 4, 2) := by decide +kernel
theorem dL_isSo_365 : decode cL_isSo 365 = .ok (.ishl, 1) := by decide +kernel
theorem dL_isSo_366 : decode cL_isSo 366 = .ok (.iconst 1, 1) := by decide +kernel
theorem dL_isSo_367 : decode cL_isSo 367 = .ok (.isub, 1) := by decide +kernel
theorem dL_isSo_368 : decode cL_isSo 368 = .ok (.if_icmp .ne 36, 3) := by decide +kernel
theorem dL_isSo_371 : decode cL_isSo 371 = .ok (.iload 6, 2) := by decide +kernel
theorem dL_isSo_373 : decode cL_isSo 373 = .ok (.aload_n 0, 1) := by decide +kernel
theorem dL_isSo_374 : decode cL_isSo 374 = .ok (.invokevirtual 131, 3) := by decide +kernel
theorem dL_isSo_377 : decode cL_isSo 377 = .ok (.iload 4, 2) := by decide +kernel
theorem dL_isSo_379 : decode cL_isSo 379 = .ok (.isub, 1) := by decide +kernel
theorem dL_isSo_380 : decode cL_isSo 380 = .ok (.if_icmp .gt 24, 3) := by decide +kernel
theorem dL_isSo_383 : decode cL_isSo 383 = .ok (.aload_n 0, 1) := by decide +kernel
theorem dL_isSo_384 : decode cL_isSo 384 = .ok (.iload_n 1, 1) := by decide +kernel
theorem dL_isSo_385 : decode cL_isSo 385 = .ok (.iconst 3, 1) := by decide +kernel
theorem dL_isSo_386 : decode cL_isSo 386 = .ok (.invokestatic 76, 3) := by decide +kernel
theorem dL_isSo_389 : decode cL_isSo 389 = .ok (.iload_n 1, 1) := by decide +kernel
theorem dL_isSo_390 : decode cL_isSo 390 = .ok (.iconst 3, 1) := by decide +kernel
theorem dL_isSo_391 : decode cL_isSo 391 = .ok (.invokestatic 76, 3) := by decide +kernel
theorem dL_isSo_394 : decode cL_isSo 394 = .ok (.invokevirtual 70, 3) := by decide +kernel
theorem dL_isSo_397 : decode cL_isSo 397 = .ok (.ifCond .ne 7, 3) := by decide +kernel
theorem dL_isSo_400 : decode cL_isSo 400 = .ok (.iconst 1, 1) := by decide +kernel
theorem dL_isSo_401 : decode cL_isSo 401 = .ok (.goto 4, 3) := by decide +kernel
theorem dL_isSo_404 : decode cL_isSo 404 = .ok (.iconst 0, 1) := by decide +kernel
theorem dL_isSo_405 : decode cL_isSo 405 = .ok (.ireturn, 1) := by decide +kernel
theorem dL_law_0 : decode cL_law 0 = .ok (.new 9, 3) := by decide +kernel
theorem dL_law_3 : decode cL_law 3 = .ok (.dup, 1) := by decide +kernel
theorem dL_law_4 : decode cL_law 4 = .ok (.invokespecial 140, 3) := by decide +kernel
theorem dL_law_7 : decode cL_law 7 = .ok (.astore_n 1, 1) := by decide +kernel
theorem dL_law_8 : decode cL_law 8 = .ok (.new 9, 3) := by decide +kernel
theorem dL_law_11 : decode cL_law 11 = .ok (.dup, 1) := by decide +kernel
theorem dL_law_12 : decode cL_law 12 = .ok (.invokespecial 140, 3) := by decide +kernel
theorem dL_law_15 : decode cL_law 15 = .ok (.astore_n 2, 1) := by decide +kernel
theorem dL_law_16 : decode cL_law 16 = .ok (.aload_n 1, 1) := by decide +kernel
theorem dL_law_17 : decode cL_law 17 = .ok (.aload_n 0, 1) := by decide +kernel
theorem dL_law_18 : decode cL_law 18 = .ok (.iconst 0, 1) := by decide +kernel
theorem dL_law_19 : decode cL_law 19 = .ok (.invokestatic 141, 3) := by decide +kernel
theorem dL_law_22 : decode cL_law 22 = .ok (.invokestatic 145, 3) := by decide +kernel
theorem dL_law_25 : decode cL_law 25 = .ok (.aload_n 2, 1) := by decide +kernel
theorem dL_law_26 : decode cL_law 26 = .ok (.aload_n 0, 1) := by decide +kernel
theorem dL_law_27 : decode cL_law 27 = .ok (.iconst 0, 1) := by decide +kernel
theorem dL_law_28 : decode cL_law 28 = .ok (.invokestatic 141, 3) := by decide +kernel
theorem dL_law_31 : decode cL_law 31 = .ok (.invokestatic 145, 3) := by decide +kernel
theorem dL_law_34 : decode cL_law 34 = .ok (.iconst 1, 1) := by decide +kernel
theorem dL_law_35 : decode cL_law 35 = .ok (.istore_n 3, 1) := by decide +kernel
theorem dL_law_36 : decode cL_law 36 = .ok (.iload_n 3, 1) := by decide +kernel
theorem dL_law_37 : decode cL_law 37 = .ok (.bipush 100, 2) := by decide +kernel
theorem dL_law_39 : decode cL_law 39 = .ok (.if_icmp .ge 65, 3) := by decide +kernel
theorem dL_law_42 : decode cL_law 42 = .ok (.aload_n 0, 1) := by decide +kernel
theorem dL_law_43 : decode cL_law 43 = .ok (.iload_n 3, 1) := by decide +kernel
theorem dL_law_44 : decode cL_law 44 = .ok (.invokestatic 141, 3) := by decide +kernel
theorem dL_law_47 : decode cL_law 47 = .ok (.istore 4, 2) := by decide +kernel
theorem dL_law_49 : decode cL_law 49 = .ok (.aload_n 1, 1) := by decide +kernel
theorem dL_law_50 : decode cL_law 50 = .ok (.iload 4, 2) := by decide +kernel
theorem dL_law_52 : decode cL_law 52 = .ok (.invokestatic 149, 3) := by decide +kernel
theorem dL_law_55 : decode cL_law 55 = .ok (.istore 5, 2) := by decide +kernel
theorem dL_law_57 : decode cL_law 57 = .ok (.iload 5, 2) := by decide +kernel
theorem dL_law_59 : decode cL_law 59 = .ok (.ldc 16, 2) := by decide +kernel
theorem dL_law_61 : decode cL_law 61 = .ok (.if_icmp .eq 14, 3) := by decide +kernel
theorem dL_law_64 : decode cL_law 64 = .ok (.aload_n 2, 1) := by decide +kernel
theorem dL_law_65 : decode cL_law 65 = .ok (.iload 4, 2) := by decide +kernel
theorem dL_law_67 : decode cL_law 67 = .ok (.invokestatic 149, 3) := by decide +kernel
theorem dL_law_70 : decode cL_law 70 = .ok (.iload 5, 2) := by decide +kernel
theorem dL_law_72 : decode cL_law 72 = .ok (.if_icmp .ne 24, 3) := by decide +kernel
theorem dL_law_75 : decode cL_law 75 = .ok (.iload_n 3, 1) := by decide +kernel
theorem dL_law_76 : decode cL_law 76 = .ok (.bipush 33, 2) := by decide +kernel
theorem dL_law_78 : decode cL_law 78 = .ok (.irem, 1) := by decide +kernel
theorem dL_law_79 : decode cL_law 79 = .ok (.bipush 32, 2) := by decide +kernel
theorem dL_law_81 : decode cL_law 81 = .ok (.if_icmp .ne 17, 3) := by decide +kernel
theorem dL_law_84 : decode cL_law 84 = .ok (.aload_n 1, 1) := by decide +kernel
theorem dL_law_85 : decode cL_law 85 = .ok (.aload_n 2, 1) := by decide +kernel
theorem dL_law_86 : decode cL_law 86 = .ok (.iload 4, 2) := by decide +kernel
theorem dL_law_88 : decode cL_law 88 = .ok (.iconst 3, 1) := by decide +kernel
theorem dL_law_89 : decode cL_law 89 = .ok (.ishr, 1) := by decide +kernel
theorem dL_law_90 : decode cL_law 90 = .ok (.invokestatic 152, 3) := by decide +kernel
theorem dL_law_93 : decode cL_law 93 = .ok (.ifCond .ne 5, 3) := by decide +kernel
theorem dL_law_96 : decode cL_law 96 = .ok (.iconst 0, 1) := by decide +kernel
theorem dL_law_97 : decode cL_law 97 = .ok (.ireturn, 1) := by decide +kernel
theorem dL_law_98 : decode cL_law 98 = .ok (.iinc 3 1, 3) := by decide +kernel
theorem dL_law_101 : decode cL_law 101 = .ok (.goto (-65), 3) := by decide +kernel
theorem dL_law_104 : decode cL_law 104 = .ok (.aload_n 1, 1) := by decide +kernel
theorem dL_law_105 : decode cL_law 105 = .ok (.aload_n 0, 1) := by decide +kernel
theorem dL_law_106 : decode cL_law 106 = .ok (.bipush 100, 2) := by decide +kernel
theorem dL_law_108 : decode cL_law 108 = .ok (.invokestatic 141, 3) := by decide +kernel
theorem dL_law_111 : decode cL_law 111 = .ok (.invokestatic 156, 3) := by decide +kernel
theorem dL_law_114 : decode cL_law 114 = .ok (.ireturn, 1) := by decide +kernel
