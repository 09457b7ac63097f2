theorem dX0_init_0 : decode cX0_init 0 = .ok (.aload_n 0, 1) := by decide +kernel
theorem dX0_init_1 : decode cX0_init 1 = .ok (.invokespecial 3, 3) := by decide +kernel
theorem dX0_init_4 : decode cX0_init 4 = .ok (.aload_n 0, 1) := by decide +kernel
theorem dX0_init_5 : decode cX0_init 5 = .ok (.new 9, 3) := by decide +kernel
theorem dX0_init_8 : decode cX0_init 8 = .ok (.dup, 1) := by decide +kernel
theorem dX0_init_9 : decode cX0_init 9 = .ok (.invokespecial 11, 3) := by decide +kernel
theorem dX0_init_12 : decode cX0_init 12 = .ok (.putfield 12, 3) := by decide +kernel
theorem dX0_init_15 : decode cX0_init 15 = .ok (.aload_n 0, 1) := by decide +kernel
theorem dX0_init_16 : decode cX0_init 16 = .ok (.bipush 16, 2) := by decide +kernel
theorem dX0_init_18 : decode cX0_init 18 = .ok (.newarray .int, 2) := by decide +kernel
theorem dX0_init_20 : decode cX0_init 20 = .ok (.putfield 18, 3) := by decide +kernel
theorem dX0_init_23 : decode cX0_init 23 = .ok (.aload_n 0, 1) := by decide +kernel
theorem dX0_init_24 : decode cX0_init 24 = .ok (.sipush 6272, 3) := by decide +kernel
theorem dX0_init_27 : decode cX0_init 27 = .ok (.newarray .int, 2) := by decide +kernel
theorem dX0_init_29 : decode cX0_init 29 = .ok (.putfield 22, 3) := by decide +kernel
theorem dX0_init_32 : decode cX0_init 32 = .ok (.aload_n 0, 1) := by decide +kernel
theorem dX0_init_33 : decode cX0_init 33 = .ok (.sipush 6272, 3) := by decide +kernel
theorem dX0_init_36 : decode cX0_init 36 = .ok (.newarray .int, 2) := by decide +kernel
theorem dX0_init_38 : decode cX0_init 38 = .ok (.putfield 25, 3) := by decide +kernel
theorem dX0_init_41 : decode cX0_init 41 = .ok (.aload_n 0, 1) := by decide +kernel
theorem dX0_init_42 : decode cX0_init 42 = .ok (.sipush 6272, 3) := by decide +kernel
theorem dX0_init_45 : decode cX0_init 45 = .ok (.newarray .int, 2) := by decide +kernel
theorem dX0_init_47 : decode cX0_init 47 = .ok (.putfield 28, 3) := by decide +kernel
theorem dX0_init_50 : decode cX0_init 50 = .ok (.aload_n 0, 1) := by decide +kernel
theorem dX0_init_51 : decode cX0_init 51 = .ok (.sipush 6272, 3) := by decide +kernel
theorem dX0_init_54 : decode cX0_init 54 = .ok (.newarray .int, 2) := by decide +kernel
theorem dX0_init_56 : decode cX0_init 56 = .ok (.putfield 31, 3) := by decide +kernel
theorem dX0_init_59 : decode cX0_init 59 = .ok (.aload_n 0, 1) := by decide +kernel
theorem dX0_init_60 : decode cX0_init 60 = .ok (.bipush 16, 2) := by decide +kernel
theorem dX0_init_62 : decode cX0_init 62 = .ok (.newarray .int, 2) := by decide +kernel
theorem dX0_init_64 : decode cX0_init 64 = .ok (.putfield 34, 3) := by decide +kernel
theorem dX0_init_67 : decode cX0_init 67 = .ok (.aload_n 0, 1) := by decide +kernel
theorem dX0_init_68 : decode cX0_init 68 = .ok (.bipush 16, 2) := by decide +kernel
theorem dX0_init_70 : decode cX0_init 70 = .ok (.putfield 37, 3) := by decide +kernel
theorem dX0_init_73 : decode cX0_init 73 = .ok (.return_, 1) := by decide +kernel
theorem dX0_state_0 : decode cX0_state 0 = .ok (.iload_n 0, 1) := by decide +kernel
theorem dX0_state_1 : decode cX0_state 1 = .ok (.bipush 56, 2) := by decide +kernel
theorem dX0_state_3 : decode cX0_state 3 = .ok (.imul, 1) := by decide +kernel
theorem dX0_state_4 : decode cX0_state 4 = .ok (.iload_n 1, 1) := by decide +kernel
theorem dX0_state_5 : decode cX0_state 5 = .ok (.iadd, 1) := by decide +kernel
theorem dX0_state_6 : decode cX0_state 6 = .ok (.iconst 2, 1) := by decide +kernel
theorem dX0_state_7 : decode cX0_state 7 = .ok (.imul, 1) := by decide +kernel
theorem dX0_state_8 : decode cX0_state 8 = .ok (.iload_n 2, 1) := by decide +kernel
theorem dX0_state_9 : decode cX0_state 9 = .ok (.iadd, 1) := by decide +kernel
theorem dX0_state_10 : decode cX0_state 10 = .ok (.ireturn, 1) := by decide +kernel
theorem dX0_takeFoes_0 : decode cX0_takeFoes 0 = .ok (.aload_n 1, 1) := by decide +kernel
theorem dX0_takeFoes_1 : decode cX0_takeFoes 1 = .ok (.getfield 41, 3) := by decide +kernel
theorem dX0_takeFoes_4 : decode cX0_takeFoes 4 = .ok (.aload_n 0, 1) := by decide +kernel
theorem dX0_takeFoes_5 : decode cX0_takeFoes 5 = .ok (.getfield 18, 3) := by decide +kernel
theorem dX0_takeFoes_8 : decode cX0_takeFoes 8 = .ok (.bipush 16, 2) := by decide +kernel
theorem dX0_takeFoes_10 : decode cX0_takeFoes 10 = .ok (.invokestatic 44, 3) := by decide +kernel
theorem dX0_takeFoes_13 : decode cX0_takeFoes 13 = .ok (.return_, 1) := by decide +kernel
theorem dX0_toggleFoes_0 : decode cX0_toggleFoes 0 = .ok (.aload_n 0, 1) := by decide +kernel
theorem dX0_toggleFoes_1 : decode cX0_toggleFoes 1 = .ok (.getfield 18, 3) := by decide +kernel
theorem dX0_toggleFoes_4 : decode cX0_toggleFoes 4 = .ok (.iload_n 1, 1) := by decide +kernel
theorem dX0_toggleFoes_5 : decode cX0_toggleFoes 5 = .ok (.iload_n 2, 1) := by decide +kernel
theorem dX0_toggleFoes_6 : decode cX0_toggleFoes 6 = .ok (.invokestatic 50, 3) := by decide +kernel
theorem dX0_toggleFoes_9 : decode cX0_toggleFoes 9 = .ok (.return_, 1) := by decide +kernel
theorem dX0_spot_0 : decode cX0_spot 0 = .ok (.iload_n 1, 1) := by decide +kernel
theorem dX0_spot_1 : decode cX0_spot 1 = .ok (.ifCond .ne 12, 3) := by decide +kernel
theorem dX0_spot_4 : decode cX0_spot 4 = .ok (.iload_n 0, 1) := by decide +kernel
theorem dX0_spot_5 : decode cX0_spot 5 = .ok (.iconst 2, 1) := by decide +kernel
theorem dX0_spot_6 : decode cX0_spot 6 = .ok (.idiv, 1) := by decide +kernel
theorem dX0_spot_7 : decode cX0_spot 7 = .ok (.bipush 56, 2) := by decide +kernel
theorem dX0_spot_9 : decode cX0_spot 9 = .ok (.idiv, 1) := by decide +kernel
theorem dX0_spot_10 : decode cX0_spot 10 = .ok (.goto 9, 3) := by decide +kernel
theorem dX0_spot_13 : decode cX0_spot 13 = .ok (.iload_n 0, 1) := by decide +kernel
theorem dX0_spot_14 : decode cX0_spot 14 = .ok (.iconst 2, 1) := by decide +kernel
theorem dX0_spot_15 : decode cX0_spot 15 = .ok (.idiv, 1) := by decide +kernel
theorem dX0_spot_16 : decode cX0_spot 16 = .ok (.bipush 56, 2) := by decide +kernel
theorem dX0_spot_18 : decode cX0_spot 18 = .ok (.irem, 1) := by decide +kernel
theorem dX0_spot_19 : decode cX0_spot 19 = .ok (.ireturn, 1) := by decide +kernel
theorem dX0_holder_0 : decode cX0_holder 0 = .ok (.aload_n 0, 1) := by decide +kernel
theorem dX0_holder_1 : decode cX0_holder 1 = .ok (.getfield 12, 3) := by decide +kernel
theorem dX0_holder_4 : decode cX0_holder 4 = .ok (.getfield 54, 3) := by decide +kernel
theorem dX0_holder_7 : decode cX0_holder 7 = .ok (.iload_n 1, 1) := by decide +kernel
theorem dX0_holder_8 : decode cX0_holder 8 = .ok (.iload_n 2, 1) := by decide +kernel
theorem dX0_holder_9 : decode cX0_holder 9 = .ok (.invokestatic 57, 3) := by decide +kernel
theorem dX0_holder_12 : decode cX0_holder 12 = .ok (.invokestatic 61, 3) := by decide +kernel
theorem dX0_holder_15 : decode cX0_holder 15 = .ok (.ireturn, 1) := by decide +kernel
theorem dX0_fromWhom_0 : decode cX0_fromWhom 0 = .ok (.iload_n 1, 1) := by decide +kernel
theorem dX0_fromWhom_1 : decode cX0_fromWhom 1 = .ok (.iload_n 2, 1) := by decide +kernel
theorem dX0_fromWhom_2 : decode cX0_fromWhom 2 = .ok (.invokestatic 57, 3) := by decide +kernel
theorem dX0_fromWhom_5 : decode cX0_fromWhom 5 = .ok (.istore_n 3, 1) := by decide +kernel
theorem dX0_fromWhom_6 : decode cX0_fromWhom 6 = .ok (.iload_n 3, 1) := by decide +kernel
theorem dX0_fromWhom_7 : decode cX0_fromWhom 7 = .ok (.bipush 16, 2) := by decide +kernel
theorem dX0_fromWhom_9 : decode cX0_fromWhom 9 = .ok (.if_icmp .ge 7, 3) := by decide +kernel
theorem dX0_fromWhom_12 : decode cX0_fromWhom 12 = .ok (.iconst (-1), 1) := by decide +kernel
theorem dX0_fromWhom_13 : decode cX0_fromWhom 13 = .ok (.goto 14, 3) := by decide +kernel
theorem dX0_fromWhom_16 : decode cX0_fromWhom 16 = .ok (.aload_n 0, 1) := by decide +kernel
theorem dX0_fromWhom_17 : decode cX0_fromWhom 17 = .ok (.getfield 12, 3) := by decide +kernel
theorem dX0_fromWhom_20 : decode cX0_fromWhom 20 = .ok (.getfield 65, 3) := by decide +kernel
theorem dX0_fromWhom_23 : decode cX0_fromWhom 23 = .ok (.iload_n 3, 1) := by decide +kernel
theorem dX0_fromWhom_24 : decode cX0_fromWhom 24 = .ok (.invokestatic 61, 3) := by decide +kernel
theorem dX0_fromWhom_27 : decode cX0_fromWhom 27 = .ok (.ireturn, 1) := by decide +kernel
theorem dX0_isEnded_0 : decode cX0_isEnded 0 = .ok (.aload_n 0, 1) := by decide +kernel
theorem dX0_isEnded_1 : decode cX0_isEnded 1 = .ok (.getfield 12, 3) := by decide +kernel
theorem dX0_isEnded_4 : decode cX0_isEnded 4 = .ok (.getfield 54, 3) := by decide +kernel
theorem dX0_isEnded_7 : decode cX0_isEnded 7 = .ok (.iload_n 1, 1) := by decide +kernel
theorem dX0_isEnded_8 : decode cX0_isEnded 8 = .ok (.iconst 0, 1) := by decide +kernel
theorem dX0_isEnded_9 : decode cX0_isEnded 9 = .ok (.invokestatic 57, 3) := by decide +kernel
theorem dX0_isEnded_12 : decode cX0_isEnded 12 = .ok (.invokestatic 61, 3) := by decide +kernel
theorem dX0_isEnded_15 : decode cX0_isEnded 15 = .ok (.istore_n 2, 1) := by decide +kernel
theorem dX0_isEnded_16 : decode cX0_isEnded 16 = .ok (.aload_n 0, 1) := by decide +kernel
theorem dX0_isEnded_17 : decode cX0_isEnded 17 = .ok (.getfield 12, 3) := by decide +kernel
theorem dX0_isEnded_20 : decode cX0_isEnded 20 = .ok (.getfield 54, 3) := by decide +kernel
theorem dX0_isEnded_23 : decode cX0_isEnded 23 = .ok (.iload_n 1, 1) := by decide +kernel
theorem dX0_isEnded_24 : decode cX0_isEnded 24 = .ok (.iconst 1, 1) := by decide +kernel
theorem dX0_isEnded_25 : decode cX0_isEnded 25 = .ok (.invokestatic 57, 3) := by decide +kernel
theorem dX0_isEnded_28 : decode cX0_isEnded 28 = .ok (.invokestatic 61, 3) := by decide +kernel
theorem dX0_isEnded_31 : decode cX0_isEnded 31 = .ok (.istore_n 3, 1) := by decide +kernel
theorem dX0_isEnded_32 : decode cX0_isEnded 32 = .ok (.aload_n 0, 1) := by decide +kernel
theorem dX0_isEnded_33 : decode cX0_isEnded 33 = .ok (.getfield 18, 3) := by decide +kernel
theorem dX0_isEnded_36 : decode cX0_isEnded 36 = .ok (.iload_n 2, 1) := by decide +kernel
theorem dX0_isEnded_37 : decode cX0_isEnded 37 = .ok (.invokestatic 61, 3) := by decide +kernel
theorem dX0_isEnded_40 : decode cX0_isEnded 40 = .ok (.iload_n 3, 1) := by decide +kernel
theorem dX0_isEnded_41 : decode cX0_isEnded 41 = .ok (.ishr, 1) := by decide +kernel
theorem dX0_isEnded_42 : decode cX0_isEnded 42 = .ok (.iconst 1, 1) := by decide +kernel
theorem dX0_isEnded_43 : decode cX0_isEnded 43 = .ok (.iand, 1) := by decide +kernel
theorem dX0_isEnded_44 : decode cX0_isEnded 44 = .ok (.ifCond .ne 7, 3) := by decide +kernel
theorem dX0_isEnded_47 : decode cX0_isEnded 47 = .ok (.iconst 1, 1) := by decide +kernel
theorem dX0_isEnded_48 : decode cX0_isEnded 48 = .ok (.goto 4, 3) := by decide +kernel
theorem dX0_isEnded_51 : decode cX0_isEnded 51 = .ok (.iconst 0, 1) := by decide +kernel
theorem dX0_isEnded_52 : decode cX0_isEnded 52 = .ok (.ireturn, 1) := by decide +kernel
theorem dX0_howIs_0 : decode cX0_howIs 0 = .ok (.aload_n 0, 1) := by decide +kernel
theorem dX0_howIs_1 : decode cX0_howIs 1 = .ok (.iload_n 1, 1) := by decide +kernel
theorem dX0_howIs_2 : decode cX0_howIs 2 = .ok (.invokevirtual 68, 3) := by decide +kernel
theorem dX0_howIs_5 : decode cX0_howIs 5 = .ok (.ifCond .eq 5, 3) := by decide +kernel
theorem dX0_howIs_8 : decode cX0_howIs 8 = .ok (.iconst 1, 1) := by decide +kernel
theorem dX0_howIs_9 : decode cX0_howIs 9 = .ok (.ireturn, 1) := by decide +kernel
theorem dX0_howIs_10 : decode cX0_howIs 10 = .ok (.aload_n 0, 1) := by decide +kernel
theorem dX0_howIs_11 : decode cX0_howIs 11 = .ok (.iload_n 1, 1) := by decide +kernel
theorem dX0_howIs_12 : decode cX0_howIs 12 = .ok (.invokevirtual 72, 3) := by decide +kernel
theorem dX0_howIs_15 : decode cX0_howIs 15 = .ok (.lconst 0, 1) := by decide +kernel
theorem dX0_howIs_16 : decode cX0_howIs 16 = .ok (.lcmp, 1) := by decide +kernel
theorem dX0_howIs_17 : decode cX0_howIs 17 = .ok (.ifCond .ne 19, 3) := by decide +kernel
theorem dX0_howIs_20 : decode cX0_howIs 20 = .ok (.aload_n 0, 1) := by decide +kernel
theorem dX0_howIs_21 : decode cX0_howIs 21 = .ok (.iload_n 1, 1) := by decide +kernel
theorem dX0_howIs_22 : decode cX0_howIs 22 = .ok (.iconst 1, 1) := by decide +kernel
theorem dX0_howIs_23 : decode cX0_howIs 23 = .ok (.ixor, 1) := by decide +kernel
theorem dX0_howIs_24 : decode cX0_howIs 24 = .ok (.invokevirtual 72, 3) := by decide +kernel
theorem dX0_howIs_27 : decode cX0_howIs 27 = .ok (.lconst 0, 1) := by decide +kernel
theorem dX0_howIs_28 : decode cX0_howIs 28 = .ok (.lcmp, 1) := by decide +kernel
theorem dX0_howIs_29 : decode cX0_howIs 29 = .ok (.ifCond .ne 7, 3) := by decide +kernel
theorem dX0_howIs_32 : decode cX0_howIs 32 = .ok (.iconst 2, 1) := by decide +kernel
theorem dX0_howIs_33 : decode cX0_howIs 33 = .ok (.goto 4, 3) := by decide +kernel
theorem dX0_howIs_36 : decode cX0_howIs 36 = .ok (.iconst 0, 1) := by decide +kernel
theorem dX0_howIs_37 : decode cX0_howIs 37 = .ok (.ireturn, 1) := by decide +kernel
theorem dX0_onwardOf_0 : decode cX0_onwardOf 0 = .ok (.iload_n 1, 1) := by decide +kernel
theorem dX0_onwardOf_1 : decode cX0_onwardOf 1 = .ok (.iconst 1, 1) := by decide +kernel
theorem dX0_onwardOf_2 : decode cX0_onwardOf 2 = .ok (.iand, 1) := by decide +kernel
theorem dX0_onwardOf_3 : decode cX0_onwardOf 3 = .ok (.istore_n 2, 1) := by decide +kernel
theorem dX0_onwardOf_4 : decode cX0_onwardOf 4 = .ok (.aload_n 0, 1) := by decide +kernel
theorem dX0_onwardOf_5 : decode cX0_onwardOf 5 = .ok (.getfield 12, 3) := by decide +kernel
theorem dX0_onwardOf_8 : decode cX0_onwardOf 8 = .ok (.getfield 54, 3) := by decide +kernel
theorem dX0_onwardOf_11 : decode cX0_onwardOf 11 = .ok (.iload_n 1, 1) := by decide +kernel
theorem dX0_onwardOf_12 : decode cX0_onwardOf 12 = .ok (.iconst 1, 1) := by decide +kernel
theorem dX0_onwardOf_13 : decode cX0_onwardOf 13 = .ok (.iload_n 2, 1) := by decide +kernel
theorem dX0_onwardOf_14 : decode cX0_onwardOf 14 = .ok (.isub, 1) := by decide +kernel
theorem dX0_onwardOf_15 : decode cX0_onwardOf 15 = .ok (.invokestatic 57, 3) := by decide +kernel
theorem dX0_onwardOf_18 : decode cX0_onwardOf 18 = .ok (.invokestatic 61, 3) := by decide +kernel
theorem dX0_onwardOf_21 : decode cX0_onwardOf 21 = .ok (.istore_n 3, 1) := by decide +kernel
theorem dX0_onwardOf_22 : decode cX0_onwardOf 22 = .ok (.aload_n 0, 1) := by decide +kernel
theorem dX0_onwardOf_23 : decode cX0_onwardOf 23 = .ok (.getfield 12, 3) := by decide +kernel
theorem dX0_onwardOf_26 : decode cX0_onwardOf 26 = .ok (.getfield 76, 3) := by decide +kernel
theorem dX0_onwardOf_29 : decode cX0_onwardOf 29 = .ok (.iload_n 1, 1) := by decide +kernel
theorem dX0_onwardOf_30 : decode cX0_onwardOf 30 = .ok (.iload_n 2, 1) := by decide +kernel
theorem dX0_onwardOf_31 : decode cX0_onwardOf 31 = .ok (.invokestatic 57, 3) := by decide +kernel
theorem dX0_onwardOf_34 : decode cX0_onwardOf 34 = .ok (.invokestatic 80, 3) := by decide +kernel
theorem dX0_onwardOf_37 : decode cX0_onwardOf 37 = .ok (.aload_n 0, 1) := by decide +kernel
theorem dX0_onwardOf_38 : decode cX0_onwardOf 38 = .ok (.getfield 12, 3) := by decide +kernel
theorem dX0_onwardOf_41 : decode cX0_onwardOf 41 = .ok (.getfield 83, 3) := by decide +kernel
theorem dX0_onwardOf_44 : decode cX0_onwardOf 44 = .ok (.iload_n 3, 1) := by decide +kernel
theorem dX0_onwardOf_45 : decode cX0_onwardOf 45 = .ok (.invokestatic 80, 3) := by decide +kernel
theorem dX0_onwardOf_48 : decode cX0_onwardOf 48 = .ok (.ldc2_w 86, 3) := by decide +kernel
theorem dX0_onwardOf_51 : decode cX0_onwardOf 51 = .ok (.lxor, 1) := by decide +kernel
theorem dX0_onwardOf_52 : decode cX0_onwardOf 52 = .ok (.land, 1) := by decide +kernel
theorem dX0_onwardOf_53 : decode cX0_onwardOf 53 = .ok (.lreturn, 1) := by decide +kernel
theorem dX0_after_0 : decode cX0_after 0 = .ok (.iload_n 1, 1) := by decide +kernel
theorem dX0_after_1 : decode cX0_after 1 = .ok (.iconst 1, 1) := by decide +kernel
theorem dX0_after_2 : decode cX0_after 2 = .ok (.iand, 1) := by decide +kernel
theorem dX0_after_3 : decode cX0_after 3 = .ok (.ifCond .ne 16, 3) := by decide +kernel
theorem dX0_after_6 : decode cX0_after 6 = .ok (.iload_n 2, 1) := by decide +kernel
theorem dX0_after_7 : decode cX0_after 7 = .ok (.iload_n 1, 1) := by decide +kernel
theorem dX0_after_8 : decode cX0_after 8 = .ok (.iconst 1, 1) := by decide +kernel
theorem dX0_after_9 : decode cX0_after 9 = .ok (.invokestatic 57, 3) := by decide +kernel
theorem dX0_after_12 : decode cX0_after 12 = .ok (.iconst 1, 1) := by decide +kernel
theorem dX0_after_13 : decode cX0_after 13 = .ok (.invokestatic 88, 3) := by decide +kernel
theorem dX0_after_16 : decode cX0_after 16 = .ok (.goto 13, 3) := by decide +kernel
theorem dX0_after_19 : decode cX0_after 19 = .ok (.iload_n 1, 1) := by decide +kernel
theorem dX0_after_20 : decode cX0_after 20 = .ok (.iconst 0, 1) := by decide +kernel
theorem dX0_after_21 : decode cX0_after 21 = .ok (.invokestatic 57, 3) := by decide +kernel
theorem dX0_after_24 : decode cX0_after 24 = .ok (.iload_n 2, 1) := by decide +kernel
theorem dX0_after_25 : decode cX0_after 25 = .ok (.iconst 0, 1) := by decide +kernel
theorem dX0_after_26 : decode cX0_after 26 = .ok (.invokestatic 88, 3) := by decide +kernel
theorem dX0_after_29 : decode cX0_after 29 = .ok (.ireturn, 1) := by decide +kernel
theorem dX0_allowed_0 : decode cX0_allowed 0 = .ok (.aload_n 0, 1) := by decide +kernel
theorem dX0_allowed_1 : decode cX0_allowed 1 = .ok (.iload_n 1, 1) := by decide +kernel
theorem dX0_allowed_2 : decode cX0_allowed 2 = .ok (.invokevirtual 68, 3) := by decide +kernel
theorem dX0_allowed_5 : decode cX0_allowed 5 = .ok (.ifCond .eq 5, 3) := by decide +kernel
theorem dX0_allowed_8 : decode cX0_allowed 8 = .ok (.iconst 0, 1) := by decide +kernel
theorem dX0_allowed_9 : decode cX0_allowed 9 = .ok (.ireturn, 1) := by decide +kernel
theorem dX0_allowed_10 : decode cX0_allowed 10 = .ok (.iconst 0, 1) := by decide +kernel
theorem dX0_allowed_11 : decode cX0_allowed 11 = .ok (.istore_n 2, 1) := by decide +kernel
theorem dX0_allowed_12 : decode cX0_allowed 12 = .ok (.aload_n 0, 1) := by decide +kernel
theorem dX0_allowed_13 : decode cX0_allowed 13 = .ok (.iload_n 1, 1) := by decide +kernel
theorem dX0_allowed_14 : decode cX0_allowed 14 = .ok (.invokevirtual 72, 3) := by decide +kernel
theorem dX0_allowed_17 : decode cX0_allowed 17 = .ok (.lstore_n 3, 1) := by decide +kernel
theorem dX0_allowed_18 : decode cX0_allowed 18 = .ok (.lload_n 3, 1) := by decide +kernel
theorem dX0_allowed_19 : decode cX0_allowed 19 = .ok (.invokestatic 92, 3) := by decide +kernel
theorem dX0_allowed_22 : decode cX0_allowed 22 = .ok (.istore 5, 2) := by decide +kernel
theorem dX0_allowed_24 : decode cX0_allowed 24 = .ok (.iload 5, 2) := by decide +kernel
theorem dX0_allowed_26 : decode cX0_allowed 26 = .ok (.ifCond .le 34, 3) := by decide +kernel
theorem dX0_allowed_29 : decode cX0_allowed 29 = .ok (.iload_n 2, 1) := by decide +kernel
theorem dX0_allowed_30 : decode cX0_allowed 30 = .ok (.iconst 1, 1) := by decide +kernel
theorem dX0_allowed_31 : decode cX0_allowed 31 = .ok (.aload_n 0, 1) := by decide +kernel
theorem dX0_allowed_32 : decode cX0_allowed 32 = .ok (.getfield 12, 3) := by decide +kernel
theorem dX0_allowed_35 : decode cX0_allowed 35 = .ok (.getfield 54, 3) := by decide +kernel
theorem dX0_allowed_38 : decode cX0_allowed 38 = .ok (.lload_n 3, 1) := by decide +kernel
theorem dX0_allowed_39 : decode cX0_allowed 39 = .ok (.invokestatic 98, 3) := by decide +kernel
theorem dX0_allowed_42 : decode cX0_allowed 42 = .ok (.invokestatic 61, 3) := by decide +kernel
theorem dX0_allowed_45 : decode cX0_allowed 45 = .ok (.ishl, 1) := by decide +kernel
theorem dX0_allowed_46 : decode cX0_allowed 46 = .ok (.ior, 1) := by decide +kernel
theorem dX0_allowed_47 : decode cX0_allowed 47 = .ok (.istore_n 2, 1) := by decide +kernel
theorem dX0_allowed_48 : decode cX0_allowed 48 = .ok (.lload_n 3, 1) := by decide +kernel
theorem dX0_allowed_49 : decode cX0_allowed 49 = .ok (.lload_n 3, 1) := by decide +kernel
theorem dX0_allowed_50 : decode cX0_allowed 50 = .ok (.lconst 1, 1) := by decide +kernel
theorem dX0_allowed_51 : decode cX0_allowed 51 = .ok (.lsub, 1) := by decide +kernel
theorem dX0_allowed_52 : decode cX0_allowed 52 = .ok (.land, 1) := by decide +kernel
theorem dX0_allowed_53 : decode cX0_allowed 53 = .ok (.lstore_n 3, 1) := by decide +kernel
theorem dX0_allowed_54 : decode cX0_allowed 54 = .ok (.iinc 5 (-1), 3) := by decide +kernel
theorem dX0_allowed_57 : decode cX0_allowed 57 = .ok (.goto (-33), 3) := by decide +kernel
theorem dX0_allowed_60 : decode cX0_allowed 60 = .ok (.iload_n 2, 1) := by decide +kernel
theorem dX0_allowed_61 : decode cX0_allowed 61 = .ok (.ireturn, 1) := by decide +kernel
theorem dX0_spotFor_0 : decode cX0_spotFor 0 = .ok (.aload_n 0, 1) := by decide +kernel
theorem dX0_spotFor_1 : decode cX0_spotFor 1 = .ok (.iload_n 1, 1) := by decide +kernel
theorem dX0_spotFor_2 : decode cX0_spotFor 2 = .ok (.invokevirtual 72, 3) := by decide +kernel
theorem dX0_spotFor_5 : decode cX0_spotFor 5 = .ok (.aload_n 0, 1) := by decide +kernel
theorem dX0_spotFor_6 : decode cX0_spotFor 6 = .ok (.getfield 12, 3) := by decide +kernel
theorem dX0_spotFor_9 : decode cX0_spotFor 9 = .ok (.getfield 83, 3) := by decide +kernel
theorem dX0_spotFor_12 : decode cX0_spotFor 12 = .ok (.iload_n 2, 1) := by decide +kernel
theorem dX0_spotFor_13 : decode cX0_spotFor 13 = .ok (.invokestatic 80, 3) := by decide +kernel
theorem dX0_spotFor_16 : decode cX0_spotFor 16 = .ok (.land, 1) := by decide +kernel
theorem dX0_spotFor_17 : decode cX0_spotFor 17 = .ok (.invokestatic 98, 3) := by decide +kernel
theorem dX0_spotFor_20 : decode cX0_spotFor 20 = .ok (.ireturn, 1) := by decide +kernel
theorem dX0_afterLogged_0 : decode cX0_afterLogged 0 = .ok (.aload_n 0, 1) := by decide +kernel
theorem dX0_afterLogged_1 : decode cX0_afterLogged 1 = .ok (.iload_n 1, 1) := by decide +kernel
theorem dX0_afterLogged_2 : decode cX0_afterLogged 2 = .ok (.invokevirtual 101, 3) := by decide +kernel
theorem dX0_afterLogged_5 : decode cX0_afterLogged 5 = .ok (.ifCond .eq 5, 3) := by decide +kernel
theorem dX0_afterLogged_8 : decode cX0_afterLogged 8 = .ok (.iconst (-1), 1) := by decide +kernel
theorem dX0_afterLogged_9 : decode cX0_afterLogged 9 = .ok (.ireturn, 1) := by decide +kernel
theorem dX0_afterLogged_10 : decode cX0_afterLogged 10 = .ok (.aload_n 0, 1) := by decide +kernel
theorem dX0_afterLogged_11 : decode cX0_afterLogged 11 = .ok (.iload_n 1, 1) := by decide +kernel
theorem dX0_afterLogged_12 : decode cX0_afterLogged 12 = .ok (.invokevirtual 72, 3) := by decide +kernel
theorem dX0_afterLogged_15 : decode cX0_afterLogged 15 = .ok (.lconst 0, 1) := by decide +kernel
theorem dX0_afterLogged_16 : decode cX0_afterLogged 16 = .ok (.lcmp, 1) := by decide +kernel
theorem dX0_afterLogged_17 : decode cX0_afterLogged 17 = .ok (.ifCond .ne 9, 3) := by decide +kernel
theorem dX0_afterLogged_20 : decode cX0_afterLogged 20 = .ok (.iload_n 1, 1) := by decide +kernel
theorem dX0_afterLogged_21 : decode cX0_afterLogged 21 = .ok (.iconst 1, 1) := by decide +kernel
theorem dX0_afterLogged_22 : decode cX0_afterLogged 22 = .ok (.ixor, 1) := by decide +kernel
theorem dX0_afterLogged_23 : decode cX0_afterLogged 23 = .ok (.goto 4, 3) := by decide +kernel
theorem dX0_afterLogged_26 : decode cX0_afterLogged 26 = .ok (.iload_n 1, 1) := by decide +kernel
theorem dX0_afterLogged_27 : decode cX0_afterLogged 27 = .ok (.istore 4, 2) := by decide +kernel
theorem dX0_afterLogged_29 : decode cX0_afterLogged 29 = .ok (.aload_n 0, 1) := by decide +kernel
theorem dX0_afterLogged_30 : decode cX0_afterLogged 30 = .ok (.iload 4, 2) := by decide +kernel
theorem dX0_afterLogged_32 : decode cX0_afterLogged 32 = .ok (.iload 4, 2) := by decide +kernel
theorem dX0_afterLogged_34 : decode cX0_afterLogged 34 = .ok (.iconst 1, 1) := by decide +kernel
theorem dX0_afterLogged_35 : decode cX0_afterLogged 35 = .ok (.iand, 1) := by decide +kernel
theorem dX0_afterLogged_36 : decode cX0_afterLogged 36 = .ok (.invokevirtual 105, 3) := by decide +kernel
theorem dX0_afterLogged_39 : decode cX0_afterLogged 39 = .ok (.iload_n 2, 1) := by decide +kernel
theorem dX0_afterLogged_40 : decode cX0_afterLogged 40 = .ok (.if_icmp .ne 16, 3) := by decide +kernel
theorem dX0_afterLogged_43 : decode cX0_afterLogged 43 = .ok (.aload_n 0, 1) := by decide +kernel
theorem dX0_afterLogged_44 : decode cX0_afterLogged 44 = .ok (.iload 4, 2) := by decide +kernel
theorem dX0_afterLogged_46 : decode cX0_afterLogged 46 = .ok (.invokevirtual 108, 3) := by decide +kernel
theorem dX0_afterLogged_49 : decode cX0_afterLogged 49 = .ok (.iload_n 3, 1) := by decide +kernel
theorem dX0_afterLogged_50 : decode cX0_afterLogged 50 = .ok (.ishr, 1) := by decide +kernel
theorem dX0_afterLogged_51 : decode cX0_afterLogged 51 = .ok (.iconst 1, 1) := by decide +kernel
theorem dX0_afterLogged_52 : decode cX0_afterLogged 52 = .ok (.iand, 1) := by decide +kernel
theorem dX0_afterLogged_53 : decode cX0_afterLogged 53 = .ok (.ifCond .ne 5, 3) := by decide +kernel
theorem dX0_afterLogged_56 : decode cX0_afterLogged 56 = .ok (.iconst (-1), 1) := by decide +kernel
theorem dX0_afterLogged_57 : decode cX0_afterLogged 57 = .ok (.ireturn, 1) := by decide +kernel
theorem dX0_afterLogged_58 : decode cX0_afterLogged 58 = .ok (.aload_n 0, 1) := by decide +kernel
theorem dX0_afterLogged_59 : decode cX0_afterLogged 59 = .ok (.iload 4, 2) := by decide +kernel
theorem dX0_afterLogged_61 : decode cX0_afterLogged 61 = .ok (.aload_n 0, 1) := by decide +kernel
theorem dX0_afterLogged_62 : decode cX0_afterLogged 62 = .ok (.iload 4, 2) := by decide +kernel
theorem dX0_afterLogged_64 : decode cX0_afterLogged 64 = .ok (.iload_n 3, 1) := by decide +kernel
theorem dX0_afterLogged_65 : decode cX0_afterLogged 65 = .ok (.invokevirtual 111, 3) := by decide +kernel
theorem dX0_afterLogged_68 : decode cX0_afterLogged 68 = .ok (.invokevirtual 114, 3) := by decide +kernel
theorem dX0_afterLogged_71 : decode cX0_afterLogged 71 = .ok (.ireturn, 1) := by decide +kernel
theorem dX0_neededAt_0 : decode cX0_neededAt 0 = .ok (.aload_n 0, 1) := by decide +kernel
theorem dX0_neededAt_1 : decode cX0_neededAt 1 = .ok (.getfield 28, 3) := by decide +kernel
theorem dX0_neededAt_4 : decode cX0_neededAt 4 = .ok (.iload_n 1, 1) := by decide +kernel
theorem dX0_neededAt_5 : decode cX0_neededAt 5 = .ok (.invokestatic 61, 3) := by decide +kernel
theorem dX0_neededAt_8 : decode cX0_neededAt 8 = .ok (.iconst 1, 1) := by decide +kernel
theorem dX0_neededAt_9 : decode cX0_neededAt 9 = .ok (.isub, 1) := by decide +kernel
theorem dX0_neededAt_10 : decode cX0_neededAt 10 = .ok (.iconst (-1), 1) := by decide +kernel
theorem dX0_neededAt_11 : decode cX0_neededAt 11 = .ok (.invokestatic 117, 3) := by decide +kernel
theorem dX0_neededAt_14 : decode cX0_neededAt 14 = .ok (.ireturn, 1) := by decide +kernel
theorem dX0_solve_0 : decode cX0_solve 0 = .ok (.aload_n 0, 1) := by decide +kernel
theorem dX0_solve_1 : decode cX0_solve 1 = .ok (.invokevirtual 122, 3) := by decide +kernel
theorem dX0_solve_4 : decode cX0_solve 4 = .ok (.aload_n 0, 1) := by decide +kernel
theorem dX0_solve_5 : decode cX0_solve 5 = .ok (.iload_n 1, 1) := by decide +kernel
theorem dX0_solve_6 : decode cX0_solve 6 = .ok (.invokevirtual 125, 3) := by decide +kernel
theorem dX0_solve_9 : decode cX0_solve 9 = .ok (.iconst 0, 1) := by decide +kernel
theorem dX0_solve_10 : decode cX0_solve 10 = .ok (.istore 4, 2) := by decide +kernel
theorem dX0_solve_12 : decode cX0_solve 12 = .ok (.iload 4, 2) := by decide +kernel
theorem dX0_solve_14 : decode cX0_solve 14 = .ok (.aload_n 0, 1) := by decide +kernel
theorem dX0_solve_15 : decode cX0_solve 15 = .ok (.getfield 129, 3) := by decide +kernel
theorem dX0_solve_18 : decode cX0_solve 18 = .ok (.if_icmp .ge 31, 3) := by decide +kernel
theorem dX0_solve_21 : decode cX0_solve 21 = .ok (.iload 4, 2) := by decide +kernel
theorem dX0_solve_23 : decode cX0_solve 23 = .ok (.sipush 6272, 3) := by decide +kernel
theorem dX0_solve_26 : decode cX0_solve 26 = .ok (.if_icmp .ge 23, 3) := by decide +kernel
theorem dX0_solve_29 : decode cX0_solve 29 = .ok (.aload_n 0, 1) := by decide +kernel
theorem dX0_solve_30 : decode cX0_solve 30 = .ok (.aload_n 0, 1) := by decide +kernel
theorem dX0_solve_31 : decode cX0_solve 31 = .ok (.getfield 22, 3) := by decide +kernel
theorem dX0_solve_34 : decode cX0_solve 34 = .ok (.iload 4, 2) := by decide +kernel
theorem dX0_solve_36 : decode cX0_solve 36 = .ok (.invokestatic 61, 3) := by decide +kernel
theorem dX0_solve_39 : decode cX0_solve 39 = .ok (.iload_n 3, 1) := by decide +kernel
theorem dX0_solve_40 : decode cX0_solve 40 = .ok (.invokevirtual 132, 3) := by decide +kernel
theorem dX0_solve_43 : decode cX0_solve 43 = .ok (.iinc 4 1, 3) := by decide +kernel
theorem dX0_solve_46 : decode cX0_solve 46 = .ok (.goto (-34), 3) := by decide +kernel
theorem dX0_solve_49 : decode cX0_solve 49 = .ok (.iconst 0, 1) := by decide +kernel
theorem dX0_solve_50 : decode cX0_solve 50 = .ok (.istore 4, 2) := by decide +kernel
theorem dX0_solve_52 : decode cX0_solve 52 = .ok (.iload 4, 2) := by decide +kernel
theorem dX0_solve_54 : decode cX0_solve 54 = .ok (.aload_n 0, 1) := by decide +kernel
theorem dX0_solve_55 : decode cX0_solve 55 = .ok (.getfield 136, 3) := by decide +kernel
theorem dX0_solve_58 : decode cX0_solve 58 = .ok (.if_icmp .ge 31, 3) := by decide +kernel
theorem dX0_solve_61 : decode cX0_solve 61 = .ok (.iload 4, 2) := by decide +kernel
theorem dX0_solve_63 : decode cX0_solve 63 = .ok (.sipush 6272, 3) := by decide +kernel
theorem dX0_solve_66 : decode cX0_solve 66 = .ok (.if_icmp .ge 23, 3) := by decide +kernel
theorem dX0_solve_69 : decode cX0_solve 69 = .ok (.aload_n 0, 1) := by decide +kernel
theorem dX0_solve_70 : decode cX0_solve 70 = .ok (.aload_n 0, 1) := by decide +kernel
theorem dX0_solve_71 : decode cX0_solve 71 = .ok (.getfield 25, 3) := by decide +kernel
theorem dX0_solve_74 : decode cX0_solve 74 = .ok (.iload 4, 2) := by decide +kernel
theorem dX0_solve_76 : decode cX0_solve 76 = .ok (.invokestatic 61, 3) := by decide +kernel
theorem dX0_solve_79 : decode cX0_solve 79 = .ok (.iload_n 2, 1) := by decide +kernel
theorem dX0_solve_80 : decode cX0_solve 80 = .ok (.invokevirtual 139, 3) := by decide +kernel
theorem dX0_solve_83 : decode cX0_solve 83 = .ok (.iinc 4 1, 3) := by decide +kernel
theorem dX0_solve_86 : decode cX0_solve 86 = .ok (.goto (-34), 3) := by decide +kernel
theorem dX0_solve_89 : decode cX0_solve 89 = .ok (.aload_n 0, 1) := by decide +kernel
theorem dX0_solve_90 : decode cX0_solve 90 = .ok (.iload_n 1, 1) := by decide +kernel
theorem dX0_solve_91 : decode cX0_solve 91 = .ok (.invokevirtual 143, 3) := by decide +kernel
theorem dX0_solve_94 : decode cX0_solve 94 = .ok (.ireturn, 1) := by decide +kernel
theorem dX0_forget_0 : decode cX0_forget 0 = .ok (.iconst 0, 1) := by decide +kernel
theorem dX0_forget_1 : decode cX0_forget 1 = .ok (.istore_n 1, 1) := by decide +kernel
theorem dX0_forget_2 : decode cX0_forget 2 = .ok (.iload_n 1, 1) := by decide +kernel
theorem dX0_forget_3 : decode cX0_forget 3 = .ok (.aload_n 0, 1) := by decide +kernel
theorem dX0_forget_4 : decode cX0_forget 4 = .ok (.getfield 129, 3) := by decide +kernel
theorem dX0_forget_7 : decode cX0_forget 7 = .ok (.if_icmp .ge 32, 3) := by decide +kernel
theorem dX0_forget_10 : decode cX0_forget 10 = .ok (.iload_n 1, 1) := by decide +kernel
theorem dX0_forget_11 : decode cX0_forget 11 = .ok (.sipush 6272, 3) := by decide +kernel
theorem dX0_forget_14 : decode cX0_forget 14 = .ok (.if_icmp .ge 25, 3) := by decide +kernel
theorem dX0_forget_17 : decode cX0_forget 17 = .ok (.aload_n 0, 1) := by decide +kernel
theorem dX0_forget_18 : decode cX0_forget 18 = .ok (.getfield 28, 3) := by decide +kernel
theorem dX0_forget_21 : decode cX0_forget 21 = .ok (.aload_n 0, 1) := by decide +kernel
theorem dX0_forget_22 : decode cX0_forget 22 = .ok (.getfield 22, 3) := by decide +kernel
theorem dX0_forget_25 : decode cX0_forget 25 = .ok (.iload_n 1, 1) := by decide +kernel
theorem dX0_forget_26 : decode cX0_forget 26 = .ok (.invokestatic 61, 3) := by decide +kernel
theorem dX0_forget_29 : decode cX0_forget 29 = .ok (.iconst 0, 1) := by decide +kernel
theorem dX0_forget_30 : decode cX0_forget 30 = .ok (.invokestatic 146, 3) := by decide +kernel
theorem dX0_forget_33 : decode cX0_forget 33 = .ok (.iinc 1 1, 3) := by decide +kernel
theorem dX0_forget_36 : decode cX0_forget 36 = .ok (.goto (-34), 3) := by decide +kernel
theorem dX0_forget_39 : decode cX0_forget 39 = .ok (.aload_n 0, 1) := by decide +kernel
theorem dX0_forget_40 : decode cX0_forget 40 = .ok (.iconst 0, 1) := by decide +kernel
theorem dX0_forget_41 : decode cX0_forget 41 = .ok (.putfield 129, 3) := by decide +kernel
theorem dX0_forget_44 : decode cX0_forget 44 = .ok (.aload_n 0, 1) := by decide +kernel
theorem dX0_forget_45 : decode cX0_forget 45 = .ok (.iconst 0, 1) := by decide +kernel
theorem dX0_forget_46 : decode cX0_forget 46 = .ok (.putfield 136, 3) := by decide +kernel
theorem dX0_forget_49 : decode cX0_forget 49 = .ok (.aload_n 0, 1) := by decide +kernel
theorem dX0_forget_50 : decode cX0_forget 50 = .ok (.iconst 0, 1) := by decide +kernel
theorem dX0_forget_51 : decode cX0_forget 51 = .ok (.putfield 149, 3) := by decide +kernel
theorem dX0_forget_54 : decode cX0_forget 54 = .ok (.aload_n 0, 1) := by decide +kernel
theorem dX0_forget_55 : decode cX0_forget 55 = .ok (.getfield 34, 3) := by decide +kernel
theorem dX0_forget_58 : decode cX0_forget 58 = .ok (.iconst 0, 1) := by decide +kernel
theorem dX0_forget_59 : decode cX0_forget 59 = .ok (.invokestatic 153, 3) := by decide +kernel
theorem dX0_forget_62 : decode cX0_forget 62 = .ok (.return_, 1) := by decide +kernel
theorem dX0_comeTo_0 : decode cX0_comeTo 0 = .ok (.aload_n 0, 1) := by decide +kernel
theorem dX0_comeTo_1 : decode cX0_comeTo 1 = .ok (.getfield 28, 3) := by decide +kernel
theorem dX0_comeTo_4 : decode cX0_comeTo 4 = .ok (.iload_n 1, 1) := by decide +kernel
theorem dX0_comeTo_5 : decode cX0_comeTo 5 = .ok (.invokestatic 61, 3) := by decide +kernel
theorem dX0_comeTo_8 : decode cX0_comeTo 8 = .ok (.ifCond .eq 4, 3) := by decide +kernel
theorem dX0_comeTo_11 : decode cX0_comeTo 11 = .ok (.return_, 1) := by decide +kernel
theorem dX0_comeTo_12 : decode cX0_comeTo 12 = .ok (.aload_n 0, 1) := by decide +kernel
theorem dX0_comeTo_13 : decode cX0_comeTo 13 = .ok (.getfield 28, 3) := by decide +kernel
theorem dX0_comeTo_16 : decode cX0_comeTo 16 = .ok (.iload_n 1, 1) := by decide +kernel
theorem dX0_comeTo_17 : decode cX0_comeTo 17 = .ok (.iconst (-1), 1) := by decide +kernel
theorem dX0_comeTo_18 : decode cX0_comeTo 18 = .ok (.invokestatic 146, 3) := by decide +kernel
theorem dX0_comeTo_21 : decode cX0_comeTo 21 = .ok (.aload_n 0, 1) := by decide +kernel
theorem dX0_comeTo_22 : decode cX0_comeTo 22 = .ok (.getfield 22, 3) := by decide +kernel
theorem dX0_comeTo_25 : decode cX0_comeTo 25 = .ok (.aload_n 0, 1) := by decide +kernel
theorem dX0_comeTo_26 : decode cX0_comeTo 26 = .ok (.getfield 129, 3) := by decide +kernel
theorem dX0_comeTo_29 : decode cX0_comeTo 29 = .ok (.iload_n 1, 1) := by decide +kernel
theorem dX0_comeTo_30 : decode cX0_comeTo 30 = .ok (.invokestatic 146, 3) := by decide +kernel
theorem dX0_comeTo_33 : decode cX0_comeTo 33 = .ok (.aload_n 0, 1) := by decide +kernel
theorem dX0_comeTo_34 : decode cX0_comeTo 34 = .ok (.dup, 1) := by decide +kernel
theorem dX0_comeTo_35 : decode cX0_comeTo 35 = .ok (.getfield 129, 3) := by decide +kernel
theorem dX0_comeTo_38 : decode cX0_comeTo 38 = .ok (.iconst 1, 1) := by decide +kernel
theorem dX0_comeTo_39 : decode cX0_comeTo 39 = .ok (.iadd, 1) := by decide +kernel
theorem dX0_comeTo_40 : decode cX0_comeTo 40 = .ok (.putfield 129, 3) := by decide +kernel
theorem dX0_comeTo_43 : decode cX0_comeTo 43 = .ok (.return_, 1) := by decide +kernel
theorem dX0_settle_0 : decode cX0_settle 0 = .ok (.aload_n 0, 1) := by decide +kernel
theorem dX0_settle_1 : decode cX0_settle 1 = .ok (.getfield 28, 3) := by decide +kernel
theorem dX0_settle_4 : decode cX0_settle 4 = .ok (.iload_n 1, 1) := by decide +kernel
theorem dX0_settle_5 : decode cX0_settle 5 = .ok (.iload_n 2, 1) := by decide +kernel
theorem dX0_settle_6 : decode cX0_settle 6 = .ok (.invokestatic 146, 3) := by decide +kernel
theorem dX0_settle_9 : decode cX0_settle 9 = .ok (.aload_n 0, 1) := by decide +kernel
theorem dX0_settle_10 : decode cX0_settle 10 = .ok (.getfield 25, 3) := by decide +kernel
theorem dX0_settle_13 : decode cX0_settle 13 = .ok (.aload_n 0, 1) := by decide +kernel
theorem dX0_settle_14 : decode cX0_settle 14 = .ok (.getfield 136, 3) := by decide +kernel
theorem dX0_settle_17 : decode cX0_settle 17 = .ok (.iload_n 1, 1) := by decide +kernel
theorem dX0_settle_18 : decode cX0_settle 18 = .ok (.invokestatic 146, 3) := by decide +kernel
theorem dX0_settle_21 : decode cX0_settle 21 = .ok (.aload_n 0, 1) := by decide +kernel
theorem dX0_settle_22 : decode cX0_settle 22 = .ok (.dup, 1) := by decide +kernel
theorem dX0_settle_23 : decode cX0_settle 23 = .ok (.getfield 136, 3) := by decide +kernel
theorem dX0_settle_26 : decode cX0_settle 26 = .ok (.iconst 1, 1) := by decide +kernel
theorem dX0_settle_27 : decode cX0_settle 27 = .ok (.iadd, 1) := by decide +kernel
theorem dX0_settle_28 : decode cX0_settle 28 = .ok (.putfield 136, 3) := by decide +kernel
theorem dX0_settle_31 : decode cX0_settle 31 = .ok (.return_, 1) := by decide +kernel
theorem dX0_spread_0 : decode cX0_spread 0 = .ok (.aload_n 0, 1) := by decide +kernel
theorem dX0_spread_1 : decode cX0_spread 1 = .ok (.iload_n 1, 1) := by decide +kernel
theorem dX0_spread_2 : decode cX0_spread 2 = .ok (.invokevirtual 101, 3) := by decide +kernel
theorem dX0_spread_5 : decode cX0_spread 5 = .ok (.istore_n 3, 1) := by decide +kernel
theorem dX0_spread_6 : decode cX0_spread 6 = .ok (.aload_n 0, 1) := by decide +kernel
theorem dX0_spread_7 : decode cX0_spread 7 = .ok (.iload_n 1, 1) := by decide +kernel
theorem dX0_spread_8 : decode cX0_spread 8 = .ok (.invokevirtual 72, 3) := by decide +kernel
theorem dX0_spread_11 : decode cX0_spread 11 = .ok (.lstore 4, 2) := by decide +kernel
theorem dX0_spread_13 : decode cX0_spread 13 = .ok (.aload_n 0, 1) := by decide +kernel
theorem dX0_spread_14 : decode cX0_spread 14 = .ok (.getfield 31, 3) := by decide +kernel
theorem dX0_spread_17 : decode cX0_spread 17 = .ok (.iload_n 1, 1) := by decide +kernel
theorem dX0_spread_18 : decode cX0_spread 18 = .ok (.lload 4, 2) := by decide +kernel
theorem dX0_spread_20 : decode cX0_spread 20 = .ok (.invokestatic 92, 3) := by decide +kernel
theorem dX0_spread_23 : decode cX0_spread 23 = .ok (.iconst 1, 1) := by decide +kernel
theorem dX0_spread_24 : decode cX0_spread 24 = .ok (.invokestatic 117, 3) := by decide +kernel
theorem dX0_spread_27 : decode cX0_spread 27 = .ok (.invokestatic 146, 3) := by decide +kernel
theorem dX0_spread_30 : decode cX0_spread 30 = .ok (.iload_n 3, 1) := by decide +kernel
theorem dX0_spread_31 : decode cX0_spread 31 = .ok (.iconst 1, 1) := by decide +kernel
theorem dX0_spread_32 : decode cX0_spread 32 = .ok (.if_icmp .ne 47, 3) := by decide +kernel
theorem dX0_spread_35 : decode cX0_spread 35 = .ok (.aload_n 0, 1) := by decide +kernel
theorem dX0_spread_36 : decode cX0_spread 36 = .ok (.iload_n 1, 1) := by decide +kernel
theorem dX0_spread_37 : decode cX0_spread 37 = .ok (.iconst 0, 1) := by decide +kernel
theorem dX0_spread_38 : decode cX0_spread 38 = .ok (.invokevirtual 105, 3) := by decide +kernel
theorem dX0_spread_41 : decode cX0_spread 41 = .ok (.istore 6, 2) := by decide +kernel
theorem dX0_spread_43 : decode cX0_spread 43 = .ok (.aload_n 0, 1) := by decide +kernel
theorem dX0_spread_44 : decode cX0_spread 44 = .ok (.getfield 34, 3) := by decide +kernel
theorem dX0_spread_47 : decode cX0_spread 47 = .ok (.iload 6, 2) := by decide +kernel
theorem dX0_spread_49 : decode cX0_spread 49 = .ok (.aload_n 0, 1) := by decide +kernel
theorem dX0_spread_50 : decode cX0_spread 50 = .ok (.getfield 34, 3) := by decide +kernel
theorem dX0_spread_53 : decode cX0_spread 53 = .ok (.iload 6, 2) := by decide +kernel
theorem dX0_spread_55 : decode cX0_spread 55 = .ok (.invokestatic 61, 3) := by decide +kernel
theorem dX0_spread_58 : decode cX0_spread 58 = .ok (.iconst 1, 1) := by decide +kernel
theorem dX0_spread_59 : decode cX0_spread 59 = .ok (.aload_n 0, 1) := by decide +kernel
theorem dX0_spread_60 : decode cX0_spread 60 = .ok (.iload_n 1, 1) := by decide +kernel
theorem dX0_spread_61 : decode cX0_spread 61 = .ok (.iconst 1, 1) := by decide +kernel
theorem dX0_spread_62 : decode cX0_spread 62 = .ok (.invokevirtual 105, 3) := by decide +kernel
theorem dX0_spread_65 : decode cX0_spread 65 = .ok (.ishl, 1) := by decide +kernel
theorem dX0_spread_66 : decode cX0_spread 66 = .ok (.ior, 1) := by decide +kernel
theorem dX0_spread_67 : decode cX0_spread 67 = .ok (.invokestatic 146, 3) := by decide +kernel
theorem dX0_spread_70 : decode cX0_spread 70 = .ok (.aload_n 0, 1) := by decide +kernel
theorem dX0_spread_71 : decode cX0_spread 71 = .ok (.iload_n 1, 1) := by decide +kernel
theorem dX0_spread_72 : decode cX0_spread 72 = .ok (.iconst 1, 1) := by decide +kernel
theorem dX0_spread_73 : decode cX0_spread 73 = .ok (.invokevirtual 157, 3) := by decide +kernel
theorem dX0_spread_76 : decode cX0_spread 76 = .ok (.goto 40, 3) := by decide +kernel
theorem dX0_spread_79 : decode cX0_spread 79 = .ok (.iload_n 3, 1) := by decide +kernel
theorem dX0_spread_80 : decode cX0_spread 80 = .ok (.iconst 2, 1) := by decide +kernel
theorem dX0_spread_81 : decode cX0_spread 81 = .ok (.if_icmp .ne 21, 3) := by decide +kernel
theorem dX0_spread_84 : decode cX0_spread 84 = .ok (.aload_n 0, 1) := by decide +kernel
theorem dX0_spread_85 : decode cX0_spread 85 = .ok (.iconst 1, 1) := by decide +kernel
theorem dX0_spread_86 : decode cX0_spread 86 = .ok (.putfield 149, 3) := by decide +kernel
theorem dX0_spread_89 : decode cX0_spread 89 = .ok (.iload_n 2, 1) := by decide +kernel
theorem dX0_spread_90 : decode cX0_spread 90 = .ok (.ifCond .eq 26, 3) := by decide +kernel
theorem dX0_spread_93 : decode cX0_spread 93 = .ok (.aload_n 0, 1) := by decide +kernel
theorem dX0_spread_94 : decode cX0_spread 94 = .ok (.iload_n 1, 1) := by decide +kernel
theorem dX0_spread_95 : decode cX0_spread 95 = .ok (.iconst 1, 1) := by decide +kernel
theorem dX0_spread_96 : decode cX0_spread 96 = .ok (.invokevirtual 157, 3) := by decide +kernel
theorem dX0_spread_99 : decode cX0_spread 99 = .ok (.goto 17, 3) := by decide +kernel
theorem dX0_spread_102 : decode cX0_spread 102 = .ok (.lload 4, 2) := by decide +kernel
theorem dX0_spread_104 : decode cX0_spread 104 = .ok (.lconst 0, 1) := by decide +kernel
theorem dX0_spread_105 : decode cX0_spread 105 = .ok (.lcmp, 1) := by decide +kernel
theorem dX0_spread_106 : decode cX0_spread 106 = .ok (.ifCond .ne 10, 3) := by decide +kernel
theorem dX0_spread_109 : decode cX0_spread 109 = .ok (.aload_n 0, 1) := by decide +kernel
theorem dX0_spread_110 : decode cX0_spread 110 = .ok (.iload_n 1, 1) := by decide +kernel
theorem dX0_spread_111 : decode cX0_spread 111 = .ok (.iconst 1, 1) := by decide +kernel
theorem dX0_spread_112 : decode cX0_spread 112 = .ok (.ixor, 1) := by decide +kernel
theorem dX0_spread_113 : decode cX0_spread 113 = .ok (.invokevirtual 125, 3) := by decide +kernel
theorem dX0_spread_116 : decode cX0_spread 116 = .ok (.iload_n 3, 1) := by decide +kernel
theorem dX0_spread_117 : decode cX0_spread 117 = .ok (.ifCond .eq 4, 3) := by decide +kernel
theorem dX0_spread_120 : decode cX0_spread 120 = .ok (.return_, 1) := by decide +kernel
theorem dX0_spread_121 : decode cX0_spread 121 = .ok (.lload 4, 2) := by decide +kernel
theorem dX0_spread_123 : decode cX0_spread 123 = .ok (.invokestatic 92, 3) := by decide +kernel
theorem dX0_spread_126 : decode cX0_spread 126 = .ok (.istore 6, 2) := by decide +kernel
theorem dX0_spread_128 : decode cX0_spread 128 = .ok (.iload 6, 2) := by decide +kernel
theorem dX0_spread_130 : decode cX0_spread 130 = .ok (.ifCond .le 32, 3) := by decide +kernel
theorem dX0_spread_133 : decode cX0_spread 133 = .ok (.aload_n 0, 1) := by decide +kernel
theorem dX0_spread_134 : decode cX0_spread 134 = .ok (.aload_n 0, 1) := by decide +kernel
theorem dX0_spread_135 : decode cX0_spread 135 = .ok (.iload_n 1, 1) := by decide +kernel
theorem dX0_spread_136 : decode cX0_spread 136 = .ok (.lload 4, 2) := by decide +kernel
theorem dX0_spread_138 : decode cX0_spread 138 = .ok (.invokestatic 98, 3) := by decide +kernel
theorem dX0_spread_141 : decode cX0_spread 141 = .ok (.invokevirtual 114, 3) := by decide +kernel
theorem dX0_spread_144 : decode cX0_spread 144 = .ok (.invokevirtual 125, 3) := by decide +kernel
theorem dX0_spread_147 : decode cX0_spread 147 = .ok (.lload 4, 2) := by decide +kernel
theorem dX0_spread_149 : decode cX0_spread 149 = .ok (.lload 4, 2) := by decide +kernel
theorem dX0_spread_151 : decode cX0_spread 151 = .ok (.lconst 1, 1) := by decide +kernel
theorem dX0_spread_152 : decode cX0_spread 152 = .ok (.lsub, 1) := by decide +kernel
theorem dX0_spread_153 : decode cX0_spread 153 = .ok (.land, 1) := by decide +kernel
theorem dX0_spread_154 : decode cX0_spread 154 = .ok (.lstore 4, 2) := by decide +kernel
theorem dX0_spread_156 : decode cX0_spread 156 = .ok (.iinc 6 (-1), 3) := by decide +kernel
theorem dX0_spread_159 : decode cX0_spread 159 = .ok (.goto (-31), 3) := by decide +kernel
theorem dX0_spread_162 : decode cX0_spread 162 = .ok (.return_, 1) := by decide +kernel
theorem dX0_lookBack_0 : decode cX0_lookBack 0 = .ok (.aload_n 0, 1) := by decide +kernel
theorem dX0_lookBack_1 : decode cX0_lookBack 1 = .ok (.getfield 28, 3) := by decide +kernel
theorem dX0_lookBack_4 : decode cX0_lookBack 4 = .ok (.iload_n 1, 1) := by decide +kernel
theorem dX0_lookBack_5 : decode cX0_lookBack 5 = .ok (.invokestatic 61, 3) := by decide +kernel
theorem dX0_lookBack_8 : decode cX0_lookBack 8 = .ok (.iconst 1, 1) := by decide +kernel
theorem dX0_lookBack_9 : decode cX0_lookBack 9 = .ok (.iadd, 1) := by decide +kernel
theorem dX0_lookBack_10 : decode cX0_lookBack 10 = .ok (.istore_n 3, 1) := by decide +kernel
theorem dX0_lookBack_11 : decode cX0_lookBack 11 = .ok (.iconst 1, 1) := by decide +kernel
theorem dX0_lookBack_12 : decode cX0_lookBack 12 = .ok (.iload_n 1, 1) := by decide +kernel
theorem dX0_lookBack_13 : decode cX0_lookBack 13 = .ok (.iconst 1, 1) := by decide +kernel
theorem dX0_lookBack_14 : decode cX0_lookBack 14 = .ok (.iand, 1) := by decide +kernel
theorem dX0_lookBack_15 : decode cX0_lookBack 15 = .ok (.isub, 1) := by decide +kernel
theorem dX0_lookBack_16 : decode cX0_lookBack 16 = .ok (.istore 4, 2) := by decide +kernel
theorem dX0_lookBack_18 : decode cX0_lookBack 18 = .ok (.aload_n 0, 1) := by decide +kernel
theorem dX0_lookBack_19 : decode cX0_lookBack 19 = .ok (.getfield 12, 3) := by decide +kernel
theorem dX0_lookBack_22 : decode cX0_lookBack 22 = .ok (.getfield 160, 3) := by decide +kernel
theorem dX0_lookBack_25 : decode cX0_lookBack 25 = .ok (.iload_n 1, 1) := by decide +kernel
theorem dX0_lookBack_26 : decode cX0_lookBack 26 = .ok (.iload 4, 2) := by decide +kernel
theorem dX0_lookBack_28 : decode cX0_lookBack 28 = .ok (.invokestatic 57, 3) := by decide +kernel
theorem dX0_lookBack_31 : decode cX0_lookBack 31 = .ok (.invokestatic 80, 3) := by decide +kernel
theorem dX0_lookBack_34 : decode cX0_lookBack 34 = .ok (.lstore 5, 2) := by decide +kernel
theorem dX0_lookBack_36 : decode cX0_lookBack 36 = .ok (.lload 5, 2) := by decide +kernel
theorem dX0_lookBack_38 : decode cX0_lookBack 38 = .ok (.invokestatic 92, 3) := by decide +kernel
theorem dX0_lookBack_41 : decode cX0_lookBack 41 = .ok (.istore 7, 2) := by decide +kernel
theorem dX0_lookBack_43 : decode cX0_lookBack 43 = .ok (.iload 7, 2) := by decide +kernel
theorem dX0_lookBack_45 : decode cX0_lookBack 45 = .ok (.ifCond .le 78, 3) := by decide +kernel
theorem dX0_lookBack_48 : decode cX0_lookBack 48 = .ok (.lload 5, 2) := by decide +kernel
theorem dX0_lookBack_50 : decode cX0_lookBack 50 = .ok (.invokestatic 98, 3) := by decide +kernel
theorem dX0_lookBack_53 : decode cX0_lookBack 53 = .ok (.istore 8, 2) := by decide +kernel
theorem dX0_lookBack_55 : decode cX0_lookBack 55 = .ok (.lload 5, 2) := by decide +kernel
theorem dX0_lookBack_57 : decode cX0_lookBack 57 = .ok (.lload 5, 2) := by decide +kernel
theorem dX0_lookBack_59 : decode cX0_lookBack 59 = .ok (.lconst 1, 1) := by decide +kernel
theorem dX0_lookBack_60 : decode cX0_lookBack 60 = .ok (.lsub, 1) := by decide +kernel
theorem dX0_lookBack_61 : decode cX0_lookBack 61 = .ok (.land, 1) := by decide +kernel
theorem dX0_lookBack_62 : decode cX0_lookBack 62 = .ok (.lstore 5, 2) := by decide +kernel
theorem dX0_lookBack_64 : decode cX0_lookBack 64 = .ok (.iload 4, 2) := by decide +kernel
theorem dX0_lookBack_66 : decode cX0_lookBack 66 = .ok (.ifCond .ne 17, 3) := by decide +kernel
theorem dX0_lookBack_69 : decode cX0_lookBack 69 = .ok (.iload 8, 2) := by decide +kernel
theorem dX0_lookBack_71 : decode cX0_lookBack 71 = .ok (.iload_n 1, 1) := by decide +kernel
theorem dX0_lookBack_72 : decode cX0_lookBack 72 = .ok (.iconst 1, 1) := by decide +kernel
theorem dX0_lookBack_73 : decode cX0_lookBack 73 = .ok (.invokestatic 57, 3) := by decide +kernel
theorem dX0_lookBack_76 : decode cX0_lookBack 76 = .ok (.iconst 0, 1) := by decide +kernel
theorem dX0_lookBack_77 : decode cX0_lookBack 77 = .ok (.invokestatic 88, 3) := by decide +kernel
theorem dX0_lookBack_80 : decode cX0_lookBack 80 = .ok (.goto 14, 3) := by decide +kernel
theorem dX0_lookBack_83 : decode cX0_lookBack 83 = .ok (.iload_n 1, 1) := by decide +kernel
theorem dX0_lookBack_84 : decode cX0_lookBack 84 = .ok (.iconst 0, 1) := by decide +kernel
theorem dX0_lookBack_85 : decode cX0_lookBack 85 = .ok (.invokestatic 57, 3) := by decide +kernel
theorem dX0_lookBack_88 : decode cX0_lookBack 88 = .ok (.iload 8, 2) := by decide +kernel
theorem dX0_lookBack_90 : decode cX0_lookBack 90 = .ok (.iconst 1, 1) := by decide +kernel
theorem dX0_lookBack_91 : decode cX0_lookBack 91 = .ok (.invokestatic 88, 3) := by decide +kernel
theorem dX0_lookBack_94 : decode cX0_lookBack 94 = .ok (.istore 9, 2) := by decide +kernel
theorem dX0_lookBack_96 : decode cX0_lookBack 96 = .ok (.aload_n 0, 1) := by decide +kernel
theorem dX0_lookBack_97 : decode cX0_lookBack 97 = .ok (.getfield 28, 3) := by decide +kernel
theorem dX0_lookBack_100 : decode cX0_lookBack 100 = .ok (.iload 9, 2) := by decide +kernel
theorem dX0_lookBack_102 : decode cX0_lookBack 102 = .ok (.invokestatic 61, 3) := by decide +kernel
theorem dX0_lookBack_105 : decode cX0_lookBack 105 = .ok (.iconst (-1), 1) := by decide +kernel
theorem dX0_lookBack_106 : decode cX0_lookBack 106 = .ok (.if_icmp .ne 11, 3) := by decide +kernel
theorem dX0_lookBack_109 : decode cX0_lookBack 109 = .ok (.aload_n 0, 1) := by decide +kernel
theorem dX0_lookBack_110 : decode cX0_lookBack 110 = .ok (.iload 9, 2) := by decide +kernel
theorem dX0_lookBack_112 : decode cX0_lookBack 112 = .ok (.iload_n 3, 1) := by decide +kernel
theorem dX0_lookBack_113 : decode cX0_lookBack 113 = .ok (.iload_n 2, 1) := by decide +kernel
theorem dX0_lookBack_114 : decode cX0_lookBack 114 = .ok (.invokevirtual 163, 3) := by decide +kernel
theorem dX0_lookBack_117 : decode cX0_lookBack 117 = .ok (.iinc 7 (-1), 3) := by decide +kernel
theorem dX0_lookBack_120 : decode cX0_lookBack 120 = .ok (.goto (-77), 3) := by decide +kernel
theorem dX0_lookBack_123 : decode cX0_lookBack 123 = .ok (.iload_n 1, 1) := by decide +kernel
theorem dX0_lookBack_124 : decode cX0_lookBack 124 = .ok (.iconst 1, 1) := by decide +kernel
theorem dX0_lookBack_125 : decode cX0_lookBack 125 = .ok (.ixor, 1) := by decide +kernel
theorem dX0_lookBack_126 : decode cX0_lookBack 126 = .ok (.istore 7, 2) := by decide +kernel
theorem dX0_lookBack_128 : decode cX0_lookBack 128 = .ok (.aload_n 0, 1) := by decide +kernel
theorem dX0_lookBack_129 : decode cX0_lookBack 129 = .ok (.getfield 28, 3) := by decide +kernel
theorem dX0_lookBack_132 : decode cX0_lookBack 132 = .ok (.iload 7, 2) := by decide +kernel
theorem dX0_lookBack_134 : decode cX0_lookBack 134 = .ok (.invokestatic 61, 3) := by decide +kernel
theorem dX0_lookBack_137 : decode cX0_lookBack 137 = .ok (.iconst (-1), 1) := by decide +kernel
theorem dX0_lookBack_138 : decode cX0_lookBack 138 = .ok (.if_icmp .ne 32, 3) := by decide +kernel
theorem dX0_lookBack_141 : decode cX0_lookBack 141 = .ok (.aload_n 0, 1) := by decide +kernel
theorem dX0_lookBack_142 : decode cX0_lookBack 142 = .ok (.iload 7, 2) := by decide +kernel
theorem dX0_lookBack_144 : decode cX0_lookBack 144 = .ok (.invokevirtual 72, 3) := by decide +kernel
theorem dX0_lookBack_147 : decode cX0_lookBack 147 = .ok (.lconst 0, 1) := by decide +kernel
theorem dX0_lookBack_148 : decode cX0_lookBack 148 = .ok (.lcmp, 1) := by decide +kernel
theorem dX0_lookBack_149 : decode cX0_lookBack 149 = .ok (.ifCond .ne 21, 3) := by decide +kernel
theorem dX0_lookBack_152 : decode cX0_lookBack 152 = .ok (.aload_n 0, 1) := by decide +kernel
theorem dX0_lookBack_153 : decode cX0_lookBack 153 = .ok (.iload_n 1, 1) := by decide +kernel
theorem dX0_lookBack_154 : decode cX0_lookBack 154 = .ok (.invokevirtual 72, 3) := by decide +kernel
theorem dX0_lookBack_157 : decode cX0_lookBack 157 = .ok (.lconst 0, 1) := by decide +kernel
theorem dX0_lookBack_158 : decode cX0_lookBack 158 = .ok (.lcmp, 1) := by decide +kernel
theorem dX0_lookBack_159 : decode cX0_lookBack 159 = .ok (.ifCond .eq 11, 3) := by decide +kernel
theorem dX0_lookBack_162 : decode cX0_lookBack 162 = .ok (.aload_n 0, 1) := by decide +kernel
theorem dX0_lookBack_163 : decode cX0_lookBack 163 = .ok (.iload 7, 2) := by decide +kernel
theorem dX0_lookBack_165 : decode cX0_lookBack 165 = .ok (.iload_n 3, 1) := by decide +kernel
theorem dX0_lookBack_166 : decode cX0_lookBack 166 = .ok (.iload_n 2, 1) := by decide +kernel
theorem dX0_lookBack_167 : decode cX0_lookBack 167 = .ok (.invokevirtual 163, 3) := by decide +kernel
theorem dX0_lookBack_170 : decode cX0_lookBack 170 = .ok (.return_, 1) := by decide +kernel
theorem dX0_solveOneWay_0 : decode cX0_solveOneWay 0 = .ok (.aload_n 0, 1) := by decide +kernel
theorem dX0_solveOneWay_1 : decode cX0_solveOneWay 1 = .ok (.getfield 31, 3) := by decide +kernel
theorem dX0_solveOneWay_4 : decode cX0_solveOneWay 4 = .ok (.iload_n 1, 1) := by decide +kernel
theorem dX0_solveOneWay_5 : decode cX0_solveOneWay 5 = .ok (.invokestatic 61, 3) := by decide +kernel
theorem dX0_solveOneWay_8 : decode cX0_solveOneWay 8 = .ok (.iconst 1, 1) := by decide +kernel
theorem dX0_solveOneWay_9 : decode cX0_solveOneWay 9 = .ok (.isub, 1) := by decide +kernel
theorem dX0_solveOneWay_10 : decode cX0_solveOneWay 10 = .ok (.istore 4, 2) := by decide +kernel
theorem dX0_solveOneWay_12 : decode cX0_solveOneWay 12 = .ok (.aload_n 0, 1) := by decide +kernel
theorem dX0_solveOneWay_13 : decode cX0_solveOneWay 13 = .ok (.getfield 31, 3) := by decide +kernel
theorem dX0_solveOneWay_16 : decode cX0_solveOneWay 16 = .ok (.iload_n 1, 1) := by decide +kernel
theorem dX0_solveOneWay_17 : decode cX0_solveOneWay 17 = .ok (.iload 4, 2) := by decide +kernel
theorem dX0_solveOneWay_19 : decode cX0_solveOneWay 19 = .ok (.invokestatic 146, 3) := by decide +kernel
theorem dX0_solveOneWay_22 : decode cX0_solveOneWay 22 = .ok (.iload_n 1, 1) := by decide +kernel
theorem dX0_solveOneWay_23 : decode cX0_solveOneWay 23 = .ok (.iconst 1, 1) := by decide +kernel
theorem dX0_solveOneWay_24 : decode cX0_solveOneWay 24 = .ok (.iand, 1) := by decide +kernel
theorem dX0_solveOneWay_25 : decode cX0_solveOneWay 25 = .ok (.iload_n 3, 1) := by decide +kernel
theorem dX0_solveOneWay_26 : decode cX0_solveOneWay 26 = .ok (.if_icmp .eq 8, 3) := by decide +kernel
theorem dX0_solveOneWay_29 : decode cX0_solveOneWay 29 = .ok (.iload 4, 2) := by decide +kernel
theorem dX0_solveOneWay_31 : decode cX0_solveOneWay 31 = .ok (.ifCond .ne 9, 3) := by decide +kernel
theorem dX0_solveOneWay_34 : decode cX0_solveOneWay 34 = .ok (.aload_n 0, 1) := by decide +kernel
theorem dX0_solveOneWay_35 : decode cX0_solveOneWay 35 = .ok (.iload_n 1, 1) := by decide +kernel
theorem dX0_solveOneWay_36 : decode cX0_solveOneWay 36 = .ok (.iload_n 2, 1) := by decide +kernel
theorem dX0_solveOneWay_37 : decode cX0_solveOneWay 37 = .ok (.invokevirtual 157, 3) := by decide +kernel
theorem dX0_solveOneWay_40 : decode cX0_solveOneWay 40 = .ok (.return_, 1) := by decide +kernel
theorem dX0_endsFound_0 : decode cX0_endsFound 0 = .ok (.iconst 0, 1) := by decide +kernel
theorem dX0_endsFound_1 : decode cX0_endsFound 1 = .ok (.istore_n 1, 1) := by decide +kernel
theorem dX0_endsFound_2 : decode cX0_endsFound 2 = .ok (.iconst 0, 1) := by decide +kernel
theorem dX0_endsFound_3 : decode cX0_endsFound 3 = .ok (.istore_n 2, 1) := by decide +kernel
theorem dX0_endsFound_4 : decode cX0_endsFound 4 = .ok (.iload_n 2, 1) := by decide +kernel
theorem dX0_endsFound_5 : decode cX0_endsFound 5 = .ok (.bipush 16, 2) := by decide +kernel
theorem dX0_endsFound_7 : decode cX0_endsFound 7 = .ok (.if_icmp .ge 23, 3) := by decide +kernel
theorem dX0_endsFound_10 : decode cX0_endsFound 10 = .ok (.iload_n 1, 1) := by decide +kernel
theorem dX0_endsFound_11 : decode cX0_endsFound 11 = .ok (.aload_n 0, 1) := by decide +kernel
theorem dX0_endsFound_12 : decode cX0_endsFound 12 = .ok (.getfield 34, 3) := by decide +kernel
theorem dX0_endsFound_15 : decode cX0_endsFound 15 = .ok (.iload_n 2, 1) := by decide +kernel
theorem dX0_endsFound_16 : decode cX0_endsFound 16 = .ok (.invokestatic 61, 3) := by decide +kernel
theorem dX0_endsFound_19 : decode cX0_endsFound 19 = .ok (.invokestatic 167, 3) := by decide +kernel
theorem dX0_endsFound_22 : decode cX0_endsFound 22 = .ok (.iadd, 1) := by decide +kernel
theorem dX0_endsFound_23 : decode cX0_endsFound 23 = .ok (.istore_n 1, 1) := by decide +kernel
theorem dX0_endsFound_24 : decode cX0_endsFound 24 = .ok (.iinc 2 1, 3) := by decide +kernel
theorem dX0_endsFound_27 : decode cX0_endsFound 27 = .ok (.goto (-23), 3) := by decide +kernel
theorem dX0_endsFound_30 : decode cX0_endsFound 30 = .ok (.iload_n 1, 1) := by decide +kernel
theorem dX0_endsFound_31 : decode cX0_endsFound 31 = .ok (.ireturn, 1) := by decide +kernel
theorem dX0_endAt_0 : decode cX0_endAt 0 = .ok (.iload_n 1, 1) := by decide +kernel
theorem dX0_endAt_1 : decode cX0_endAt 1 = .ok (.istore_n 2, 1) := by decide +kernel
theorem dX0_endAt_2 : decode cX0_endAt 2 = .ok (.iconst 0, 1) := by decide +kernel
theorem dX0_endAt_3 : decode cX0_endAt 3 = .ok (.istore_n 3, 1) := by decide +kernel
theorem dX0_endAt_4 : decode cX0_endAt 4 = .ok (.iload_n 3, 1) := by decide +kernel
theorem dX0_endAt_5 : decode cX0_endAt 5 = .ok (.bipush 16, 2) := by decide +kernel
theorem dX0_endAt_7 : decode cX0_endAt 7 = .ok (.if_icmp .ge 53, 3) := by decide +kernel
theorem dX0_endAt_10 : decode cX0_endAt 10 = .ok (.iload_n 2, 1) := by decide +kernel
theorem dX0_endAt_11 : decode cX0_endAt 11 = .ok (.ifCond .lt 49, 3) := by decide +kernel
theorem dX0_endAt_14 : decode cX0_endAt 14 = .ok (.aload_n 0, 1) := by decide +kernel
theorem dX0_endAt_15 : decode cX0_endAt 15 = .ok (.getfield 34, 3) := by decide +kernel
theorem dX0_endAt_18 : decode cX0_endAt 18 = .ok (.iload_n 3, 1) := by decide +kernel
theorem dX0_endAt_19 : decode cX0_endAt 19 = .ok (.invokestatic 61, 3) := by decide +kernel
theorem dX0_endAt_22 : decode cX0_endAt 22 = .ok (.istore 4, 2) := by decide +kernel
theorem dX0_endAt_24 : decode cX0_endAt 24 = .ok (.iload 4, 2) := by decide +kernel
theorem dX0_endAt_26 : decode cX0_endAt 26 = .ok (.invokestatic 167, 3) := by decide +kernel
theorem dX0_endAt_29 : decode cX0_endAt 29 = .ok (.istore 5, 2) := by decide +kernel
theorem dX0_endAt_31 : decode cX0_endAt 31 = .ok (.iload_n 2, 1) := by decide +kernel
theorem dX0_endAt_32 : decode cX0_endAt 32 = .ok (.iload 5, 2) := by decide +kernel
theorem dX0_endAt_34 : decode cX0_endAt 34 = .ok (.if_icmp .ge 15, 3) := by decide +kernel
theorem dX0_endAt_37 : decode cX0_endAt 37 = .ok (.bipush 100, 2) := by decide +kernel
theorem dX0_endAt_39 : decode cX0_endAt 39 = .ok (.iload_n 3, 1) := by decide +kernel
theorem dX0_endAt_40 : decode cX0_endAt 40 = .ok (.imul, 1) := by decide +kernel
theorem dX0_endAt_41 : decode cX0_endAt 41 = .ok (.iload 4, 2) := by decide +kernel
theorem dX0_endAt_43 : decode cX0_endAt 43 = .ok (.iload_n 2, 1) := by decide +kernel
theorem dX0_endAt_44 : decode cX0_endAt 44 = .ok (.invokestatic 171, 3) := by decide +kernel
theorem dX0_endAt_47 : decode cX0_endAt 47 = .ok (.iadd, 1) := by decide +kernel
theorem dX0_endAt_48 : decode cX0_endAt 48 = .ok (.ireturn, 1) := by decide +kernel
theorem dX0_endAt_49 : decode cX0_endAt 49 = .ok (.iload_n 2, 1) := by decide +kernel
theorem dX0_endAt_50 : decode cX0_endAt 50 = .ok (.iload 5, 2) := by decide +kernel
theorem dX0_endAt_52 : decode cX0_endAt 52 = .ok (.isub, 1) := by decide +kernel
theorem dX0_endAt_53 : decode cX0_endAt 53 = .ok (.istore_n 2, 1) := by decide +kernel
theorem dX0_endAt_54 : decode cX0_endAt 54 = .ok (.iinc 3 1, 3) := by decide +kernel
theorem dX0_endAt_57 : decode cX0_endAt 57 = .ok (.goto (-53), 3) := by decide +kernel
theorem dX0_endAt_60 : decode cX0_endAt 60 = .ok (.iconst (-1), 1) := by decide +kernel
theorem dX0_endAt_61 : decode cX0_endAt 61 = .ok (.ireturn, 1) := by decide +kernel
theorem dX0_holdersFound_0 : decode cX0_holdersFound 0 = .ok (.iconst 0, 1) := by decide +kernel
theorem dX0_holdersFound_1 : decode cX0_holdersFound 1 = .ok (.istore_n 1, 1) := by decide +kernel
theorem dX0_holdersFound_2 : decode cX0_holdersFound 2 = .ok (.iconst 0, 1) := by decide +kernel
theorem dX0_holdersFound_3 : decode cX0_holdersFound 3 = .ok (.istore_n 2, 1) := by decide +kernel
theorem dX0_holdersFound_4 : decode cX0_holdersFound 4 = .ok (.iload_n 2, 1) := by decide +kernel
theorem dX0_holdersFound_5 : decode cX0_holdersFound 5 = .ok (.aload_n 0, 1) := by decide +kernel
theorem dX0_holdersFound_6 : decode cX0_holdersFound 6 = .ok (.getfield 129, 3) := by decide +kernel
theorem dX0_holdersFound_9 : decode cX0_holdersFound 9 = .ok (.if_icmp .ge 31, 3) := by decide +kernel
theorem dX0_holdersFound_12 : decode cX0_holdersFound 12 = .ok (.iload_n 2, 1) := by decide +kernel
theorem dX0_holdersFound_13 : decode cX0_holdersFound 13 = .ok (.sipush 6272, 3) := by decide +kernel
theorem dX0_holdersFound_16 : decode cX0_holdersFound 16 = .ok (.if_icmp .ge 24, 3) := by decide +kernel
theorem dX0_holdersFound_19 : decode cX0_holdersFound 19 = .ok (.iload_n 1, 1) := by decide +kernel
theorem dX0_holdersFound_20 : decode cX0_holdersFound 20 = .ok (.aload_n 0, 1) := by decide +kernel
theorem dX0_holdersFound_21 : decode cX0_holdersFound 21 = .ok (.aload_n 0, 1) := by decide +kernel
theorem dX0_holdersFound_22 : decode cX0_holdersFound 22 = .ok (.getfield 22, 3) := by decide +kernel
theorem dX0_holdersFound_25 : decode cX0_holdersFound 25 = .ok (.iload_n 2, 1) := by decide +kernel
theorem dX0_holdersFound_26 : decode cX0_holdersFound 26 = .ok (.invokestatic 61, 3) := by decide +kernel
theorem dX0_holdersFound_29 : decode cX0_holdersFound 29 = .ok (.invokevirtual 174, 3) := by decide +kernel
theorem dX0_holdersFound_32 : decode cX0_holdersFound 32 = .ok (.ior, 1) := by decide +kernel
theorem dX0_holdersFound_33 : decode cX0_holdersFound 33 = .ok (.istore_n 1, 1) := by decide +kernel
theorem dX0_holdersFound_34 : decode cX0_holdersFound 34 = .ok (.iinc 2 1, 3) := by decide +kernel
theorem dX0_holdersFound_37 : decode cX0_holdersFound 37 = .ok (.goto (-33), 3) := by decide +kernel
theorem dX0_holdersFound_40 : decode cX0_holdersFound 40 = .ok (.iload_n 1, 1) := by decide +kernel
theorem dX0_holdersFound_41 : decode cX0_holdersFound 41 = .ok (.ireturn, 1) := by decide +kernel
theorem dX0_holders_0 : decode cX0_holders 0 = .ok (.iconst 1, 1) := by decide +kernel
theorem dX0_holders_1 : decode cX0_holders 1 = .ok (.aload_n 0, 1) := by decide +kernel
theorem dX0_holders_2 : decode cX0_holders 2 = .ok (.iload_n 1, 1) := by decide +kernel
theorem dX0_holders_3 : decode cX0_holders 3 = .ok (.iconst 0, 1) := by decide +kernel
theorem dX0_holders_4 : decode cX0_holders 4 = .ok (.invokevirtual 105, 3) := by decide +kernel
theorem dX0_holders_7 : decode cX0_holders 7 = .ok (.ishl, 1) := by decide +kernel
theorem dX0_holders_8 : decode cX0_holders 8 = .ok (.iconst 1, 1) := by decide +kernel
theorem dX0_holders_9 : decode cX0_holders 9 = .ok (.aload_n 0, 1) := by decide +kernel
theorem dX0_holders_10 : decode cX0_holders 10 = .ok (.iload_n 1, 1) := by decide +kernel
theorem dX0_holders_11 : decode cX0_holders 11 = .ok (.iconst 1, 1) := by decide +kernel
theorem dX0_holders_12 : decode cX0_holders 12 = .ok (.invokevirtual 105, 3) := by decide +kernel
theorem dX0_holders_15 : decode cX0_holders 15 = .ok (.ishl, 1) := by decide +kernel
theorem dX0_holders_16 : decode cX0_holders 16 = .ok (.ior, 1) := by decide +kernel
theorem dX0_holders_17 : decode cX0_holders 17 = .ok (.ireturn, 1) := by decide +kernel
theorem dX0_bestPerson_0 : decode cX0_bestPerson 0 = .ok (.aload_n 0, 1) := by decide +kernel
theorem dX0_bestPerson_1 : decode cX0_bestPerson 1 = .ok (.iload_n 1, 1) := by decide +kernel
theorem dX0_bestPerson_2 : decode cX0_bestPerson 2 = .ok (.iload_n 2, 1) := by decide +kernel
theorem dX0_bestPerson_3 : decode cX0_bestPerson 3 = .ok (.iconst 0, 1) := by decide +kernel
theorem dX0_bestPerson_4 : decode cX0_bestPerson 4 = .ok (.invokevirtual 177, 3) := by decide +kernel
theorem dX0_bestPerson_7 : decode cX0_bestPerson 7 = .ok (.pop, 1) := by decide +kernel
theorem dX0_bestPerson_8 : decode cX0_bestPerson 8 = .ok (.iload_n 1, 1) := by decide +kernel
theorem dX0_bestPerson_9 : decode cX0_bestPerson 9 = .ok (.iconst 1, 1) := by decide +kernel
theorem dX0_bestPerson_10 : decode cX0_bestPerson 10 = .ok (.iand, 1) := by decide +kernel
theorem dX0_bestPerson_11 : decode cX0_bestPerson 11 = .ok (.iload_n 2, 1) := by decide +kernel
theorem dX0_bestPerson_12 : decode cX0_bestPerson 12 = .ok (.if_icmp .ne 7, 3) := by decide +kernel
theorem dX0_bestPerson_15 : decode cX0_bestPerson 15 = .ok (.iconst 1, 1) := by decide +kernel
theorem dX0_bestPerson_16 : decode cX0_bestPerson 16 = .ok (.goto 4, 3) := by decide +kernel
theorem dX0_bestPerson_19 : decode cX0_bestPerson 19 = .ok (.iconst 0, 1) := by decide +kernel
theorem dX0_bestPerson_20 : decode cX0_bestPerson 20 = .ok (.istore_n 3, 1) := by decide +kernel
theorem dX0_bestPerson_21 : decode cX0_bestPerson 21 = .ok (.aload_n 0, 1) := by decide +kernel
theorem dX0_bestPerson_22 : decode cX0_bestPerson 22 = .ok (.iload_n 1, 1) := by decide +kernel
theorem dX0_bestPerson_23 : decode cX0_bestPerson 23 = .ok (.invokevirtual 143, 3) := by decide +kernel
theorem dX0_bestPerson_26 : decode cX0_bestPerson 26 = .ok (.iconst (-1), 1) := by decide +kernel
theorem dX0_bestPerson_27 : decode cX0_bestPerson 27 = .ok (.if_icmp .eq 7, 3) := by decide +kernel
theorem dX0_bestPerson_30 : decode cX0_bestPerson 30 = .ok (.iconst 1, 1) := by decide +kernel
theorem dX0_bestPerson_31 : decode cX0_bestPerson 31 = .ok (.goto 4, 3) := by decide +kernel
theorem dX0_bestPerson_34 : decode cX0_bestPerson 34 = .ok (.iconst 0, 1) := by decide +kernel
theorem dX0_bestPerson_35 : decode cX0_bestPerson 35 = .ok (.istore 4, 2) := by decide +kernel
theorem dX0_bestPerson_37 : decode cX0_bestPerson 37 = .ok (.aload_n 0, 1) := by decide +kernel
theorem dX0_bestPerson_38 : decode cX0_bestPerson 38 = .ok (.iload_n 1, 1) := by decide +kernel
theorem dX0_bestPerson_39 : decode cX0_bestPerson 39 = .ok (.invokevirtual 108, 3) := by decide +kernel
theorem dX0_bestPerson_42 : decode cX0_bestPerson 42 = .ok (.istore 5, 2) := by decide +kernel
theorem dX0_bestPerson_44 : decode cX0_bestPerson 44 = .ok (.iconst (-1), 1) := by decide +kernel
theorem dX0_bestPerson_45 : decode cX0_bestPerson 45 = .ok (.istore 6, 2) := by decide +kernel
theorem dX0_bestPerson_47 : decode cX0_bestPerson 47 = .ok (.iconst 0, 1) := by decide +kernel
theorem dX0_bestPerson_48 : decode cX0_bestPerson 48 = .ok (.istore 7, 2) := by decide +kernel
theorem dX0_bestPerson_50 : decode cX0_bestPerson 50 = .ok (.iconst 0, 1) := by decide +kernel
theorem dX0_bestPerson_51 : decode cX0_bestPerson 51 = .ok (.istore 8, 2) := by decide +kernel
theorem dX0_bestPerson_53 : decode cX0_bestPerson 53 = .ok (.iload 8, 2) := by decide +kernel
theorem dX0_bestPerson_55 : decode cX0_bestPerson 55 = .ok (.bipush 16, 2) := by decide +kernel
theorem dX0_bestPerson_57 : decode cX0_bestPerson 57 = .ok (.if_icmp .ge 94, 3) := by decide +kernel
theorem dX0_bestPerson_60 : decode cX0_bestPerson 60 = .ok (.iload 5, 2) := by decide +kernel
theorem dX0_bestPerson_62 : decode cX0_bestPerson 62 = .ok (.iload 8, 2) := by decide +kernel
theorem dX0_bestPerson_64 : decode cX0_bestPerson 64 = .ok (.ishr, 1) := by decide +kernel
theorem dX0_bestPerson_65 : decode cX0_bestPerson 65 = .ok (.iconst 1, 1) := by decide +kernel
theorem dX0_bestPerson_66 : decode cX0_bestPerson 66 = .ok (.iand, 1) := by decide +kernel
theorem dX0_bestPerson_67 : decode cX0_bestPerson 67 = .ok (.ifCond .ne 6, 3) := by decide +kernel
theorem dX0_bestPerson_70 : decode cX0_bestPerson 70 = .ok (.goto 75, 3) := by decide +kernel
theorem dX0_bestPerson_73 : decode cX0_bestPerson 73 = .ok (.aload_n 0, 1) := by decide +kernel
theorem dX0_bestPerson_74 : decode cX0_bestPerson 74 = .ok (.aload_n 0, 1) := by decide +kernel
theorem dX0_bestPerson_75 : decode cX0_bestPerson 75 = .ok (.iload_n 1, 1) := by decide +kernel
theorem dX0_bestPerson_76 : decode cX0_bestPerson 76 = .ok (.aload_n 0, 1) := by decide +kernel
theorem dX0_bestPerson_77 : decode cX0_bestPerson 77 = .ok (.iload_n 1, 1) := by decide +kernel
theorem dX0_bestPerson_78 : decode cX0_bestPerson 78 = .ok (.iload 8, 2) := by decide +kernel
theorem dX0_bestPerson_80 : decode cX0_bestPerson 80 = .ok (.invokevirtual 111, 3) := by decide +kernel
theorem dX0_bestPerson_83 : decode cX0_bestPerson 83 = .ok (.invokevirtual 114, 3) := by decide +kernel
theorem dX0_bestPerson_86 : decode cX0_bestPerson 86 = .ok (.invokevirtual 143, 3) := by decide +kernel
theorem dX0_bestPerson_89 : decode cX0_bestPerson 89 = .ok (.istore 9, 2) := by decide +kernel
theorem dX0_bestPerson_91 : decode cX0_bestPerson 91 = .ok (.iload 9, 2) := by decide +kernel
theorem dX0_bestPerson_93 : decode cX0_bestPerson 93 = .ok (.iconst (-1), 1) := by decide +kernel
theorem dX0_bestPerson_94 : decode cX0_bestPerson 94 = .ok (.if_icmp .ne 7, 3) := by decide +kernel
theorem dX0_bestPerson_97 : decode cX0_bestPerson 97 = .ok (.ldc 181, 2) := by decide +kernel
theorem dX0_bestPerson_99 : decode cX0_bestPerson 99 = .ok (.istore 9, 2) := by decide +kernel
theorem dX0_bestPerson_101 : decode cX0_bestPerson 101 = .ok (.iload_n 3, 1) := by decide +kernel
theorem dX0_bestPerson_102 : decode cX0_bestPerson 102 = .ok (.ifCond .eq 18, 3) := by decide +kernel
theorem dX0_bestPerson_105 : decode cX0_bestPerson 105 = .ok (.iload 4, 2) := by decide +kernel
theorem dX0_bestPerson_107 : decode cX0_bestPerson 107 = .ok (.ifCond .eq 9, 3) := by decide +kernel
theorem dX0_bestPerson_110 : decode cX0_bestPerson 110 = .ok (.iload 9, 2) := by decide +kernel
theorem dX0_bestPerson_112 : decode cX0_bestPerson 112 = .ok (.ineg, 1) := by decide +kernel
theorem dX0_bestPerson_113 : decode cX0_bestPerson 113 = .ok (.goto 9, 3) := by decide +kernel
theorem dX0_bestPerson_116 : decode cX0_bestPerson 116 = .ok (.iconst 0, 1) := by decide +kernel
theorem dX0_bestPerson_117 : decode cX0_bestPerson 117 = .ok (.goto 5, 3) := by decide +kernel
theorem dX0_bestPerson_120 : decode cX0_bestPerson 120 = .ok (.iload 9, 2) := by decide +kernel
theorem dX0_bestPerson_122 : decode cX0_bestPerson 122 = .ok (.istore 10, 2) := by decide +kernel
theorem dX0_bestPerson_124 : decode cX0_bestPerson 124 = .ok (.iload 6, 2) := by decide +kernel
theorem dX0_bestPerson_126 : decode cX0_bestPerson 126 = .ok (.iconst (-1), 1) := by decide +kernel
theorem dX0_bestPerson_127 : decode cX0_bestPerson 127 = .ok (.if_icmp .eq 10, 3) := by decide +kernel
theorem dX0_bestPerson_130 : decode cX0_bestPerson 130 = .ok (.iload 10, 2) := by decide +kernel
theorem dX0_bestPerson_132 : decode cX0_bestPerson 132 = .ok (.iload 7, 2) := by decide +kernel
theorem dX0_bestPerson_134 : decode cX0_bestPerson 134 = .ok (.if_icmp .le 11, 3) := by decide +kernel
theorem dX0_bestPerson_137 : decode cX0_bestPerson 137 = .ok (.iload 8, 2) := by decide +kernel
theorem dX0_bestPerson_139 : decode cX0_bestPerson 139 = .ok (.istore 6, 2) := by decide +kernel
theorem dX0_bestPerson_141 : decode cX0_bestPerson 141 = .ok (.iload 10, 2) := by decide +kernel
theorem dX0_bestPerson_143 : decode cX0_bestPerson 143 = .ok (.istore 7, 2) := by decide +kernel
theorem dX0_bestPerson_145 : decode cX0_bestPerson 145 = .ok (.iinc 8 1, 3) := by decide +kernel
theorem dX0_bestPerson_148 : decode cX0_bestPerson 148 = .ok (.goto (-95), 3) := by decide +kernel
theorem dX0_bestPerson_151 : decode cX0_bestPerson 151 = .ok (.iload 6, 2) := by decide +kernel
theorem dX0_bestPerson_153 : decode cX0_bestPerson 153 = .ok (.ireturn, 1) := by decide +kernel
theorem dX0_followPeace_0 : decode cX0_followPeace 0 = .ok (.aload_n 3, 1) := by decide +kernel
theorem dX0_followPeace_1 : decode cX0_followPeace 1 = .ok (.iconst 0, 1) := by decide +kernel
theorem dX0_followPeace_2 : decode cX0_followPeace 2 = .ok (.invokestatic 153, 3) := by decide +kernel
theorem dX0_followPeace_5 : decode cX0_followPeace 5 = .ok (.iconst 0, 1) := by decide +kernel
theorem dX0_followPeace_6 : decode cX0_followPeace 6 = .ok (.istore 4, 2) := by decide +kernel
theorem dX0_followPeace_8 : decode cX0_followPeace 8 = .ok (.iload 4, 2) := by decide +kernel
theorem dX0_followPeace_10 : decode cX0_followPeace 10 = .ok (.aload_n 0, 1) := by decide +kernel
theorem dX0_followPeace_11 : decode cX0_followPeace 11 = .ok (.getfield 129, 3) := by decide +kernel
theorem dX0_followPeace_14 : decode cX0_followPeace 14 = .ok (.if_icmp .ge 34, 3) := by decide +kernel
theorem dX0_followPeace_17 : decode cX0_followPeace 17 = .ok (.iload 4, 2) := by decide +kernel
theorem dX0_followPeace_19 : decode cX0_followPeace 19 = .ok (.sipush 6272, 3) := by decide +kernel
theorem dX0_followPeace_22 : decode cX0_followPeace 22 = .ok (.if_icmp .ge 26, 3) := by decide +kernel
theorem dX0_followPeace_25 : decode cX0_followPeace 25 = .ok (.aload_n 0, 1) := by decide +kernel
theorem dX0_followPeace_26 : decode cX0_followPeace 26 = .ok (.getfield 31, 3) := by decide +kernel
theorem dX0_followPeace_29 : decode cX0_followPeace 29 = .ok (.aload_n 0, 1) := by decide +kernel
theorem dX0_followPeace_30 : decode cX0_followPeace 30 = .ok (.getfield 22, 3) := by decide +kernel
theorem dX0_followPeace_33 : decode cX0_followPeace 33 = .ok (.iload 4, 2) := by decide +kernel
theorem dX0_followPeace_35 : decode cX0_followPeace 35 = .ok (.invokestatic 61, 3) := by decide +kernel
theorem dX0_followPeace_38 : decode cX0_followPeace 38 = .ok (.iconst 0, 1) := by decide +kernel
theorem dX0_followPeace_39 : decode cX0_followPeace 39 = .ok (.invokestatic 146, 3) := by decide +kernel
theorem dX0_followPeace_42 : decode cX0_followPeace 42 = .ok (.iinc 4 1, 3) := by decide +kernel
theorem dX0_followPeace_45 : decode cX0_followPeace 45 = .ok (.goto (-37), 3) := by decide +kernel
theorem dX0_followPeace_48 : decode cX0_followPeace 48 = .ok (.aload_n 0, 1) := by decide +kernel
theorem dX0_followPeace_49 : decode cX0_followPeace 49 = .ok (.iconst 0, 1) := by decide +kernel
theorem dX0_followPeace_50 : decode cX0_followPeace 50 = .ok (.putfield 136, 3) := by decide +kernel
theorem dX0_followPeace_53 : decode cX0_followPeace 53 = .ok (.aload_n 0, 1) := by decide +kernel
theorem dX0_followPeace_54 : decode cX0_followPeace 54 = .ok (.iload_n 1, 1) := by decide +kernel
theorem dX0_followPeace_55 : decode cX0_followPeace 55 = .ok (.invokevirtual 182, 3) := by decide +kernel
theorem dX0_followPeace_58 : decode cX0_followPeace 58 = .ok (.iconst 0, 1) := by decide +kernel
theorem dX0_followPeace_59 : decode cX0_followPeace 59 = .ok (.istore 4, 2) := by decide +kernel
theorem dX0_followPeace_61 : decode cX0_followPeace 61 = .ok (.iload 4, 2) := by decide +kernel
theorem dX0_followPeace_63 : decode cX0_followPeace 63 = .ok (.aload_n 0, 1) := by decide +kernel
theorem dX0_followPeace_64 : decode cX0_followPeace 64 = .ok (.getfield 136, 3) := by decide +kernel
theorem dX0_followPeace_67 : decode cX0_followPeace 67 = .ok (.if_icmp .ge 65, 3) := by decide +kernel
theorem dX0_followPeace_70 : decode cX0_followPeace 70 = .ok (.iload 4, 2) := by decide +kernel
theorem dX0_followPeace_72 : decode cX0_followPeace 72 = .ok (.sipush 6272, 3) := by decide +kernel
theorem dX0_followPeace_75 : decode cX0_followPeace 75 = .ok (.if_icmp .ge 57, 3) := by decide +kernel
theorem dX0_followPeace_78 : decode cX0_followPeace 78 = .ok (.aload_n 0, 1) := by decide +kernel
theorem dX0_followPeace_79 : decode cX0_followPeace 79 = .ok (.getfield 25, 3) := by decide +kernel
theorem dX0_followPeace_82 : decode cX0_followPeace 82 = .ok (.iload 4, 2) := by decide +kernel
theorem dX0_followPeace_84 : decode cX0_followPeace 84 = .ok (.invokestatic 61, 3) := by decide +kernel
theorem dX0_followPeace_87 : decode cX0_followPeace 87 = .ok (.istore 5, 2) := by decide +kernel
theorem dX0_followPeace_89 : decode cX0_followPeace 89 = .ok (.aload_n 0, 1) := by decide +kernel
theorem dX0_followPeace_90 : decode cX0_followPeace 90 = .ok (.iload 5, 2) := by decide +kernel
theorem dX0_followPeace_92 : decode cX0_followPeace 92 = .ok (.invokevirtual 68, 3) := by decide +kernel
theorem dX0_followPeace_95 : decode cX0_followPeace 95 = .ok (.ifCond .eq 24, 3) := by decide +kernel
theorem dX0_followPeace_98 : decode cX0_followPeace 98 = .ok (.aload_n 3, 1) := by decide +kernel
theorem dX0_followPeace_99 : decode cX0_followPeace 99 = .ok (.aload_n 0, 1) := by decide +kernel
theorem dX0_followPeace_100 : decode cX0_followPeace 100 = .ok (.iload 5, 2) := by decide +kernel
theorem dX0_followPeace_102 : decode cX0_followPeace 102 = .ok (.iconst 0, 1) := by decide +kernel
theorem dX0_followPeace_103 : decode cX0_followPeace 103 = .ok (.invokevirtual 105, 3) := by decide +kernel
theorem dX0_followPeace_106 : decode cX0_followPeace 106 = .ok (.aload_n 0, 1) := by decide +kernel
theorem dX0_followPeace_107 : decode cX0_followPeace 107 = .ok (.iload 5, 2) := by decide +kernel
theorem dX0_followPeace_109 : decode cX0_followPeace 109 = .ok (.iconst 1, 1) := by decide +kernel
theorem dX0_followPeace_110 : decode cX0_followPeace 110 = .ok (.invokevirtual 105, 3) := by decide +kernel
theorem dX0_followPeace_113 : decode cX0_followPeace 113 = .ok (.invokestatic 185, 3) := by decide +kernel
theorem dX0_followPeace_116 : decode cX0_followPeace 116 = .ok (.goto 10, 3) := by decide +kernel
theorem dX0_followPeace_119 : decode cX0_followPeace 119 = .ok (.aload_n 0, 1) := by decide +kernel
theorem dX0_followPeace_120 : decode cX0_followPeace 120 = .ok (.iload 5, 2) := by decide +kernel
theorem dX0_followPeace_122 : decode cX0_followPeace 122 = .ok (.iload_n 2, 1) := by decide +kernel
theorem dX0_followPeace_123 : decode cX0_followPeace 123 = .ok (.invokevirtual 188, 3) := by decide +kernel
theorem dX0_followPeace_126 : decode cX0_followPeace 126 = .ok (.iinc 4 1, 3) := by decide +kernel
theorem dX0_followPeace_129 : decode cX0_followPeace 129 = .ok (.goto (-68), 3) := by decide +kernel
theorem dX0_followPeace_132 : decode cX0_followPeace 132 = .ok (.return_, 1) := by decide +kernel
theorem dX0_mark_0 : decode cX0_mark 0 = .ok (.iload_n 1, 1) := by decide +kernel
theorem dX0_mark_1 : decode cX0_mark 1 = .ok (.iload_n 2, 1) := by decide +kernel
theorem dX0_mark_2 : decode cX0_mark 2 = .ok (.invokestatic 191, 3) := by decide +kernel
theorem dX0_mark_5 : decode cX0_mark 5 = .ok (.istore_n 3, 1) := by decide +kernel
theorem dX0_mark_6 : decode cX0_mark 6 = .ok (.aload_n 0, 1) := by decide +kernel
theorem dX0_mark_7 : decode cX0_mark 7 = .ok (.iload_n 3, 1) := by decide +kernel
theorem dX0_mark_8 : decode cX0_mark 8 = .ok (.aload_n 0, 1) := by decide +kernel
theorem dX0_mark_9 : decode cX0_mark 9 = .ok (.iload_n 3, 1) := by decide +kernel
theorem dX0_mark_10 : decode cX0_mark 10 = .ok (.invokestatic 61, 3) := by decide +kernel
theorem dX0_mark_13 : decode cX0_mark 13 = .ok (.iconst 1, 1) := by decide +kernel
theorem dX0_mark_14 : decode cX0_mark 14 = .ok (.iload_n 1, 1) := by decide +kernel
theorem dX0_mark_15 : decode cX0_mark 15 = .ok (.iload_n 2, 1) := by decide +kernel
theorem dX0_mark_16 : decode cX0_mark 16 = .ok (.invokestatic 117, 3) := by decide +kernel
theorem dX0_mark_19 : decode cX0_mark 19 = .ok (.ishl, 1) := by decide +kernel
theorem dX0_mark_20 : decode cX0_mark 20 = .ok (.ior, 1) := by decide +kernel
theorem dX0_mark_21 : decode cX0_mark 21 = .ok (.invokestatic 146, 3) := by decide +kernel
theorem dX0_mark_24 : decode cX0_mark 24 = .ok (.return_, 1) := by decide +kernel
theorem dX0_walkOn_0 : decode cX0_walkOn 0 = .ok (.aload_n 0, 1) := by decide +kernel
theorem dX0_walkOn_1 : decode cX0_walkOn 1 = .ok (.iload_n 1, 1) := by decide +kernel
theorem dX0_walkOn_2 : decode cX0_walkOn 2 = .ok (.invokevirtual 72, 3) := by decide +kernel
theorem dX0_walkOn_5 : decode cX0_walkOn 5 = .ok (.lstore_n 3, 1) := by decide +kernel
theorem dX0_walkOn_6 : decode cX0_walkOn 6 = .ok (.lload_n 3, 1) := by decide +kernel
theorem dX0_walkOn_7 : decode cX0_walkOn 7 = .ok (.lconst 0, 1) := by decide +kernel
theorem dX0_walkOn_8 : decode cX0_walkOn 8 = .ok (.lcmp, 1) := by decide +kernel
theorem dX0_walkOn_9 : decode cX0_walkOn 9 = .ok (.ifCond .ne 10, 3) := by decide +kernel
theorem dX0_walkOn_12 : decode cX0_walkOn 12 = .ok (.aload_n 0, 1) := by decide +kernel
theorem dX0_walkOn_13 : decode cX0_walkOn 13 = .ok (.iload_n 1, 1) := by decide +kernel
theorem dX0_walkOn_14 : decode cX0_walkOn 14 = .ok (.iconst 1, 1) := by decide +kernel
theorem dX0_walkOn_15 : decode cX0_walkOn 15 = .ok (.ixor, 1) := by decide +kernel
theorem dX0_walkOn_16 : decode cX0_walkOn 16 = .ok (.invokevirtual 182, 3) := by decide +kernel
theorem dX0_walkOn_19 : decode cX0_walkOn 19 = .ok (.lload_n 3, 1) := by decide +kernel
theorem dX0_walkOn_20 : decode cX0_walkOn 20 = .ok (.invokestatic 92, 3) := by decide +kernel
theorem dX0_walkOn_23 : decode cX0_walkOn 23 = .ok (.istore 5, 2) := by decide +kernel
theorem dX0_walkOn_25 : decode cX0_walkOn 25 = .ok (.iload 5, 2) := by decide +kernel
theorem dX0_walkOn_27 : decode cX0_walkOn 27 = .ok (.ifCond .le 80, 3) := by decide +kernel
theorem dX0_walkOn_30 : decode cX0_walkOn 30 = .ok (.aload_n 0, 1) := by decide +kernel
theorem dX0_walkOn_31 : decode cX0_walkOn 31 = .ok (.iload_n 1, 1) := by decide +kernel
theorem dX0_walkOn_32 : decode cX0_walkOn 32 = .ok (.lload_n 3, 1) := by decide +kernel
theorem dX0_walkOn_33 : decode cX0_walkOn 33 = .ok (.invokestatic 98, 3) := by decide +kernel
theorem dX0_walkOn_36 : decode cX0_walkOn 36 = .ok (.invokevirtual 114, 3) := by decide +kernel
theorem dX0_walkOn_39 : decode cX0_walkOn 39 = .ok (.istore 6, 2) := by decide +kernel
theorem dX0_walkOn_41 : decode cX0_walkOn 41 = .ok (.lload_n 3, 1) := by decide +kernel
theorem dX0_walkOn_42 : decode cX0_walkOn 42 = .ok (.lload_n 3, 1) := by decide +kernel
theorem dX0_walkOn_43 : decode cX0_walkOn 43 = .ok (.lconst 1, 1) := by decide +kernel
theorem dX0_walkOn_44 : decode cX0_walkOn 44 = .ok (.lsub, 1) := by decide +kernel
theorem dX0_walkOn_45 : decode cX0_walkOn 45 = .ok (.land, 1) := by decide +kernel
theorem dX0_walkOn_46 : decode cX0_walkOn 46 = .ok (.lstore_n 3, 1) := by decide +kernel
theorem dX0_walkOn_47 : decode cX0_walkOn 47 = .ok (.aload_n 0, 1) := by decide +kernel
theorem dX0_walkOn_48 : decode cX0_walkOn 48 = .ok (.iload 6, 2) := by decide +kernel
theorem dX0_walkOn_50 : decode cX0_walkOn 50 = .ok (.invokevirtual 143, 3) := by decide +kernel
theorem dX0_walkOn_53 : decode cX0_walkOn 53 = .ok (.aload_n 0, 1) := by decide +kernel
theorem dX0_walkOn_54 : decode cX0_walkOn 54 = .ok (.iload_n 1, 1) := by decide +kernel
theorem dX0_walkOn_55 : decode cX0_walkOn 55 = .ok (.invokevirtual 143, 3) := by decide +kernel
theorem dX0_walkOn_58 : decode cX0_walkOn 58 = .ok (.iconst 1, 1) := by decide +kernel
theorem dX0_walkOn_59 : decode cX0_walkOn 59 = .ok (.isub, 1) := by decide +kernel
theorem dX0_walkOn_60 : decode cX0_walkOn 60 = .ok (.if_icmp .ne 7, 3) := by decide +kernel
theorem dX0_walkOn_63 : decode cX0_walkOn 63 = .ok (.iconst 1, 1) := by decide +kernel
theorem dX0_walkOn_64 : decode cX0_walkOn 64 = .ok (.goto 4, 3) := by decide +kernel
theorem dX0_walkOn_67 : decode cX0_walkOn 67 = .ok (.iconst 0, 1) := by decide +kernel
theorem dX0_walkOn_68 : decode cX0_walkOn 68 = .ok (.istore 7, 2) := by decide +kernel
theorem dX0_walkOn_70 : decode cX0_walkOn 70 = .ok (.iload_n 1, 1) := by decide +kernel
theorem dX0_walkOn_71 : decode cX0_walkOn 71 = .ok (.iconst 1, 1) := by decide +kernel
theorem dX0_walkOn_72 : decode cX0_walkOn 72 = .ok (.iand, 1) := by decide +kernel
theorem dX0_walkOn_73 : decode cX0_walkOn 73 = .ok (.iload_n 2, 1) := by decide +kernel
theorem dX0_walkOn_74 : decode cX0_walkOn 74 = .ok (.if_icmp .ne 8, 3) := by decide +kernel
theorem dX0_walkOn_77 : decode cX0_walkOn 77 = .ok (.iload 7, 2) := by decide +kernel
theorem dX0_walkOn_79 : decode cX0_walkOn 79 = .ok (.ifCond .eq 9, 3) := by decide +kernel
theorem dX0_walkOn_82 : decode cX0_walkOn 82 = .ok (.aload_n 0, 1) := by decide +kernel
theorem dX0_walkOn_83 : decode cX0_walkOn 83 = .ok (.iload 6, 2) := by decide +kernel
theorem dX0_walkOn_85 : decode cX0_walkOn 85 = .ok (.invokevirtual 182, 3) := by decide +kernel
theorem dX0_walkOn_88 : decode cX0_walkOn 88 = .ok (.iload_n 1, 1) := by decide +kernel
theorem dX0_walkOn_89 : decode cX0_walkOn 89 = .ok (.iconst 1, 1) := by decide +kernel
theorem dX0_walkOn_90 : decode cX0_walkOn 90 = .ok (.iand, 1) := by decide +kernel
theorem dX0_walkOn_91 : decode cX0_walkOn 91 = .ok (.iload_n 2, 1) := by decide +kernel
theorem dX0_walkOn_92 : decode cX0_walkOn 92 = .ok (.if_icmp .ne 9, 3) := by decide +kernel
theorem dX0_walkOn_95 : decode cX0_walkOn 95 = .ok (.iload 7, 2) := by decide +kernel
theorem dX0_walkOn_97 : decode cX0_walkOn 97 = .ok (.ifCond .eq 4, 3) := by decide +kernel
theorem dX0_walkOn_100 : decode cX0_walkOn 100 = .ok (.return_, 1) := by decide +kernel
theorem dX0_walkOn_101 : decode cX0_walkOn 101 = .ok (.iinc 5 (-1), 3) := by decide +kernel
theorem dX0_walkOn_104 : decode cX0_walkOn 104 = .ok (.goto (-79), 3) := by decide +kernel
theorem dX0_walkOn_107 : decode cX0_walkOn 107 = .ok (.return_, 1) := by decide +kernel
theorem dX0_walkTo_0 : decode cX0_walkTo 0 = .ok (.aload_n 0, 1) := by decide +kernel
theorem dX0_walkTo_1 : decode cX0_walkTo 1 = .ok (.getfield 31, 3) := by decide +kernel
theorem dX0_walkTo_4 : decode cX0_walkTo 4 = .ok (.iload_n 1, 1) := by decide +kernel
theorem dX0_walkTo_5 : decode cX0_walkTo 5 = .ok (.invokestatic 61, 3) := by decide +kernel
theorem dX0_walkTo_8 : decode cX0_walkTo 8 = .ok (.ifCond .eq 4, 3) := by decide +kernel
theorem dX0_walkTo_11 : decode cX0_walkTo 11 = .ok (.return_, 1) := by decide +kernel
theorem dX0_walkTo_12 : decode cX0_walkTo 12 = .ok (.aload_n 0, 1) := by decide +kernel
theorem dX0_walkTo_13 : decode cX0_walkTo 13 = .ok (.getfield 31, 3) := by decide +kernel
theorem dX0_walkTo_16 : decode cX0_walkTo 16 = .ok (.iload_n 1, 1) := by decide +kernel
theorem dX0_walkTo_17 : decode cX0_walkTo 17 = .ok (.iconst 1, 1) := by decide +kernel
theorem dX0_walkTo_18 : decode cX0_walkTo 18 = .ok (.invokestatic 146, 3) := by decide +kernel
theorem dX0_walkTo_21 : decode cX0_walkTo 21 = .ok (.aload_n 0, 1) := by decide +kernel
theorem dX0_walkTo_22 : decode cX0_walkTo 22 = .ok (.getfield 25, 3) := by decide +kernel
theorem dX0_walkTo_25 : decode cX0_walkTo 25 = .ok (.aload_n 0, 1) := by decide +kernel
theorem dX0_walkTo_26 : decode cX0_walkTo 26 = .ok (.getfield 136, 3) := by decide +kernel
theorem dX0_walkTo_29 : decode cX0_walkTo 29 = .ok (.iload_n 1, 1) := by decide +kernel
theorem dX0_walkTo_30 : decode cX0_walkTo 30 = .ok (.invokestatic 146, 3) := by decide +kernel
theorem dX0_walkTo_33 : decode cX0_walkTo 33 = .ok (.aload_n 0, 1) := by decide +kernel
theorem dX0_walkTo_34 : decode cX0_walkTo 34 = .ok (.dup, 1) := by decide +kernel
theorem dX0_walkTo_35 : decode cX0_walkTo 35 = .ok (.getfield 136, 3) := by decide +kernel
theorem dX0_walkTo_38 : decode cX0_walkTo 38 = .ok (.iconst 1, 1) := by decide +kernel
theorem dX0_walkTo_39 : decode cX0_walkTo 39 = .ok (.iadd, 1) := by decide +kernel
theorem dX0_walkTo_40 : decode cX0_walkTo 40 = .ok (.putfield 136, 3) := by decide +kernel
theorem dX0_walkTo_43 : decode cX0_walkTo 43 = .ok (.return_, 1) := by decide +kernel
theorem dX0_holdersBehind_0 : decode cX0_holdersBehind 0 = .ok (.aload_n 0, 1) := by decide +kernel
theorem dX0_holdersBehind_1 : decode cX0_holdersBehind 1 = .ok (.invokevirtual 122, 3) := by decide +kernel
theorem dX0_holdersBehind_4 : decode cX0_holdersBehind 4 = .ok (.aload_n 0, 1) := by decide +kernel
theorem dX0_holdersBehind_5 : decode cX0_holdersBehind 5 = .ok (.aload_n 0, 1) := by decide +kernel
theorem dX0_holdersBehind_6 : decode cX0_holdersBehind 6 = .ok (.getfield 37, 3) := by decide +kernel
theorem dX0_holdersBehind_9 : decode cX0_holdersBehind 9 = .ok (.iconst 1, 1) := by decide +kernel
theorem dX0_holdersBehind_10 : decode cX0_holdersBehind 10 = .ok (.iadd, 1) := by decide +kernel
theorem dX0_holdersBehind_11 : decode cX0_holdersBehind 11 = .ok (.putfield 194, 3) := by decide +kernel
theorem dX0_holdersBehind_14 : decode cX0_holdersBehind 14 = .ok (.aload_n 0, 1) := by decide +kernel
theorem dX0_holdersBehind_15 : decode cX0_holdersBehind 15 = .ok (.aload_n 0, 1) := by decide +kernel
theorem dX0_holdersBehind_16 : decode cX0_holdersBehind 16 = .ok (.getfield 194, 3) := by decide +kernel
theorem dX0_holdersBehind_19 : decode cX0_holdersBehind 19 = .ok (.iload_n 2, 1) := by decide +kernel
theorem dX0_holdersBehind_20 : decode cX0_holdersBehind 20 = .ok (.iadd, 1) := by decide +kernel
theorem dX0_holdersBehind_21 : decode cX0_holdersBehind 21 = .ok (.putfield 37, 3) := by decide +kernel
theorem dX0_holdersBehind_24 : decode cX0_holdersBehind 24 = .ok (.aload_n 0, 1) := by decide +kernel
theorem dX0_holdersBehind_25 : decode cX0_holdersBehind 25 = .ok (.getfield 22, 3) := by decide +kernel
theorem dX0_holdersBehind_28 : decode cX0_holdersBehind 28 = .ok (.astore 4, 2) := by decide +kernel
theorem dX0_holdersBehind_30 : decode cX0_holdersBehind 30 = .ok (.aload_n 0, 1) := by decide +kernel
theorem dX0_holdersBehind_31 : decode cX0_holdersBehind 31 = .ok (.getfield 25, 3) := by decide +kernel
theorem dX0_holdersBehind_34 : decode cX0_holdersBehind 34 = .ok (.astore 5, 2) := by decide +kernel
theorem dX0_holdersBehind_36 : decode cX0_holdersBehind 36 = .ok (.aload_n 0, 1) := by decide +kernel
theorem dX0_holdersBehind_37 : decode cX0_holdersBehind 37 = .ok (.aload 4, 2) := by decide +kernel
theorem dX0_holdersBehind_39 : decode cX0_holdersBehind 39 = .ok (.iconst 0, 1) := by decide +kernel
theorem dX0_holdersBehind_40 : decode cX0_holdersBehind 40 = .ok (.iload_n 1, 1) := by decide +kernel
theorem dX0_holdersBehind_41 : decode cX0_holdersBehind 41 = .ok (.iconst 0, 1) := by decide +kernel
theorem dX0_holdersBehind_42 : decode cX0_holdersBehind 42 = .ok (.aload_n 3, 1) := by decide +kernel
theorem dX0_holdersBehind_43 : decode cX0_holdersBehind 43 = .ok (.invokevirtual 197, 3) := by decide +kernel
theorem dX0_holdersBehind_46 : decode cX0_holdersBehind 46 = .ok (.istore 6, 2) := by decide +kernel
theorem dX0_holdersBehind_48 : decode cX0_holdersBehind 48 = .ok (.iconst 1, 1) := by decide +kernel
theorem dX0_holdersBehind_49 : decode cX0_holdersBehind 49 = .ok (.istore 7, 2) := by decide +kernel
theorem dX0_holdersBehind_51 : decode cX0_holdersBehind 51 = .ok (.iload 7, 2) := by decide +kernel
theorem dX0_holdersBehind_53 : decode cX0_holdersBehind 53 = .ok (.iload_n 2, 1) := by decide +kernel
theorem dX0_holdersBehind_54 : decode cX0_holdersBehind 54 = .ok (.if_icmp .gt 72, 3) := by decide +kernel
theorem dX0_holdersBehind_57 : decode cX0_holdersBehind 57 = .ok (.iconst 0, 1) := by decide +kernel
theorem dX0_holdersBehind_58 : decode cX0_holdersBehind 58 = .ok (.istore 8, 2) := by decide +kernel
theorem dX0_holdersBehind_60 : decode cX0_holdersBehind 60 = .ok (.iconst 0, 1) := by decide +kernel
theorem dX0_holdersBehind_61 : decode cX0_holdersBehind 61 = .ok (.istore 9, 2) := by decide +kernel
theorem dX0_holdersBehind_63 : decode cX0_holdersBehind 63 = .ok (.iload 9, 2) := by decide +kernel
theorem dX0_holdersBehind_65 : decode cX0_holdersBehind 65 = .ok (.iload 6, 2) := by decide +kernel
theorem dX0_holdersBehind_67 : decode cX0_holdersBehind 67 = .ok (.if_icmp .ge 37, 3) := by decide +kernel
theorem dX0_holdersBehind_70 : decode cX0_holdersBehind 70 = .ok (.iload 9, 2) := by decide +kernel
theorem dX0_holdersBehind_72 : decode cX0_holdersBehind 72 = .ok (.sipush 6272, 3) := by decide +kernel
theorem dX0_holdersBehind_75 : decode cX0_holdersBehind 75 = .ok (.if_icmp .ge 29, 3) := by decide +kernel
theorem dX0_holdersBehind_78 : decode cX0_holdersBehind 78 = .ok (.aload_n 0, 1) := by decide +kernel
theorem dX0_holdersBehind_79 : decode cX0_holdersBehind 79 = .ok (.aload 5, 2) := by decide +kernel
theorem dX0_holdersBehind_81 : decode cX0_holdersBehind 81 = .ok (.iload 8, 2) := by decide +kernel
theorem dX0_holdersBehind_83 : decode cX0_holdersBehind 83 = .ok (.aload 4, 2) := by decide +kernel
theorem dX0_holdersBehind_85 : decode cX0_holdersBehind 85 = .ok (.iload 9, 2) := by decide +kernel
theorem dX0_holdersBehind_87 : decode cX0_holdersBehind 87 = .ok (.invokestatic 61, 3) := by decide +kernel
theorem dX0_holdersBehind_90 : decode cX0_holdersBehind 90 = .ok (.iload 7, 2) := by decide +kernel
theorem dX0_holdersBehind_92 : decode cX0_holdersBehind 92 = .ok (.aload_n 3, 1) := by decide +kernel
theorem dX0_holdersBehind_93 : decode cX0_holdersBehind 93 = .ok (.invokevirtual 201, 3) := by decide +kernel
theorem dX0_holdersBehind_96 : decode cX0_holdersBehind 96 = .ok (.istore 8, 2) := by decide +kernel
theorem dX0_holdersBehind_98 : decode cX0_holdersBehind 98 = .ok (.iinc 9 1, 3) := by decide +kernel
theorem dX0_holdersBehind_101 : decode cX0_holdersBehind 101 = .ok (.goto (-38), 3) := by decide +kernel
theorem dX0_holdersBehind_104 : decode cX0_holdersBehind 104 = .ok (.aload 4, 2) := by decide +kernel
theorem dX0_holdersBehind_106 : decode cX0_holdersBehind 106 = .ok (.astore 9, 2) := by decide +kernel
theorem dX0_holdersBehind_108 : decode cX0_holdersBehind 108 = .ok (.aload 5, 2) := by decide +kernel
theorem dX0_holdersBehind_110 : decode cX0_holdersBehind 110 = .ok (.astore 4, 2) := by decide +kernel
theorem dX0_holdersBehind_112 : decode cX0_holdersBehind 112 = .ok (.aload 9, 2) := by decide +kernel
theorem dX0_holdersBehind_114 : decode cX0_holdersBehind 114 = .ok (.astore 5, 2) := by decide +kernel
theorem dX0_holdersBehind_116 : decode cX0_holdersBehind 116 = .ok (.iload 8, 2) := by decide +kernel
theorem dX0_holdersBehind_118 : decode cX0_holdersBehind 118 = .ok (.istore 6, 2) := by decide +kernel
theorem dX0_holdersBehind_120 : decode cX0_holdersBehind 120 = .ok (.iinc 7 1, 3) := by decide +kernel
theorem dX0_holdersBehind_123 : decode cX0_holdersBehind 123 = .ok (.goto (-72), 3) := by decide +kernel
theorem dX0_holdersBehind_126 : decode cX0_holdersBehind 126 = .ok (.iconst 0, 1) := by decide +kernel
theorem dX0_holdersBehind_127 : decode cX0_holdersBehind 127 = .ok (.istore 7, 2) := by decide +kernel
theorem dX0_holdersBehind_129 : decode cX0_holdersBehind 129 = .ok (.iconst 0, 1) := by decide +kernel
theorem dX0_holdersBehind_130 : decode cX0_holdersBehind 130 = .ok (.istore 8, 2) := by decide +kernel
theorem dX0_holdersBehind_132 : decode cX0_holdersBehind 132 = .ok (.iload 8, 2) := by decide +kernel
theorem dX0_holdersBehind_134 : decode cX0_holdersBehind 134 = .ok (.iload 6, 2) := by decide +kernel
theorem dX0_holdersBehind_136 : decode cX0_holdersBehind 136 = .ok (.if_icmp .ge 33, 3) := by decide +kernel
theorem dX0_holdersBehind_139 : decode cX0_holdersBehind 139 = .ok (.iload 8, 2) := by decide +kernel
theorem dX0_holdersBehind_141 : decode cX0_holdersBehind 141 = .ok (.sipush 6272, 3) := by decide +kernel
theorem dX0_holdersBehind_144 : decode cX0_holdersBehind 144 = .ok (.if_icmp .ge 25, 3) := by decide +kernel
theorem dX0_holdersBehind_147 : decode cX0_holdersBehind 147 = .ok (.iload 7, 2) := by decide +kernel
theorem dX0_holdersBehind_149 : decode cX0_holdersBehind 149 = .ok (.aload_n 0, 1) := by decide +kernel
theorem dX0_holdersBehind_150 : decode cX0_holdersBehind 150 = .ok (.aload 4, 2) := by decide +kernel
theorem dX0_holdersBehind_152 : decode cX0_holdersBehind 152 = .ok (.iload 8, 2) := by decide +kernel
theorem dX0_holdersBehind_154 : decode cX0_holdersBehind 154 = .ok (.invokestatic 61, 3) := by decide +kernel
theorem dX0_holdersBehind_157 : decode cX0_holdersBehind 157 = .ok (.invokevirtual 174, 3) := by decide +kernel
theorem dX0_holdersBehind_160 : decode cX0_holdersBehind 160 = .ok (.ior, 1) := by decide +kernel
theorem dX0_holdersBehind_161 : decode cX0_holdersBehind 161 = .ok (.istore 7, 2) := by decide +kernel
theorem dX0_holdersBehind_163 : decode cX0_holdersBehind 163 = .ok (.iinc 8 1, 3) := by decide +kernel
theorem dX0_holdersBehind_166 : decode cX0_holdersBehind 166 = .ok (.goto (-34), 3) := by decide +kernel
theorem dX0_holdersBehind_169 : decode cX0_holdersBehind 169 = .ok (.iload 7, 2) := by decide +kernel
theorem dX0_holdersBehind_171 : decode cX0_holdersBehind 171 = .ok (.ireturn, 1) := by decide +kernel
theorem dX0_putOnward_0 : decode cX0_putOnward 0 = .ok (.aload_n 0, 1) := by decide +kernel
theorem dX0_putOnward_1 : decode cX0_putOnward 1 = .ok (.iload_n 3, 1) := by decide +kernel
theorem dX0_putOnward_2 : decode cX0_putOnward 2 = .ok (.invokevirtual 101, 3) := by decide +kernel
theorem dX0_putOnward_5 : decode cX0_putOnward 5 = .ok (.ifCond .eq 15, 3) := by decide +kernel
theorem dX0_putOnward_8 : decode cX0_putOnward 8 = .ok (.aload_n 0, 1) := by decide +kernel
theorem dX0_putOnward_9 : decode cX0_putOnward 9 = .ok (.aload_n 1, 1) := by decide +kernel
theorem dX0_putOnward_10 : decode cX0_putOnward 10 = .ok (.iload_n 2, 1) := by decide +kernel
theorem dX0_putOnward_11 : decode cX0_putOnward 11 = .ok (.iload_n 3, 1) := by decide +kernel
theorem dX0_putOnward_12 : decode cX0_putOnward 12 = .ok (.iload 4, 2) := by decide +kernel
theorem dX0_putOnward_14 : decode cX0_putOnward 14 = .ok (.aload 5, 2) := by decide +kernel
theorem dX0_putOnward_16 : decode cX0_putOnward 16 = .ok (.invokevirtual 197, 3) := by decide +kernel
theorem dX0_putOnward_19 : decode cX0_putOnward 19 = .ok (.ireturn, 1) := by decide +kernel
theorem dX0_putOnward_20 : decode cX0_putOnward 20 = .ok (.aload_n 0, 1) := by decide +kernel
theorem dX0_putOnward_21 : decode cX0_putOnward 21 = .ok (.iload_n 3, 1) := by decide +kernel
theorem dX0_putOnward_22 : decode cX0_putOnward 22 = .ok (.invokevirtual 72, 3) := by decide +kernel
theorem dX0_putOnward_25 : decode cX0_putOnward 25 = .ok (.lstore 6, 2) := by decide +kernel
theorem dX0_putOnward_27 : decode cX0_putOnward 27 = .ok (.lload 6, 2) := by decide +kernel
theorem dX0_putOnward_29 : decode cX0_putOnward 29 = .ok (.lconst 0, 1) := by decide +kernel
theorem dX0_putOnward_30 : decode cX0_putOnward 30 = .ok (.lcmp, 1) := by decide +kernel
theorem dX0_putOnward_31 : decode cX0_putOnward 31 = .ok (.ifCond .ne 17, 3) := by decide +kernel
theorem dX0_putOnward_34 : decode cX0_putOnward 34 = .ok (.aload_n 0, 1) := by decide +kernel
theorem dX0_putOnward_35 : decode cX0_putOnward 35 = .ok (.aload_n 1, 1) := by decide +kernel
theorem dX0_putOnward_36 : decode cX0_putOnward 36 = .ok (.iload_n 2, 1) := by decide +kernel
theorem dX0_putOnward_37 : decode cX0_putOnward 37 = .ok (.iload_n 3, 1) := by decide +kernel
theorem dX0_putOnward_38 : decode cX0_putOnward 38 = .ok (.iconst 1, 1) := by decide +kernel
theorem dX0_putOnward_39 : decode cX0_putOnward 39 = .ok (.ixor, 1) := by decide +kernel
theorem dX0_putOnward_40 : decode cX0_putOnward 40 = .ok (.iload 4, 2) := by decide +kernel
theorem dX0_putOnward_42 : decode cX0_putOnward 42 = .ok (.aload 5, 2) := by decide +kernel
theorem dX0_putOnward_44 : decode cX0_putOnward 44 = .ok (.invokevirtual 197, 3) := by decide +kernel
theorem dX0_putOnward_47 : decode cX0_putOnward 47 = .ok (.ireturn, 1) := by decide +kernel
theorem dX0_putOnward_48 : decode cX0_putOnward 48 = .ok (.iload_n 2, 1) := by decide +kernel
theorem dX0_putOnward_49 : decode cX0_putOnward 49 = .ok (.istore 8, 2) := by decide +kernel
theorem dX0_putOnward_51 : decode cX0_putOnward 51 = .ok (.lload 6, 2) := by decide +kernel
theorem dX0_putOnward_53 : decode cX0_putOnward 53 = .ok (.invokestatic 92, 3) := by decide +kernel
theorem dX0_putOnward_56 : decode cX0_putOnward 56 = .ok (.istore 9, 2) := by decide +kernel
theorem dX0_putOnward_58 : decode cX0_putOnward 58 = .ok (.iload 9, 2) := by decide +kernel
theorem dX0_putOnward_60 : decode cX0_putOnward 60 = .ok (.ifCond .le 41, 3) := by decide +kernel
theorem dX0_putOnward_63 : decode cX0_putOnward 63 = .ok (.aload_n 0, 1) := by decide +kernel
theorem dX0_putOnward_64 : decode cX0_putOnward 64 = .ok (.aload_n 1, 1) := by decide +kernel
theorem dX0_putOnward_65 : decode cX0_putOnward 65 = .ok (.iload 8, 2) := by decide +kernel
theorem dX0_putOnward_67 : decode cX0_putOnward 67 = .ok (.aload_n 0, 1) := by decide +kernel
theorem dX0_putOnward_68 : decode cX0_putOnward 68 = .ok (.iload_n 3, 1) := by decide +kernel
theorem dX0_putOnward_69 : decode cX0_putOnward 69 = .ok (.lload 6, 2) := by decide +kernel
theorem dX0_putOnward_71 : decode cX0_putOnward 71 = .ok (.invokestatic 98, 3) := by decide +kernel
theorem dX0_putOnward_74 : decode cX0_putOnward 74 = .ok (.invokevirtual 114, 3) := by decide +kernel
theorem dX0_putOnward_77 : decode cX0_putOnward 77 = .ok (.iload 4, 2) := by decide +kernel
theorem dX0_putOnward_79 : decode cX0_putOnward 79 = .ok (.aload 5, 2) := by decide +kernel
theorem dX0_putOnward_81 : decode cX0_putOnward 81 = .ok (.invokevirtual 197, 3) := by decide +kernel
theorem dX0_putOnward_84 : decode cX0_putOnward 84 = .ok (.istore 8, 2) := by decide +kernel
theorem dX0_putOnward_86 : decode cX0_putOnward 86 = .ok (.lload 6, 2) := by decide +kernel
theorem dX0_putOnward_88 : decode cX0_putOnward 88 = .ok (.lload 6, 2) := by decide +kernel
theorem dX0_putOnward_90 : decode cX0_putOnward 90 = .ok (.lconst 1, 1) := by decide +kernel
theorem dX0_putOnward_91 : decode cX0_putOnward 91 = .ok (.lsub, 1) := by decide +kernel
theorem dX0_putOnward_92 : decode cX0_putOnward 92 = .ok (.land, 1) := by decide +kernel
theorem dX0_putOnward_93 : decode cX0_putOnward 93 = .ok (.lstore 6, 2) := by decide +kernel
theorem dX0_putOnward_95 : decode cX0_putOnward 95 = .ok (.iinc 9 (-1), 3) := by decide +kernel
theorem dX0_putOnward_98 : decode cX0_putOnward 98 = .ok (.goto (-40), 3) := by decide +kernel
theorem dX0_putOnward_101 : decode cX0_putOnward 101 = .ok (.iload 8, 2) := by decide +kernel
theorem dX0_putOnward_103 : decode cX0_putOnward 103 = .ok (.ireturn, 1) := by decide +kernel
theorem dX0_putIfFits_0 : decode cX0_putIfFits 0 = .ok (.aload_n 0, 1) := by decide +kernel
theorem dX0_putIfFits_1 : decode cX0_putIfFits 1 = .ok (.getfield 31, 3) := by decide +kernel
theorem dX0_putIfFits_4 : decode cX0_putIfFits 4 = .ok (.iload_n 3, 1) := by decide +kernel
theorem dX0_putIfFits_5 : decode cX0_putIfFits 5 = .ok (.invokestatic 61, 3) := by decide +kernel
theorem dX0_putIfFits_8 : decode cX0_putIfFits 8 = .ok (.aload_n 0, 1) := by decide +kernel
theorem dX0_putIfFits_9 : decode cX0_putIfFits 9 = .ok (.getfield 194, 3) := by decide +kernel
theorem dX0_putIfFits_12 : decode cX0_putIfFits 12 = .ok (.iload 4, 2) := by decide +kernel
theorem dX0_putIfFits_14 : decode cX0_putIfFits 14 = .ok (.iadd, 1) := by decide +kernel
theorem dX0_putIfFits_15 : decode cX0_putIfFits 15 = .ok (.if_icmp .eq 25, 3) := by decide +kernel
theorem dX0_putIfFits_18 : decode cX0_putIfFits 18 = .ok (.aload 5, 2) := by decide +kernel
theorem dX0_putIfFits_20 : decode cX0_putIfFits 20 = .ok (.iload 4, 2) := by decide +kernel
theorem dX0_putIfFits_22 : decode cX0_putIfFits 22 = .ok (.aload_n 0, 1) := by decide +kernel
theorem dX0_putIfFits_23 : decode cX0_putIfFits 23 = .ok (.iload_n 3, 1) := by decide +kernel
theorem dX0_putIfFits_24 : decode cX0_putIfFits 24 = .ok (.iconst 0, 1) := by decide +kernel
theorem dX0_putIfFits_25 : decode cX0_putIfFits 25 = .ok (.invokevirtual 105, 3) := by decide +kernel
theorem dX0_putIfFits_28 : decode cX0_putIfFits 28 = .ok (.aload_n 0, 1) := by decide +kernel
theorem dX0_putIfFits_29 : decode cX0_putIfFits 29 = .ok (.iload_n 3, 1) := by decide +kernel
theorem dX0_putIfFits_30 : decode cX0_putIfFits 30 = .ok (.iconst 1, 1) := by decide +kernel
theorem dX0_putIfFits_31 : decode cX0_putIfFits 31 = .ok (.invokevirtual 105, 3) := by decide +kernel
theorem dX0_putIfFits_34 : decode cX0_putIfFits 34 = .ok (.invokevirtual 204, 3) := by decide +kernel
theorem dX0_putIfFits_37 : decode cX0_putIfFits 37 = .ok (.ifCond .ne 5, 3) := by decide +kernel
theorem dX0_putIfFits_40 : decode cX0_putIfFits 40 = .ok (.iload_n 2, 1) := by decide +kernel
theorem dX0_putIfFits_41 : decode cX0_putIfFits 41 = .ok (.ireturn, 1) := by decide +kernel
theorem dX0_putIfFits_42 : decode cX0_putIfFits 42 = .ok (.aload_n 0, 1) := by decide +kernel
theorem dX0_putIfFits_43 : decode cX0_putIfFits 43 = .ok (.getfield 31, 3) := by decide +kernel
theorem dX0_putIfFits_46 : decode cX0_putIfFits 46 = .ok (.iload_n 3, 1) := by decide +kernel
theorem dX0_putIfFits_47 : decode cX0_putIfFits 47 = .ok (.aload_n 0, 1) := by decide +kernel
theorem dX0_putIfFits_48 : decode cX0_putIfFits 48 = .ok (.getfield 194, 3) := by decide +kernel
theorem dX0_putIfFits_51 : decode cX0_putIfFits 51 = .ok (.iload 4, 2) := by decide +kernel
theorem dX0_putIfFits_53 : decode cX0_putIfFits 53 = .ok (.iadd, 1) := by decide +kernel
theorem dX0_putIfFits_54 : decode cX0_putIfFits 54 = .ok (.invokestatic 146, 3) := by decide +kernel
theorem dX0_putIfFits_57 : decode cX0_putIfFits 57 = .ok (.aload_n 1, 1) := by decide +kernel
theorem dX0_putIfFits_58 : decode cX0_putIfFits 58 = .ok (.iload_n 2, 1) := by decide +kernel
theorem dX0_putIfFits_59 : decode cX0_putIfFits 59 = .ok (.iload_n 3, 1) := by decide +kernel
theorem dX0_putIfFits_60 : decode cX0_putIfFits 60 = .ok (.invokestatic 146, 3) := by decide +kernel
theorem dX0_putIfFits_63 : decode cX0_putIfFits 63 = .ok (.iload_n 2, 1) := by decide +kernel
theorem dX0_putIfFits_64 : decode cX0_putIfFits 64 = .ok (.iconst 1, 1) := by decide +kernel
theorem dX0_putIfFits_65 : decode cX0_putIfFits 65 = .ok (.iadd, 1) := by decide +kernel
theorem dX0_putIfFits_66 : decode cX0_putIfFits 66 = .ok (.ireturn, 1) := by decide +kernel
theorem dX1_init_0 : decode cX1_init 0 = .ok (.aload_n 0, 1) := by decide +kernel
theorem dX1_init_1 : decode cX1_init 1 = .ok (.invokespecial 3, 3) := by decide +kernel
theorem dX1_init_4 : decode cX1_init 4 = .ok (.aload_n 0, 1) := by decide +kernel
theorem dX1_init_5 : decode cX1_init 5 = .ok (.bipush 120, 2) := by decide +kernel
theorem dX1_init_7 : decode cX1_init 7 = .ok (.newarray .int, 2) := by decide +kernel
theorem dX1_init_9 : decode cX1_init 9 = .ok (.putfield 9, 3) := by decide +kernel
theorem dX1_init_12 : decode cX1_init 12 = .ok (.aload_n 0, 1) := by decide +kernel
theorem dX1_init_13 : decode cX1_init 13 = .ok (.bipush 120, 2) := by decide +kernel
theorem dX1_init_15 : decode cX1_init 15 = .ok (.newarray .int, 2) := by decide +kernel
theorem dX1_init_17 : decode cX1_init 17 = .ok (.putfield 15, 3) := by decide +kernel
theorem dX1_init_20 : decode cX1_init 20 = .ok (.aload_n 0, 1) := by decide +kernel
theorem dX1_init_21 : decode cX1_init 21 = .ok (.bipush 16, 2) := by decide +kernel
theorem dX1_init_23 : decode cX1_init 23 = .ok (.newarray .int, 2) := by decide +kernel
theorem dX1_init_25 : decode cX1_init 25 = .ok (.putfield 18, 3) := by decide +kernel
theorem dX1_init_28 : decode cX1_init 28 = .ok (.return_, 1) := by decide +kernel
theorem dX1_empty_0 : decode cX1_empty 0 = .ok (.aload_n 0, 1) := by decide +kernel
theorem dX1_empty_1 : decode cX1_empty 1 = .ok (.iconst 0, 1) := by decide +kernel
theorem dX1_empty_2 : decode cX1_empty 2 = .ok (.putfield 21, 3) := by decide +kernel
theorem dX1_empty_5 : decode cX1_empty 5 = .ok (.aload_n 0, 1) := by decide +kernel
theorem dX1_empty_6 : decode cX1_empty 6 = .ok (.getfield 18, 3) := by decide +kernel
theorem dX1_empty_9 : decode cX1_empty 9 = .ok (.iconst 0, 1) := by decide +kernel
theorem dX1_empty_10 : decode cX1_empty 10 = .ok (.invokestatic 25, 3) := by decide +kernel
theorem dX1_empty_13 : decode cX1_empty 13 = .ok (.return_, 1) := by decide +kernel
theorem dX1_has_0 : decode cX1_has 0 = .ok (.aload_n 0, 1) := by decide +kernel
theorem dX1_has_1 : decode cX1_has 1 = .ok (.getfield 18, 3) := by decide +kernel
theorem dX1_has_4 : decode cX1_has 4 = .ok (.iload_n 1, 1) := by decide +kernel
theorem dX1_has_5 : decode cX1_has 5 = .ok (.invokestatic 31, 3) := by decide +kernel
theorem dX1_has_8 : decode cX1_has 8 = .ok (.iload_n 2, 1) := by decide +kernel
theorem dX1_has_9 : decode cX1_has 9 = .ok (.ishr, 1) := by decide +kernel
theorem dX1_has_10 : decode cX1_has 10 = .ok (.iconst 1, 1) := by decide +kernel
theorem dX1_has_11 : decode cX1_has 11 = .ok (.iand, 1) := by decide +kernel
theorem dX1_has_12 : decode cX1_has 12 = .ok (.ifCond .eq 7, 3) := by decide +kernel
theorem dX1_has_15 : decode cX1_has 15 = .ok (.iconst 1, 1) := by decide +kernel
theorem dX1_has_16 : decode cX1_has 16 = .ok (.goto 4, 3) := by decide +kernel
theorem dX1_has_19 : decode cX1_has 19 = .ok (.iconst 0, 1) := by decide +kernel
theorem dX1_has_20 : decode cX1_has 20 = .ok (.ireturn, 1) := by decide +kernel
theorem dX1_add_0 : decode cX1_add 0 = .ok (.aload_n 0, 1) := by decide +kernel
theorem dX1_add_1 : decode cX1_add 1 = .ok (.getfield 21, 3) := by decide +kernel
theorem dX1_add_4 : decode cX1_add 4 = .ok (.bipush 120, 2) := by decide +kernel
theorem dX1_add_6 : decode cX1_add 6 = .ok (.if_icmp .lt 4, 3) := by decide +kernel
theorem dX1_add_9 : decode cX1_add 9 = .ok (.return_, 1) := by decide +kernel
theorem dX1_add_10 : decode cX1_add 10 = .ok (.aload_n 0, 1) := by decide +kernel
theorem dX1_add_11 : decode cX1_add 11 = .ok (.getfield 9, 3) := by decide +kernel
theorem dX1_add_14 : decode cX1_add 14 = .ok (.aload_n 0, 1) := by decide +kernel
theorem dX1_add_15 : decode cX1_add 15 = .ok (.getfield 21, 3) := by decide +kernel
theorem dX1_add_18 : decode cX1_add 18 = .ok (.iload_n 1, 1) := by decide +kernel
theorem dX1_add_19 : decode cX1_add 19 = .ok (.invokestatic 35, 3) := by decide +kernel
theorem dX1_add_22 : decode cX1_add 22 = .ok (.aload_n 0, 1) := by decide +kernel
theorem dX1_add_23 : decode cX1_add 23 = .ok (.getfield 15, 3) := by decide +kernel
theorem dX1_add_26 : decode cX1_add 26 = .ok (.aload_n 0, 1) := by decide +kernel
theorem dX1_add_27 : decode cX1_add 27 = .ok (.getfield 21, 3) := by decide +kernel
theorem dX1_add_30 : decode cX1_add 30 = .ok (.iload_n 2, 1) := by decide +kernel
theorem dX1_add_31 : decode cX1_add 31 = .ok (.invokestatic 35, 3) := by decide +kernel
theorem dX1_add_34 : decode cX1_add 34 = .ok (.aload_n 0, 1) := by decide +kernel
theorem dX1_add_35 : decode cX1_add 35 = .ok (.dup, 1) := by decide +kernel
theorem dX1_add_36 : decode cX1_add 36 = .ok (.getfield 21, 3) := by decide +kernel
theorem dX1_add_39 : decode cX1_add 39 = .ok (.iconst 1, 1) := by decide +kernel
theorem dX1_add_40 : decode cX1_add 40 = .ok (.iadd, 1) := by decide +kernel
theorem dX1_add_41 : decode cX1_add 41 = .ok (.putfield 21, 3) := by decide +kernel
theorem dX1_add_44 : decode cX1_add 44 = .ok (.aload_n 0, 1) := by decide +kernel
theorem dX1_add_45 : decode cX1_add 45 = .ok (.getfield 18, 3) := by decide +kernel
theorem dX1_add_48 : decode cX1_add 48 = .ok (.iload_n 1, 1) := by decide +kernel
theorem dX1_add_49 : decode cX1_add 49 = .ok (.iload_n 2, 1) := by decide +kernel
theorem dX1_add_50 : decode cX1_add 50 = .ok (.invokestatic 39, 3) := by decide +kernel
theorem dX1_add_53 : decode cX1_add 53 = .ok (.return_, 1) := by decide +kernel
theorem dX1_drop_0 : decode cX1_drop 0 = .ok (.iconst 0, 1) := by decide +kernel
theorem dX1_drop_1 : decode cX1_drop 1 = .ok (.istore_n 3, 1) := by decide +kernel
theorem dX1_drop_2 : decode cX1_drop 2 = .ok (.iload_n 3, 1) := by decide +kernel
theorem dX1_drop_3 : decode cX1_drop 3 = .ok (.aload_n 0, 1) := by decide +kernel
theorem dX1_drop_4 : decode cX1_drop 4 = .ok (.getfield 21, 3) := by decide +kernel
theorem dX1_drop_7 : decode cX1_drop 7 = .ok (.if_icmp .ge 111, 3) := by decide +kernel
theorem dX1_drop_10 : decode cX1_drop 10 = .ok (.aload_n 0, 1) := by decide +kernel
theorem dX1_drop_11 : decode cX1_drop 11 = .ok (.getfield 9, 3) := by decide +kernel
theorem dX1_drop_14 : decode cX1_drop 14 = .ok (.iload_n 3, 1) := by decide +kernel
theorem dX1_drop_15 : decode cX1_drop 15 = .ok (.invokestatic 31, 3) := by decide +kernel
theorem dX1_drop_18 : decode cX1_drop 18 = .ok (.istore 4, 2) := by decide +kernel
theorem dX1_drop_20 : decode cX1_drop 20 = .ok (.aload_n 0, 1) := by decide +kernel
theorem dX1_drop_21 : decode cX1_drop 21 = .ok (.getfield 15, 3) := by decide +kernel
theorem dX1_drop_24 : decode cX1_drop 24 = .ok (.iload_n 3, 1) := by decide +kernel
theorem dX1_drop_25 : decode cX1_drop 25 = .ok (.invokestatic 31, 3) := by decide +kernel
theorem dX1_drop_28 : decode cX1_drop 28 = .ok (.istore 5, 2) := by decide +kernel
theorem dX1_drop_30 : decode cX1_drop 30 = .ok (.iload 4, 2) := by decide +kernel
theorem dX1_drop_32 : decode cX1_drop 32 = .ok (.iload_n 1, 1) := by decide +kernel
theorem dX1_drop_33 : decode cX1_drop 33 = .ok (.if_icmp .ne 9, 3) := by decide +kernel
theorem dX1_drop_36 : decode cX1_drop 36 = .ok (.iload 5, 2) := by decide +kernel
theorem dX1_drop_38 : decode cX1_drop 38 = .ok (.iload_n 2, 1) := by decide +kernel
theorem dX1_drop_39 : decode cX1_drop 39 = .ok (.if_icmp .eq 15, 3) := by decide +kernel
theorem dX1_drop_42 : decode cX1_drop 42 = .ok (.iload 4, 2) := by decide +kernel
theorem dX1_drop_44 : decode cX1_drop 44 = .ok (.iload_n 2, 1) := by decide +kernel
theorem dX1_drop_45 : decode cX1_drop 45 = .ok (.if_icmp .ne 67, 3) := by decide +kernel
theorem dX1_drop_48 : decode cX1_drop 48 = .ok (.iload 5, 2) := by decide +kernel
theorem dX1_drop_50 : decode cX1_drop 50 = .ok (.iload_n 1, 1) := by decide +kernel
theorem dX1_drop_51 : decode cX1_drop 51 = .ok (.if_icmp .ne 61, 3) := by decide +kernel
theorem dX1_drop_54 : decode cX1_drop 54 = .ok (.aload_n 0, 1) := by decide +kernel
theorem dX1_drop_55 : decode cX1_drop 55 = .ok (.dup, 1) := by decide +kernel
theorem dX1_drop_56 : decode cX1_drop 56 = .ok (.getfield 21, 3) := by decide +kernel
theorem dX1_drop_59 : decode cX1_drop 59 = .ok (.iconst 1, 1) := by decide +kernel
theorem dX1_drop_60 : decode cX1_drop 60 = .ok (.isub, 1) := by decide +kernel
theorem dX1_drop_61 : decode cX1_drop 61 = .ok (.putfield 21, 3) := by decide +kernel
theorem dX1_drop_64 : decode cX1_drop 64 = .ok (.aload_n 0, 1) := by decide +kernel
theorem dX1_drop_65 : decode cX1_drop 65 = .ok (.getfield 9, 3) := by decide +kernel
theorem dX1_drop_68 : decode cX1_drop 68 = .ok (.iload_n 3, 1) := by decide +kernel
theorem dX1_drop_69 : decode cX1_drop 69 = .ok (.aload_n 0, 1) := by decide +kernel
theorem dX1_drop_70 : decode cX1_drop 70 = .ok (.getfield 9, 3) := by decide +kernel
theorem dX1_drop_73 : decode cX1_drop 73 = .ok (.aload_n 0, 1) := by decide +kernel
theorem dX1_drop_74 : decode cX1_drop 74 = .ok (.getfield 21, 3) := by decide +kernel
theorem dX1_drop_77 : decode cX1_drop 77 = .ok (.invokestatic 31, 3) := by decide +kernel
theorem dX1_drop_80 : decode cX1_drop 80 = .ok (.invokestatic 35, 3) := by decide +kernel
theorem dX1_drop_83 : decode cX1_drop 83 = .ok (.aload_n 0, 1) := by decide +kernel
theorem dX1_drop_84 : decode cX1_drop 84 = .ok (.getfield 15, 3) := by decide +kernel
theorem dX1_drop_87 : decode cX1_drop 87 = .ok (.iload_n 3, 1) := by decide +kernel
theorem dX1_drop_88 : decode cX1_drop 88 = .ok (.aload_n 0, 1) := by decide +kernel
theorem dX1_drop_89 : decode cX1_drop 89 = .ok (.getfield 15, 3) := by decide +kernel
theorem dX1_drop_92 : decode cX1_drop 92 = .ok (.aload_n 0, 1) := by decide +kernel
theorem dX1_drop_93 : decode cX1_drop 93 = .ok (.getfield 21, 3) := by decide +kernel
theorem dX1_drop_96 : decode cX1_drop 96 = .ok (.invokestatic 31, 3) := by decide +kernel
theorem dX1_drop_99 : decode cX1_drop 99 = .ok (.invokestatic 35, 3) := by decide +kernel
theorem dX1_drop_102 : decode cX1_drop 102 = .ok (.aload_n 0, 1) := by decide +kernel
theorem dX1_drop_103 : decode cX1_drop 103 = .ok (.getfield 18, 3) := by decide +kernel
theorem dX1_drop_106 : decode cX1_drop 106 = .ok (.iload_n 1, 1) := by decide +kernel
theorem dX1_drop_107 : decode cX1_drop 107 = .ok (.iload_n 2, 1) := by decide +kernel
theorem dX1_drop_108 : decode cX1_drop 108 = .ok (.invokestatic 39, 3) := by decide +kernel
theorem dX1_drop_111 : decode cX1_drop 111 = .ok (.return_, 1) := by decide +kernel
theorem dX1_drop_112 : decode cX1_drop 112 = .ok (.iinc 3 1, 3) := by decide +kernel
theorem dX1_drop_115 : decode cX1_drop 115 = .ok (.goto (-113), 3) := by decide +kernel
theorem dX1_drop_118 : decode cX1_drop 118 = .ok (.return_, 1) := by decide +kernel
theorem dX1_take_0 : decode cX1_take 0 = .ok (.aload_n 0, 1) := by decide +kernel
theorem dX1_take_1 : decode cX1_take 1 = .ok (.aload_n 1, 1) := by decide +kernel
theorem dX1_take_2 : decode cX1_take 2 = .ok (.getfield 21, 3) := by decide +kernel
theorem dX1_take_5 : decode cX1_take 5 = .ok (.putfield 21, 3) := by decide +kernel
theorem dX1_take_8 : decode cX1_take 8 = .ok (.aload_n 1, 1) := by decide +kernel
theorem dX1_take_9 : decode cX1_take 9 = .ok (.getfield 9, 3) := by decide +kernel
theorem dX1_take_12 : decode cX1_take 12 = .ok (.aload_n 0, 1) := by decide +kernel
theorem dX1_take_13 : decode cX1_take 13 = .ok (.getfield 9, 3) := by decide +kernel
theorem dX1_take_16 : decode cX1_take 16 = .ok (.aload_n 0, 1) := by decide +kernel
theorem dX1_take_17 : decode cX1_take 17 = .ok (.getfield 21, 3) := by decide +kernel
theorem dX1_take_20 : decode cX1_take 20 = .ok (.invokestatic 42, 3) := by decide +kernel
theorem dX1_take_23 : decode cX1_take 23 = .ok (.aload_n 1, 1) := by decide +kernel
theorem dX1_take_24 : decode cX1_take 24 = .ok (.getfield 15, 3) := by decide +kernel
theorem dX1_take_27 : decode cX1_take 27 = .ok (.aload_n 0, 1) := by decide +kernel
theorem dX1_take_28 : decode cX1_take 28 = .ok (.getfield 15, 3) := by decide +kernel
theorem dX1_take_31 : decode cX1_take 31 = .ok (.aload_n 0, 1) := by decide +kernel
theorem dX1_take_32 : decode cX1_take 32 = .ok (.getfield 21, 3) := by decide +kernel
theorem dX1_take_35 : decode cX1_take 35 = .ok (.invokestatic 42, 3) := by decide +kernel
theorem dX1_take_38 : decode cX1_take 38 = .ok (.aload_n 1, 1) := by decide +kernel
theorem dX1_take_39 : decode cX1_take 39 = .ok (.getfield 18, 3) := by decide +kernel
theorem dX1_take_42 : decode cX1_take 42 = .ok (.aload_n 0, 1) := by decide +kernel
theorem dX1_take_43 : decode cX1_take 43 = .ok (.getfield 18, 3) := by decide +kernel
theorem dX1_take_46 : decode cX1_take 46 = .ok (.bipush 16, 2) := by decide +kernel
theorem dX1_take_48 : decode cX1_take 48 = .ok (.invokestatic 42, 3) := by decide +kernel
theorem dX1_take_51 : decode cX1_take 51 = .ok (.return_, 1) := by decide +kernel
theorem dX1_toggle_0 : decode cX1_toggle 0 = .ok (.aload_n 0, 1) := by decide +kernel
theorem dX1_toggle_1 : decode cX1_toggle 1 = .ok (.iload_n 1, 1) := by decide +kernel
theorem dX1_toggle_2 : decode cX1_toggle 2 = .ok (.aload_n 0, 1) := by decide +kernel
theorem dX1_toggle_3 : decode cX1_toggle 3 = .ok (.iload_n 1, 1) := by decide +kernel
theorem dX1_toggle_4 : decode cX1_toggle 4 = .ok (.invokestatic 31, 3) := by decide +kernel
theorem dX1_toggle_7 : decode cX1_toggle 7 = .ok (.iconst 1, 1) := by decide +kernel
theorem dX1_toggle_8 : decode cX1_toggle 8 = .ok (.iload_n 2, 1) := by decide +kernel
theorem dX1_toggle_9 : decode cX1_toggle 9 = .ok (.ishl, 1) := by decide +kernel
theorem dX1_toggle_10 : decode cX1_toggle 10 = .ok (.ixor, 1) := by decide +kernel
theorem dX1_toggle_11 : decode cX1_toggle 11 = .ok (.invokestatic 35, 3) := by decide +kernel
theorem dX1_toggle_14 : decode cX1_toggle 14 = .ok (.aload_n 0, 1) := by decide +kernel
theorem dX1_toggle_15 : decode cX1_toggle 15 = .ok (.iload_n 2, 1) := by decide +kernel
theorem dX1_toggle_16 : decode cX1_toggle 16 = .ok (.aload_n 0, 1) := by decide +kernel
theorem dX1_toggle_17 : decode cX1_toggle 17 = .ok (.iload_n 2, 1) := by decide +kernel
theorem dX1_toggle_18 : decode cX1_toggle 18 = .ok (.invokestatic 31, 3) := by decide +kernel
theorem dX1_toggle_21 : decode cX1_toggle 21 = .ok (.iconst 1, 1) := by decide +kernel
theorem dX1_toggle_22 : decode cX1_toggle 22 = .ok (.iload_n 1, 1) := by decide +kernel
theorem dX1_toggle_23 : decode cX1_toggle 23 = .ok (.ishl, 1) := by decide +kernel
theorem dX1_toggle_24 : decode cX1_toggle 24 = .ok (.ixor, 1) := by decide +kernel
theorem dX1_toggle_25 : decode cX1_toggle 25 = .ok (.invokestatic 35, 3) := by decide +kernel
theorem dX1_toggle_28 : decode cX1_toggle 28 = .ok (.return_, 1) := by decide +kernel
theorem dX2_init_0 : decode cX2_init 0 = .ok (.aload_n 0, 1) := by decide +kernel
theorem dX2_init_1 : decode cX2_init 1 = .ok (.invokespecial 3, 3) := by decide +kernel
theorem dX2_init_4 : decode cX2_init 4 = .ok (.aload_n 0, 1) := by decide +kernel
theorem dX2_init_5 : decode cX2_init 5 = .ok (.bipush 16, 2) := by decide +kernel
theorem dX2_init_7 : decode cX2_init 7 = .ok (.newarray .int, 2) := by decide +kernel
theorem dX2_init_9 : decode cX2_init 9 = .ok (.putfield 9, 3) := by decide +kernel
theorem dX2_init_12 : decode cX2_init 12 = .ok (.aload_n 0, 1) := by decide +kernel
theorem dX2_init_13 : decode cX2_init 13 = .ok (.bipush 16, 2) := by decide +kernel
theorem dX2_init_15 : decode cX2_init 15 = .ok (.newarray .int, 2) := by decide +kernel
theorem dX2_init_17 : decode cX2_init 17 = .ok (.putfield 15, 3) := by decide +kernel
theorem dX2_init_20 : decode cX2_init 20 = .ok (.return_, 1) := by decide +kernel
theorem dX2_pairTold_0 : decode cX2_pairTold 0 = .ok (.iload_n 1, 1) := by decide +kernel
theorem dX2_pairTold_1 : decode cX2_pairTold 1 = .ok (.iconst 1, 1) := by decide +kernel
theorem dX2_pairTold_2 : decode cX2_pairTold 2 = .ok (.if_icmp .ne 10, 3) := by decide +kernel
theorem dX2_pairTold_5 : decode cX2_pairTold 5 = .ok (.aload_n 0, 1) := by decide +kernel
theorem dX2_pairTold_6 : decode cX2_pairTold 6 = .ok (.getfield 18, 3) := by decide +kernel
theorem dX2_pairTold_9 : decode cX2_pairTold 9 = .ok (.goto 7, 3) := by decide +kernel
theorem dX2_pairTold_12 : decode cX2_pairTold 12 = .ok (.aload_n 0, 1) := by decide +kernel
theorem dX2_pairTold_13 : decode cX2_pairTold 13 = .ok (.getfield 22, 3) := by decide +kernel
theorem dX2_pairTold_16 : decode cX2_pairTold 16 = .ok (.istore_n 2, 1) := by decide +kernel
theorem dX2_pairTold_17 : decode cX2_pairTold 17 = .ok (.iload_n 2, 1) := by decide +kernel
theorem dX2_pairTold_18 : decode cX2_pairTold 18 = .ok (.iconst (-1), 1) := by decide +kernel
theorem dX2_pairTold_19 : decode cX2_pairTold 19 = .ok (.if_icmp .ne 7, 3) := by decide +kernel
theorem dX2_pairTold_22 : decode cX2_pairTold 22 = .ok (.iconst (-1), 1) := by decide +kernel
theorem dX2_pairTold_23 : decode cX2_pairTold 23 = .ok (.goto 15, 3) := by decide +kernel
theorem dX2_pairTold_26 : decode cX2_pairTold 26 = .ok (.bipush 100, 2) := by decide +kernel
theorem dX2_pairTold_28 : decode cX2_pairTold 28 = .ok (.iload_n 2, 1) := by decide +kernel
theorem dX2_pairTold_29 : decode cX2_pairTold 29 = .ok (.bipush 16, 2) := by decide +kernel
theorem dX2_pairTold_31 : decode cX2_pairTold 31 = .ok (.idiv, 1) := by decide +kernel
theorem dX2_pairTold_32 : decode cX2_pairTold 32 = .ok (.imul, 1) := by decide +kernel
theorem dX2_pairTold_33 : decode cX2_pairTold 33 = .ok (.iload_n 2, 1) := by decide +kernel
theorem dX2_pairTold_34 : decode cX2_pairTold 34 = .ok (.bipush 16, 2) := by decide +kernel
theorem dX2_pairTold_36 : decode cX2_pairTold 36 = .ok (.irem, 1) := by decide +kernel
theorem dX2_pairTold_37 : decode cX2_pairTold 37 = .ok (.iadd, 1) := by decide +kernel
theorem dX2_pairTold_38 : decode cX2_pairTold 38 = .ok (.ireturn, 1) := by decide +kernel
theorem dX2_seek_0 : decode cX2_seek 0 = .ok (.aload_n 0, 1) := by decide +kernel
theorem dX2_seek_1 : decode cX2_seek 1 = .ok (.iconst (-1), 1) := by decide +kernel
theorem dX2_seek_2 : decode cX2_seek 2 = .ok (.putfield 18, 3) := by decide +kernel
theorem dX2_seek_5 : decode cX2_seek 5 = .ok (.aload_n 0, 1) := by decide +kernel
theorem dX2_seek_6 : decode cX2_seek 6 = .ok (.iconst (-1), 1) := by decide +kernel
theorem dX2_seek_7 : decode cX2_seek 7 = .ok (.putfield 22, 3) := by decide +kernel
theorem dX2_seek_10 : decode cX2_seek 10 = .ok (.aload_n 0, 1) := by decide +kernel
theorem dX2_seek_11 : decode cX2_seek 11 = .ok (.iconst 0, 1) := by decide +kernel
theorem dX2_seek_12 : decode cX2_seek 12 = .ok (.putfield 25, 3) := by decide +kernel
theorem dX2_seek_15 : decode cX2_seek 15 = .ok (.aload_n 1, 1) := by decide +kernel
theorem dX2_seek_16 : decode cX2_seek 16 = .ok (.iload_n 2, 1) := by decide +kernel
theorem dX2_seek_17 : decode cX2_seek 17 = .ok (.iload_n 3, 1) := by decide +kernel
theorem dX2_seek_18 : decode cX2_seek 18 = .ok (.iconst 0, 1) := by decide +kernel
theorem dX2_seek_19 : decode cX2_seek 19 = .ok (.invokevirtual 28, 3) := by decide +kernel
theorem dX2_seek_22 : decode cX2_seek 22 = .ok (.iconst (-1), 1) := by decide +kernel
theorem dX2_seek_23 : decode cX2_seek 23 = .ok (.if_icmp .ne 4, 3) := by decide +kernel
theorem dX2_seek_26 : decode cX2_seek 26 = .ok (.return_, 1) := by decide +kernel
theorem dX2_seek_27 : decode cX2_seek 27 = .ok (.aload_n 0, 1) := by decide +kernel
theorem dX2_seek_28 : decode cX2_seek 28 = .ok (.iconst (-1), 1) := by decide +kernel
theorem dX2_seek_29 : decode cX2_seek 29 = .ok (.putfield 25, 3) := by decide +kernel
theorem dX2_seek_32 : decode cX2_seek 32 = .ok (.aload_n 0, 1) := by decide +kernel
theorem dX2_seek_33 : decode cX2_seek 33 = .ok (.aload_n 1, 1) := by decide +kernel
theorem dX2_seek_34 : decode cX2_seek 34 = .ok (.iload_n 2, 1) := by decide +kernel
theorem dX2_seek_35 : decode cX2_seek 35 = .ok (.iload_n 3, 1) := by decide +kernel
theorem dX2_seek_36 : decode cX2_seek 36 = .ok (.iconst (-1), 1) := by decide +kernel
theorem dX2_seek_37 : decode cX2_seek 37 = .ok (.invokevirtual 34, 3) := by decide +kernel
theorem dX2_seek_40 : decode cX2_seek 40 = .ok (.aload_n 0, 1) := by decide +kernel
theorem dX2_seek_41 : decode cX2_seek 41 = .ok (.getfield 25, 3) := by decide +kernel
theorem dX2_seek_44 : decode cX2_seek 44 = .ok (.iconst (-1), 1) := by decide +kernel
theorem dX2_seek_45 : decode cX2_seek 45 = .ok (.if_icmp .eq 4, 3) := by decide +kernel
theorem dX2_seek_48 : decode cX2_seek 48 = .ok (.return_, 1) := by decide +kernel
theorem dX2_seek_49 : decode cX2_seek 49 = .ok (.iconst 0, 1) := by decide +kernel
theorem dX2_seek_50 : decode cX2_seek 50 = .ok (.istore 4, 2) := by decide +kernel
theorem dX2_seek_52 : decode cX2_seek 52 = .ok (.iload 4, 2) := by decide +kernel
theorem dX2_seek_54 : decode cX2_seek 54 = .ok (.sipush 256, 3) := by decide +kernel
theorem dX2_seek_57 : decode cX2_seek 57 = .ok (.if_icmp .ge 30, 3) := by decide +kernel
theorem dX2_seek_60 : decode cX2_seek 60 = .ok (.aload_n 0, 1) := by decide +kernel
theorem dX2_seek_61 : decode cX2_seek 61 = .ok (.getfield 9, 3) := by decide +kernel
theorem dX2_seek_64 : decode cX2_seek 64 = .ok (.iload 4, 2) := by decide +kernel
theorem dX2_seek_66 : decode cX2_seek 66 = .ok (.invokestatic 38, 3) := by decide +kernel
theorem dX2_seek_69 : decode cX2_seek 69 = .ok (.ifCond .eq 12, 3) := by decide +kernel
theorem dX2_seek_72 : decode cX2_seek 72 = .ok (.aload_n 0, 1) := by decide +kernel
theorem dX2_seek_73 : decode cX2_seek 73 = .ok (.aload_n 1, 1) := by decide +kernel
theorem dX2_seek_74 : decode cX2_seek 74 = .ok (.iload_n 2, 1) := by decide +kernel
theorem dX2_seek_75 : decode cX2_seek 75 = .ok (.iload_n 3, 1) := by decide +kernel
theorem dX2_seek_76 : decode cX2_seek 76 = .ok (.iload 4, 2) := by decide +kernel
theorem dX2_seek_78 : decode cX2_seek 78 = .ok (.invokevirtual 34, 3) := by decide +kernel
theorem dX2_seek_81 : decode cX2_seek 81 = .ok (.iinc 4 1, 3) := by decide +kernel
theorem dX2_seek_84 : decode cX2_seek 84 = .ok (.goto (-32), 3) := by decide +kernel
theorem dX2_seek_87 : decode cX2_seek 87 = .ok (.return_, 1) := by decide +kernel
theorem dX2_isIn_0 : decode cX2_isIn 0 = .ok (.aload_n 0, 1) := by decide +kernel
theorem dX2_isIn_1 : decode cX2_isIn 1 = .ok (.iload_n 1, 1) := by decide +kernel
theorem dX2_isIn_2 : decode cX2_isIn 2 = .ok (.bipush 16, 2) := by decide +kernel
theorem dX2_isIn_4 : decode cX2_isIn 4 = .ok (.idiv, 1) := by decide +kernel
theorem dX2_isIn_5 : decode cX2_isIn 5 = .ok (.invokestatic 42, 3) := by decide +kernel
theorem dX2_isIn_8 : decode cX2_isIn 8 = .ok (.iload_n 1, 1) := by decide +kernel
theorem dX2_isIn_9 : decode cX2_isIn 9 = .ok (.bipush 16, 2) := by decide +kernel
theorem dX2_isIn_11 : decode cX2_isIn 11 = .ok (.irem, 1) := by decide +kernel
theorem dX2_isIn_12 : decode cX2_isIn 12 = .ok (.ishr, 1) := by decide +kernel
theorem dX2_isIn_13 : decode cX2_isIn 13 = .ok (.iconst 1, 1) := by decide +kernel
theorem dX2_isIn_14 : decode cX2_isIn 14 = .ok (.iand, 1) := by decide +kernel
theorem dX2_isIn_15 : decode cX2_isIn 15 = .ok (.ifCond .eq 7, 3) := by decide +kernel
theorem dX2_isIn_18 : decode cX2_isIn 18 = .ok (.iconst 1, 1) := by decide +kernel
theorem dX2_isIn_19 : decode cX2_isIn 19 = .ok (.goto 4, 3) := by decide +kernel
theorem dX2_isIn_22 : decode cX2_isIn 22 = .ok (.iconst 0, 1) := by decide +kernel
theorem dX2_isIn_23 : decode cX2_isIn 23 = .ok (.ireturn, 1) := by decide +kernel
theorem dX2_toggle_0 : decode cX2_toggle 0 = .ok (.iload_n 1, 1) := by decide +kernel
theorem dX2_toggle_1 : decode cX2_toggle 1 = .ok (.iconst (-1), 1) := by decide +kernel
theorem dX2_toggle_2 : decode cX2_toggle 2 = .ok (.if_icmp .eq 15, 3) := by decide +kernel
theorem dX2_toggle_5 : decode cX2_toggle 5 = .ok (.aload_n 0, 1) := by decide +kernel
theorem dX2_toggle_6 : decode cX2_toggle 6 = .ok (.iload_n 1, 1) := by decide +kernel
theorem dX2_toggle_7 : decode cX2_toggle 7 = .ok (.bipush 16, 2) := by decide +kernel
theorem dX2_toggle_9 : decode cX2_toggle 9 = .ok (.idiv, 1) := by decide +kernel
theorem dX2_toggle_10 : decode cX2_toggle 10 = .ok (.iload_n 1, 1) := by decide +kernel
theorem dX2_toggle_11 : decode cX2_toggle 11 = .ok (.bipush 16, 2) := by decide +kernel
theorem dX2_toggle_13 : decode cX2_toggle 13 = .ok (.irem, 1) := by decide +kernel
theorem dX2_toggle_14 : decode cX2_toggle 14 = .ok (.invokevirtual 48, 3) := by decide +kernel
theorem dX2_toggle_17 : decode cX2_toggle 17 = .ok (.return_, 1) := by decide +kernel
theorem dX2_seekBesides_0 : decode cX2_seekBesides 0 = .ok (.iload 4, 2) := by decide +kernel
theorem dX2_seekBesides_2 : decode cX2_seekBesides 2 = .ok (.iconst (-1), 1) := by decide +kernel
theorem dX2_seekBesides_3 : decode cX2_seekBesides 3 = .ok (.if_icmp .ne 10, 3) := by decide +kernel
theorem dX2_seekBesides_6 : decode cX2_seekBesides 6 = .ok (.aload_n 0, 1) := by decide +kernel
theorem dX2_seekBesides_7 : decode cX2_seekBesides 7 = .ok (.getfield 9, 3) := by decide +kernel
theorem dX2_seekBesides_10 : decode cX2_seekBesides 10 = .ok (.goto 7, 3) := by decide +kernel
theorem dX2_seekBesides_13 : decode cX2_seekBesides 13 = .ok (.aload_n 0, 1) := by decide +kernel
theorem dX2_seekBesides_14 : decode cX2_seekBesides 14 = .ok (.getfield 15, 3) := by decide +kernel
theorem dX2_seekBesides_17 : decode cX2_seekBesides 17 = .ok (.astore 5, 2) := by decide +kernel
theorem dX2_seekBesides_19 : decode cX2_seekBesides 19 = .ok (.aload_n 1, 1) := by decide +kernel
theorem dX2_seekBesides_20 : decode cX2_seekBesides 20 = .ok (.iload 4, 2) := by decide +kernel
theorem dX2_seekBesides_22 : decode cX2_seekBesides 22 = .ok (.invokestatic 52, 3) := by decide +kernel
theorem dX2_seekBesides_25 : decode cX2_seekBesides 25 = .ok (.aload_n 1, 1) := by decide +kernel
theorem dX2_seekBesides_26 : decode cX2_seekBesides 26 = .ok (.iload_n 2, 1) := by decide +kernel
theorem dX2_seekBesides_27 : decode cX2_seekBesides 27 = .ok (.iload_n 3, 1) := by decide +kernel
theorem dX2_seekBesides_28 : decode cX2_seekBesides 28 = .ok (.iconst 0, 1) := by decide +kernel
theorem dX2_seekBesides_29 : decode cX2_seekBesides 29 = .ok (.invokevirtual 28, 3) := by decide +kernel
theorem dX2_seekBesides_32 : decode cX2_seekBesides 32 = .ok (.pop, 1) := by decide +kernel
theorem dX2_seekBesides_33 : decode cX2_seekBesides 33 = .ok (.aload_n 1, 1) := by decide +kernel
theorem dX2_seekBesides_34 : decode cX2_seekBesides 34 = .ok (.iload_n 2, 1) := by decide +kernel
theorem dX2_seekBesides_35 : decode cX2_seekBesides 35 = .ok (.iload_n 3, 1) := by decide +kernel
theorem dX2_seekBesides_36 : decode cX2_seekBesides 36 = .ok (.aload 5, 2) := by decide +kernel
theorem dX2_seekBesides_38 : decode cX2_seekBesides 38 = .ok (.invokevirtual 56, 3) := by decide +kernel
theorem dX2_seekBesides_41 : decode cX2_seekBesides 41 = .ok (.iconst 0, 1) := by decide +kernel
theorem dX2_seekBesides_42 : decode cX2_seekBesides 42 = .ok (.istore 6, 2) := by decide +kernel
theorem dX2_seekBesides_44 : decode cX2_seekBesides 44 = .ok (.iload 6, 2) := by decide +kernel
theorem dX2_seekBesides_46 : decode cX2_seekBesides 46 = .ok (.sipush 256, 3) := by decide +kernel
theorem dX2_seekBesides_49 : decode cX2_seekBesides 49 = .ok (.if_icmp .ge 83, 3) := by decide +kernel
theorem dX2_seekBesides_52 : decode cX2_seekBesides 52 = .ok (.aload 5, 2) := by decide +kernel
theorem dX2_seekBesides_54 : decode cX2_seekBesides 54 = .ok (.iload 6, 2) := by decide +kernel
theorem dX2_seekBesides_56 : decode cX2_seekBesides 56 = .ok (.invokestatic 38, 3) := by decide +kernel
theorem dX2_seekBesides_59 : decode cX2_seekBesides 59 = .ok (.ifCond .eq 67, 3) := by decide +kernel
theorem dX2_seekBesides_62 : decode cX2_seekBesides 62 = .ok (.iload 6, 2) := by decide +kernel
theorem dX2_seekBesides_64 : decode cX2_seekBesides 64 = .ok (.iload 4, 2) := by decide +kernel
theorem dX2_seekBesides_66 : decode cX2_seekBesides 66 = .ok (.if_icmp .ge 15, 3) := by decide +kernel
theorem dX2_seekBesides_69 : decode cX2_seekBesides 69 = .ok (.aload_n 0, 1) := by decide +kernel
theorem dX2_seekBesides_70 : decode cX2_seekBesides 70 = .ok (.getfield 9, 3) := by decide +kernel
theorem dX2_seekBesides_73 : decode cX2_seekBesides 73 = .ok (.iload 6, 2) := by decide +kernel
theorem dX2_seekBesides_75 : decode cX2_seekBesides 75 = .ok (.invokestatic 38, 3) := by decide +kernel
theorem dX2_seekBesides_78 : decode cX2_seekBesides 78 = .ok (.ifCond .ne 48, 3) := by decide +kernel
theorem dX2_seekBesides_81 : decode cX2_seekBesides 81 = .ok (.aload_n 0, 1) := by decide +kernel
theorem dX2_seekBesides_82 : decode cX2_seekBesides 82 = .ok (.iload 4, 2) := by decide +kernel
theorem dX2_seekBesides_84 : decode cX2_seekBesides 84 = .ok (.iload 6, 2) := by decide +kernel
theorem dX2_seekBesides_86 : decode cX2_seekBesides 86 = .ok (.invokevirtual 60, 3) := by decide +kernel
theorem dX2_seekBesides_89 : decode cX2_seekBesides 89 = .ok (.ifCond .ne 6, 3) := by decide +kernel
theorem dX2_seekBesides_92 : decode cX2_seekBesides 92 = .ok (.goto 34, 3) := by decide +kernel
theorem dX2_seekBesides_95 : decode cX2_seekBesides 95 = .ok (.aload_n 1, 1) := by decide +kernel
theorem dX2_seekBesides_96 : decode cX2_seekBesides 96 = .ok (.iload 6, 2) := by decide +kernel
theorem dX2_seekBesides_98 : decode cX2_seekBesides 98 = .ok (.invokestatic 52, 3) := by decide +kernel
theorem dX2_seekBesides_101 : decode cX2_seekBesides 101 = .ok (.aload_n 1, 1) := by decide +kernel
theorem dX2_seekBesides_102 : decode cX2_seekBesides 102 = .ok (.iload_n 2, 1) := by decide +kernel
theorem dX2_seekBesides_103 : decode cX2_seekBesides 103 = .ok (.iload_n 3, 1) := by decide +kernel
theorem dX2_seekBesides_104 : decode cX2_seekBesides 104 = .ok (.iconst 0, 1) := by decide +kernel
theorem dX2_seekBesides_105 : decode cX2_seekBesides 105 = .ok (.invokevirtual 28, 3) := by decide +kernel
theorem dX2_seekBesides_108 : decode cX2_seekBesides 108 = .ok (.iconst (-1), 1) := by decide +kernel
theorem dX2_seekBesides_109 : decode cX2_seekBesides 109 = .ok (.if_icmp .ne 11, 3) := by decide +kernel
theorem dX2_seekBesides_112 : decode cX2_seekBesides 112 = .ok (.aload_n 0, 1) := by decide +kernel
theorem dX2_seekBesides_113 : decode cX2_seekBesides 113 = .ok (.iload 4, 2) := by decide +kernel
theorem dX2_seekBesides_115 : decode cX2_seekBesides 115 = .ok (.iload 6, 2) := by decide +kernel
theorem dX2_seekBesides_117 : decode cX2_seekBesides 117 = .ok (.invokevirtual 64, 3) := by decide +kernel
theorem dX2_seekBesides_120 : decode cX2_seekBesides 120 = .ok (.aload_n 1, 1) := by decide +kernel
theorem dX2_seekBesides_121 : decode cX2_seekBesides 121 = .ok (.iload 6, 2) := by decide +kernel
theorem dX2_seekBesides_123 : decode cX2_seekBesides 123 = .ok (.invokestatic 52, 3) := by decide +kernel
theorem dX2_seekBesides_126 : decode cX2_seekBesides 126 = .ok (.iinc 6 1, 3) := by decide +kernel
theorem dX2_seekBesides_129 : decode cX2_seekBesides 129 = .ok (.goto (-85), 3) := by decide +kernel
theorem dX2_seekBesides_132 : decode cX2_seekBesides 132 = .ok (.aload_n 1, 1) := by decide +kernel
theorem dX2_seekBesides_133 : decode cX2_seekBesides 133 = .ok (.iload 4, 2) := by decide +kernel
theorem dX2_seekBesides_135 : decode cX2_seekBesides 135 = .ok (.invokestatic 52, 3) := by decide +kernel
theorem dX2_seekBesides_138 : decode cX2_seekBesides 138 = .ok (.return_, 1) := by decide +kernel
theorem dX2_isAhead_0 : decode cX2_isAhead 0 = .ok (.aload_n 0, 1) := by decide +kernel
theorem dX2_isAhead_1 : decode cX2_isAhead 1 = .ok (.getfield 25, 3) := by decide +kernel
theorem dX2_isAhead_4 : decode cX2_isAhead 4 = .ok (.iconst (-1), 1) := by decide +kernel
theorem dX2_isAhead_5 : decode cX2_isAhead 5 = .ok (.if_icmp .ne 5, 3) := by decide +kernel
theorem dX2_isAhead_8 : decode cX2_isAhead 8 = .ok (.iconst 1, 1) := by decide +kernel
theorem dX2_isAhead_9 : decode cX2_isAhead 9 = .ok (.ireturn, 1) := by decide +kernel
theorem dX2_isAhead_10 : decode cX2_isAhead 10 = .ok (.iload_n 1, 1) := by decide +kernel
theorem dX2_isAhead_11 : decode cX2_isAhead 11 = .ok (.iload_n 2, 1) := by decide +kernel
theorem dX2_isAhead_12 : decode cX2_isAhead 12 = .ok (.invokestatic 67, 3) := by decide +kernel
theorem dX2_isAhead_15 : decode cX2_isAhead 15 = .ok (.istore_n 3, 1) := by decide +kernel
theorem dX2_isAhead_16 : decode cX2_isAhead 16 = .ok (.iload_n 1, 1) := by decide +kernel
theorem dX2_isAhead_17 : decode cX2_isAhead 17 = .ok (.iconst (-1), 1) := by decide +kernel
theorem dX2_isAhead_18 : decode cX2_isAhead 18 = .ok (.if_icmp .eq 35, 3) := by decide +kernel
theorem dX2_isAhead_21 : decode cX2_isAhead 21 = .ok (.iload_n 3, 1) := by decide +kernel
theorem dX2_isAhead_22 : decode cX2_isAhead 22 = .ok (.aload_n 0, 1) := by decide +kernel
theorem dX2_isAhead_23 : decode cX2_isAhead 23 = .ok (.getfield 18, 3) := by decide +kernel
theorem dX2_isAhead_26 : decode cX2_isAhead 26 = .ok (.if_icmp .lt 23, 3) := by decide +kernel
theorem dX2_isAhead_29 : decode cX2_isAhead 29 = .ok (.iload_n 3, 1) := by decide +kernel
theorem dX2_isAhead_30 : decode cX2_isAhead 30 = .ok (.aload_n 0, 1) := by decide +kernel
theorem dX2_isAhead_31 : decode cX2_isAhead 31 = .ok (.getfield 18, 3) := by decide +kernel
theorem dX2_isAhead_34 : decode cX2_isAhead 34 = .ok (.if_icmp .ne 19, 3) := by decide +kernel
theorem dX2_isAhead_37 : decode cX2_isAhead 37 = .ok (.iload_n 1, 1) := by decide +kernel
theorem dX2_isAhead_38 : decode cX2_isAhead 38 = .ok (.iload_n 2, 1) := by decide +kernel
theorem dX2_isAhead_39 : decode cX2_isAhead 39 = .ok (.invokestatic 73, 3) := by decide +kernel
theorem dX2_isAhead_42 : decode cX2_isAhead 42 = .ok (.aload_n 0, 1) := by decide +kernel
theorem dX2_isAhead_43 : decode cX2_isAhead 43 = .ok (.getfield 22, 3) := by decide +kernel
theorem dX2_isAhead_46 : decode cX2_isAhead 46 = .ok (.if_icmp .ge 7, 3) := by decide +kernel
theorem dX2_isAhead_49 : decode cX2_isAhead 49 = .ok (.iconst 1, 1) := by decide +kernel
theorem dX2_isAhead_50 : decode cX2_isAhead 50 = .ok (.goto 4, 3) := by decide +kernel
theorem dX2_isAhead_53 : decode cX2_isAhead 53 = .ok (.iconst 0, 1) := by decide +kernel
theorem dX2_isAhead_54 : decode cX2_isAhead 54 = .ok (.ireturn, 1) := by decide +kernel
theorem dX2_take_0 : decode cX2_take 0 = .ok (.aload_n 0, 1) := by decide +kernel
theorem dX2_take_1 : decode cX2_take 1 = .ok (.iload_n 1, 1) := by decide +kernel
theorem dX2_take_2 : decode cX2_take 2 = .ok (.iconst (-1), 1) := by decide +kernel
theorem dX2_take_3 : decode cX2_take 3 = .ok (.if_icmp .ne 7, 3) := by decide +kernel
theorem dX2_take_6 : decode cX2_take 6 = .ok (.iconst 1, 1) := by decide +kernel
theorem dX2_take_7 : decode cX2_take 7 = .ok (.goto 4, 3) := by decide +kernel
theorem dX2_take_10 : decode cX2_take 10 = .ok (.iconst 2, 1) := by decide +kernel
theorem dX2_take_11 : decode cX2_take 11 = .ok (.putfield 25, 3) := by decide +kernel
theorem dX2_take_14 : decode cX2_take 14 = .ok (.aload_n 0, 1) := by decide +kernel
theorem dX2_take_15 : decode cX2_take 15 = .ok (.iload_n 1, 1) := by decide +kernel
theorem dX2_take_16 : decode cX2_take 16 = .ok (.iconst (-1), 1) := by decide +kernel
theorem dX2_take_17 : decode cX2_take 17 = .ok (.if_icmp .ne 7, 3) := by decide +kernel
theorem dX2_take_20 : decode cX2_take 20 = .ok (.iload_n 2, 1) := by decide +kernel
theorem dX2_take_21 : decode cX2_take 21 = .ok (.goto 8, 3) := by decide +kernel
theorem dX2_take_24 : decode cX2_take 24 = .ok (.iload_n 1, 1) := by decide +kernel
theorem dX2_take_25 : decode cX2_take 25 = .ok (.iload_n 2, 1) := by decide +kernel
theorem dX2_take_26 : decode cX2_take 26 = .ok (.invokestatic 67, 3) := by decide +kernel
theorem dX2_take_29 : decode cX2_take 29 = .ok (.putfield 18, 3) := by decide +kernel
theorem dX2_take_32 : decode cX2_take 32 = .ok (.aload_n 0, 1) := by decide +kernel
theorem dX2_take_33 : decode cX2_take 33 = .ok (.iload_n 1, 1) := by decide +kernel
theorem dX2_take_34 : decode cX2_take 34 = .ok (.iconst (-1), 1) := by decide +kernel
theorem dX2_take_35 : decode cX2_take 35 = .ok (.if_icmp .ne 7, 3) := by decide +kernel
theorem dX2_take_38 : decode cX2_take 38 = .ok (.iconst (-1), 1) := by decide +kernel
theorem dX2_take_39 : decode cX2_take 39 = .ok (.goto 8, 3) := by decide +kernel
theorem dX2_take_42 : decode cX2_take 42 = .ok (.iload_n 1, 1) := by decide +kernel
theorem dX2_take_43 : decode cX2_take 43 = .ok (.iload_n 2, 1) := by decide +kernel
theorem dX2_take_44 : decode cX2_take 44 = .ok (.invokestatic 73, 3) := by decide +kernel
theorem dX2_take_47 : decode cX2_take 47 = .ok (.putfield 22, 3) := by decide +kernel
theorem dX2_take_50 : decode cX2_take 50 = .ok (.return_, 1) := by decide +kernel
theorem dX3_init_0 : decode cX3_init 0 = .ok (.aload_n 0, 1) := by decide +kernel
theorem dX3_init_1 : decode cX3_init 1 = .ok (.invokespecial 3, 3) := by decide +kernel
theorem dX3_init_4 : decode cX3_init 4 = .ok (.aload_n 0, 1) := by decide +kernel
theorem dX3_init_5 : decode cX3_init 5 = .ok (.bipush 40, 2) := by decide +kernel
theorem dX3_init_7 : decode cX3_init 7 = .ok (.newarray .int, 2) := by decide +kernel
theorem dX3_init_9 : decode cX3_init 9 = .ok (.putfield 9, 3) := by decide +kernel
theorem dX3_init_12 : decode cX3_init 12 = .ok (.aload_n 0, 1) := by decide +kernel
theorem dX3_init_13 : decode cX3_init 13 = .ok (.bipush 40, 2) := by decide +kernel
theorem dX3_init_15 : decode cX3_init 15 = .ok (.newarray .int, 2) := by decide +kernel
theorem dX3_init_17 : decode cX3_init 17 = .ok (.putfield 15, 3) := by decide +kernel
theorem dX3_init_20 : decode cX3_init 20 = .ok (.aload_n 0, 1) := by decide +kernel
theorem dX3_init_21 : decode cX3_init 21 = .ok (.bipush 20, 2) := by decide +kernel
theorem dX3_init_23 : decode cX3_init 23 = .ok (.newarray .int, 2) := by decide +kernel
theorem dX3_init_25 : decode cX3_init 25 = .ok (.putfield 18, 3) := by decide +kernel
theorem dX3_init_28 : decode cX3_init 28 = .ok (.aload_n 0, 1) := by decide +kernel
theorem dX3_init_29 : decode cX3_init 29 = .ok (.bipush 20, 2) := by decide +kernel
theorem dX3_init_31 : decode cX3_init 31 = .ok (.newarray .int, 2) := by decide +kernel
theorem dX3_init_33 : decode cX3_init 33 = .ok (.putfield 21, 3) := by decide +kernel
theorem dX3_init_36 : decode cX3_init 36 = .ok (.aload_n 0, 1) := by decide +kernel
theorem dX3_init_37 : decode cX3_init 37 = .ok (.bipush 20, 2) := by decide +kernel
theorem dX3_init_39 : decode cX3_init 39 = .ok (.newarray .boolean, 2) := by decide +kernel
theorem dX3_init_41 : decode cX3_init 41 = .ok (.putfield 24, 3) := by decide +kernel
theorem dX3_init_44 : decode cX3_init 44 = .ok (.return_, 1) := by decide +kernel
theorem dX3_empty_0 : decode cX3_empty 0 = .ok (.aload_n 0, 1) := by decide +kernel
theorem dX3_empty_1 : decode cX3_empty 1 = .ok (.iconst 0, 1) := by decide +kernel
theorem dX3_empty_2 : decode cX3_empty 2 = .ok (.putfield 28, 3) := by decide +kernel
theorem dX3_empty_5 : decode cX3_empty 5 = .ok (.aload_n 0, 1) := by decide +kernel
theorem dX3_empty_6 : decode cX3_empty 6 = .ok (.iconst 0, 1) := by decide +kernel
theorem dX3_empty_7 : decode cX3_empty 7 = .ok (.putfield 32, 3) := by decide +kernel
theorem dX3_empty_10 : decode cX3_empty 10 = .ok (.return_, 1) := by decide +kernel
theorem dX3_write_0 : decode cX3_write 0 = .ok (.aload_n 0, 1) := by decide +kernel
theorem dX3_write_1 : decode cX3_write 1 = .ok (.getfield 9, 3) := by decide +kernel
theorem dX3_write_4 : decode cX3_write 4 = .ok (.aload_n 0, 1) := by decide +kernel
theorem dX3_write_5 : decode cX3_write 5 = .ok (.getfield 28, 3) := by decide +kernel
theorem dX3_write_8 : decode cX3_write 8 = .ok (.iload_n 1, 1) := by decide +kernel
theorem dX3_write_9 : decode cX3_write 9 = .ok (.invokestatic 35, 3) := by decide +kernel
theorem dX3_write_12 : decode cX3_write 12 = .ok (.aload_n 0, 1) := by decide +kernel
theorem dX3_write_13 : decode cX3_write 13 = .ok (.getfield 15, 3) := by decide +kernel
theorem dX3_write_16 : decode cX3_write 16 = .ok (.aload_n 0, 1) := by decide +kernel
theorem dX3_write_17 : decode cX3_write 17 = .ok (.getfield 28, 3) := by decide +kernel
theorem dX3_write_20 : decode cX3_write 20 = .ok (.iload_n 2, 1) := by decide +kernel
theorem dX3_write_21 : decode cX3_write 21 = .ok (.invokestatic 35, 3) := by decide +kernel
theorem dX3_write_24 : decode cX3_write 24 = .ok (.aload_n 0, 1) := by decide +kernel
theorem dX3_write_25 : decode cX3_write 25 = .ok (.dup, 1) := by decide +kernel
theorem dX3_write_26 : decode cX3_write 26 = .ok (.getfield 28, 3) := by decide +kernel
theorem dX3_write_29 : decode cX3_write 29 = .ok (.iconst 1, 1) := by decide +kernel
theorem dX3_write_30 : decode cX3_write 30 = .ok (.iadd, 1) := by decide +kernel
theorem dX3_write_31 : decode cX3_write 31 = .ok (.putfield 28, 3) := by decide +kernel
theorem dX3_write_34 : decode cX3_write 34 = .ok (.return_, 1) := by decide +kernel
theorem dX3_see_0 : decode cX3_see 0 = .ok (.aload_n 0, 1) := by decide +kernel
theorem dX3_see_1 : decode cX3_see 1 = .ok (.getfield 32, 3) := by decide +kernel
theorem dX3_see_4 : decode cX3_see 4 = .ok (.ifCond .lt 15, 3) := by decide +kernel
theorem dX3_see_7 : decode cX3_see 7 = .ok (.aload_n 0, 1) := by decide +kernel
theorem dX3_see_8 : decode cX3_see 8 = .ok (.getfield 32, 3) := by decide +kernel
theorem dX3_see_11 : decode cX3_see 11 = .ok (.aload_n 0, 1) := by decide +kernel
theorem dX3_see_12 : decode cX3_see 12 = .ok (.getfield 24, 3) := by decide +kernel
theorem dX3_see_15 : decode cX3_see 15 = .ok (.arraylength, 1) := by decide +kernel
theorem dX3_see_16 : decode cX3_see 16 = .ok (.if_icmp .lt 4, 3) := by decide +kernel
theorem dX3_see_19 : decode cX3_see 19 = .ok (.return_, 1) := by decide +kernel
theorem dX3_see_20 : decode cX3_see 20 = .ok (.aload_n 0, 1) := by decide +kernel
theorem dX3_see_21 : decode cX3_see 21 = .ok (.getfield 18, 3) := by decide +kernel
theorem dX3_see_24 : decode cX3_see 24 = .ok (.aload_n 0, 1) := by decide +kernel
theorem dX3_see_25 : decode cX3_see 25 = .ok (.getfield 32, 3) := by decide +kernel
theorem dX3_see_28 : decode cX3_see 28 = .ok (.iload_n 1, 1) := by decide +kernel
theorem dX3_see_29 : decode cX3_see 29 = .ok (.invokestatic 35, 3) := by decide +kernel
theorem dX3_see_32 : decode cX3_see 32 = .ok (.aload_n 0, 1) := by decide +kernel
theorem dX3_see_33 : decode cX3_see 33 = .ok (.getfield 21, 3) := by decide +kernel
theorem dX3_see_36 : decode cX3_see 36 = .ok (.aload_n 0, 1) := by decide +kernel
theorem dX3_see_37 : decode cX3_see 37 = .ok (.getfield 32, 3) := by decide +kernel
theorem dX3_see_40 : decode cX3_see 40 = .ok (.iload_n 2, 1) := by decide +kernel
theorem dX3_see_41 : decode cX3_see 41 = .ok (.invokestatic 35, 3) := by decide +kernel
theorem dX3_see_44 : decode cX3_see 44 = .ok (.aload_n 0, 1) := by decide +kernel
theorem dX3_see_45 : decode cX3_see 45 = .ok (.getfield 24, 3) := by decide +kernel
theorem dX3_see_48 : decode cX3_see 48 = .ok (.aload_n 0, 1) := by decide +kernel
theorem dX3_see_49 : decode cX3_see 49 = .ok (.getfield 32, 3) := by decide +kernel
theorem dX3_see_52 : decode cX3_see 52 = .ok (.iload_n 3, 1) := by decide +kernel
theorem dX3_see_53 : decode cX3_see 53 = .ok (.bastore, 1) := by decide +kernel
theorem dX3_see_54 : decode cX3_see 54 = .ok (.aload_n 0, 1) := by decide +kernel
theorem dX3_see_55 : decode cX3_see 55 = .ok (.dup, 1) := by decide +kernel
theorem dX3_see_56 : decode cX3_see 56 = .ok (.getfield 32, 3) := by decide +kernel
theorem dX3_see_59 : decode cX3_see 59 = .ok (.iconst 1, 1) := by decide +kernel
theorem dX3_see_60 : decode cX3_see 60 = .ok (.iadd, 1) := by decide +kernel
theorem dX3_see_61 : decode cX3_see 61 = .ok (.putfield 32, 3) := by decide +kernel
theorem dX3_see_64 : decode cX3_see 64 = .ok (.return_, 1) := by decide +kernel
theorem dX3_fits_0 : decode cX3_fits 0 = .ok (.iconst 0, 1) := by decide +kernel
theorem dX3_fits_1 : decode cX3_fits 1 = .ok (.istore 4, 2) := by decide +kernel
theorem dX3_fits_3 : decode cX3_fits 3 = .ok (.iload 4, 2) := by decide +kernel
theorem dX3_fits_5 : decode cX3_fits 5 = .ok (.aload_n 0, 1) := by decide +kernel
theorem dX3_fits_6 : decode cX3_fits 6 = .ok (.getfield 32, 3) := by decide +kernel
theorem dX3_fits_9 : decode cX3_fits 9 = .ok (.if_icmp .ge 75, 3) := by decide +kernel
theorem dX3_fits_12 : decode cX3_fits 12 = .ok (.iload 4, 2) := by decide +kernel
theorem dX3_fits_14 : decode cX3_fits 14 = .ok (.aload_n 0, 1) := by decide +kernel
theorem dX3_fits_15 : decode cX3_fits 15 = .ok (.getfield 24, 3) := by decide +kernel
theorem dX3_fits_18 : decode cX3_fits 18 = .ok (.arraylength, 1) := by decide +kernel
theorem dX3_fits_19 : decode cX3_fits 19 = .ok (.if_icmp .ge 65, 3) := by decide +kernel
theorem dX3_fits_22 : decode cX3_fits 22 = .ok (.aload_n 0, 1) := by decide +kernel
theorem dX3_fits_23 : decode cX3_fits 23 = .ok (.getfield 18, 3) := by decide +kernel
theorem dX3_fits_26 : decode cX3_fits 26 = .ok (.iload 4, 2) := by decide +kernel
theorem dX3_fits_28 : decode cX3_fits 28 = .ok (.invokestatic 41, 3) := by decide +kernel
theorem dX3_fits_31 : decode cX3_fits 31 = .ok (.iload_n 1, 1) := by decide +kernel
theorem dX3_fits_32 : decode cX3_fits 32 = .ok (.if_icmp .eq 6, 3) := by decide +kernel
theorem dX3_fits_35 : decode cX3_fits 35 = .ok (.goto 43, 3) := by decide +kernel
theorem dX3_fits_38 : decode cX3_fits 38 = .ok (.aload_n 0, 1) := by decide +kernel
theorem dX3_fits_39 : decode cX3_fits 39 = .ok (.getfield 21, 3) := by decide +kernel
theorem dX3_fits_42 : decode cX3_fits 42 = .ok (.iload 4, 2) := by decide +kernel
theorem dX3_fits_44 : decode cX3_fits 44 = .ok (.invokestatic 41, 3) := by decide +kernel
theorem dX3_fits_47 : decode cX3_fits 47 = .ok (.istore 5, 2) := by decide +kernel
theorem dX3_fits_49 : decode cX3_fits 49 = .ok (.iload 5, 2) := by decide +kernel
theorem dX3_fits_51 : decode cX3_fits 51 = .ok (.iload_n 2, 1) := by decide +kernel
theorem dX3_fits_52 : decode cX3_fits 52 = .ok (.if_icmp .eq 9, 3) := by decide +kernel
theorem dX3_fits_55 : decode cX3_fits 55 = .ok (.iload 5, 2) := by decide +kernel
theorem dX3_fits_57 : decode cX3_fits 57 = .ok (.iload_n 3, 1) := by decide +kernel
theorem dX3_fits_58 : decode cX3_fits 58 = .ok (.if_icmp .ne 7, 3) := by decide +kernel
theorem dX3_fits_61 : decode cX3_fits 61 = .ok (.iconst 1, 1) := by decide +kernel
theorem dX3_fits_62 : decode cX3_fits 62 = .ok (.goto 4, 3) := by decide +kernel
theorem dX3_fits_65 : decode cX3_fits 65 = .ok (.iconst 0, 1) := by decide +kernel
theorem dX3_fits_66 : decode cX3_fits 66 = .ok (.aload_n 0, 1) := by decide +kernel
theorem dX3_fits_67 : decode cX3_fits 67 = .ok (.getfield 24, 3) := by decide +kernel
theorem dX3_fits_70 : decode cX3_fits 70 = .ok (.iload 4, 2) := by decide +kernel
theorem dX3_fits_72 : decode cX3_fits 72 = .ok (.baload, 1) := by decide +kernel
theorem dX3_fits_73 : decode cX3_fits 73 = .ok (.if_icmp .eq 5, 3) := by decide +kernel
theorem dX3_fits_76 : decode cX3_fits 76 = .ok (.iconst 0, 1) := by decide +kernel
theorem dX3_fits_77 : decode cX3_fits 77 = .ok (.ireturn, 1) := by decide +kernel
theorem dX3_fits_78 : decode cX3_fits 78 = .ok (.iinc 4 1, 3) := by decide +kernel
theorem dX3_fits_81 : decode cX3_fits 81 = .ok (.goto (-78), 3) := by decide +kernel
theorem dX3_fits_84 : decode cX3_fits 84 = .ok (.iconst 1, 1) := by decide +kernel
theorem dX3_fits_85 : decode cX3_fits 85 = .ok (.ireturn, 1) := by decide +kernel
theorem dX4_init_0 : decode cX4_init 0 = .ok (.aload_n 0, 1) := by decide +kernel
theorem dX4_init_1 : decode cX4_init 1 = .ok (.invokespecial 3, 3) := by decide +kernel
theorem dX4_init_4 : decode cX4_init 4 = .ok (.aload_n 0, 1) := by decide +kernel
theorem dX4_init_5 : decode cX4_init 5 = .ok (.bipush 64, 2) := by decide +kernel
theorem dX4_init_7 : decode cX4_init 7 = .ok (.newarray .long, 2) := by decide +kernel
theorem dX4_init_9 : decode cX4_init 9 = .ok (.putfield 11, 3) := by decide +kernel
theorem dX4_init_12 : decode cX4_init 12 = .ok (.aload_n 0, 1) := by decide +kernel
theorem dX4_init_13 : decode cX4_init 13 = .ok (.sipush 648, 3) := by decide +kernel
theorem dX4_init_16 : decode cX4_init 16 = .ok (.newarray .long, 2) := by decide +kernel
theorem dX4_init_18 : decode cX4_init 18 = .ok (.putfield 15, 3) := by decide +kernel
theorem dX4_init_21 : decode cX4_init 21 = .ok (.return_, 1) := by decide +kernel
theorem dX4_mostEnded_0 : decode cX4_mostEnded 0 = .ok (.aload_n 0, 1) := by decide +kernel
theorem dX4_mostEnded_1 : decode cX4_mostEnded 1 = .ok (.aload_n 2, 1) := by decide +kernel
theorem dX4_mostEnded_2 : decode cX4_mostEnded 2 = .ok (.getfield 18, 3) := by decide +kernel
theorem dX4_mostEnded_5 : decode cX4_mostEnded 5 = .ok (.bipush 8, 2) := by decide +kernel
theorem dX4_mostEnded_7 : decode cX4_mostEnded 7 = .ok (.invokestatic 24, 3) := by decide +kernel
theorem dX4_mostEnded_10 : decode cX4_mostEnded 10 = .ok (.putfield 30, 3) := by decide +kernel
theorem dX4_mostEnded_13 : decode cX4_mostEnded 13 = .ok (.aload_n 0, 1) := by decide +kernel
theorem dX4_mostEnded_14 : decode cX4_mostEnded 14 = .ok (.getfield 11, 3) := by decide +kernel
theorem dX4_mostEnded_17 : decode cX4_mostEnded 17 = .ok (.lconst 0, 1) := by decide +kernel
theorem dX4_mostEnded_18 : decode cX4_mostEnded 18 = .ok (.invokestatic 31, 3) := by decide +kernel
theorem dX4_mostEnded_21 : decode cX4_mostEnded 21 = .ok (.aload_n 0, 1) := by decide +kernel
theorem dX4_mostEnded_22 : decode cX4_mostEnded 22 = .ok (.getfield 11, 3) := by decide +kernel
theorem dX4_mostEnded_25 : decode cX4_mostEnded 25 = .ok (.iload_n 3, 1) := by decide +kernel
theorem dX4_mostEnded_26 : decode cX4_mostEnded 26 = .ok (.invokestatic 37, 3) := by decide +kernel
theorem dX4_mostEnded_29 : decode cX4_mostEnded 29 = .ok (.iconst 0, 1) := by decide +kernel
theorem dX4_mostEnded_30 : decode cX4_mostEnded 30 = .ok (.istore 4, 2) := by decide +kernel
theorem dX4_mostEnded_32 : decode cX4_mostEnded 32 = .ok (.iconst 0, 1) := by decide +kernel
theorem dX4_mostEnded_33 : decode cX4_mostEnded 33 = .ok (.istore 5, 2) := by decide +kernel
theorem dX4_mostEnded_35 : decode cX4_mostEnded 35 = .ok (.iload 5, 2) := by decide +kernel
theorem dX4_mostEnded_37 : decode cX4_mostEnded 37 = .ok (.iconst 1, 1) := by decide +kernel
theorem dX4_mostEnded_38 : decode cX4_mostEnded 38 = .ok (.aload_n 2, 1) := by decide +kernel
theorem dX4_mostEnded_39 : decode cX4_mostEnded 39 = .ok (.getfield 41, 3) := by decide +kernel
theorem dX4_mostEnded_42 : decode cX4_mostEnded 42 = .ok (.ishl, 1) := by decide +kernel
theorem dX4_mostEnded_43 : decode cX4_mostEnded 43 = .ok (.if_icmp .ge 76, 3) := by decide +kernel
theorem dX4_mostEnded_46 : decode cX4_mostEnded 46 = .ok (.aload_n 0, 1) := by decide +kernel
theorem dX4_mostEnded_47 : decode cX4_mostEnded 47 = .ok (.iload 5, 2) := by decide +kernel
theorem dX4_mostEnded_49 : decode cX4_mostEnded 49 = .ok (.invokevirtual 44, 3) := by decide +kernel
theorem dX4_mostEnded_52 : decode cX4_mostEnded 52 = .ok (.ifCond .ne 6, 3) := by decide +kernel
theorem dX4_mostEnded_55 : decode cX4_mostEnded 55 = .ok (.goto 58, 3) := by decide +kernel
theorem dX4_mostEnded_58 : decode cX4_mostEnded 58 = .ok (.iload 5, 2) := by decide +kernel
theorem dX4_mostEnded_60 : decode cX4_mostEnded 60 = .ok (.invokestatic 48, 3) := by decide +kernel
theorem dX4_mostEnded_63 : decode cX4_mostEnded 63 = .ok (.iload 4, 2) := by decide +kernel
theorem dX4_mostEnded_65 : decode cX4_mostEnded 65 = .ok (.invokestatic 48, 3) := by decide +kernel
theorem dX4_mostEnded_68 : decode cX4_mostEnded 68 = .ok (.if_icmp .le 7, 3) := by decide +kernel
theorem dX4_mostEnded_71 : decode cX4_mostEnded 71 = .ok (.iload 5, 2) := by decide +kernel
theorem dX4_mostEnded_73 : decode cX4_mostEnded 73 = .ok (.istore 4, 2) := by decide +kernel
theorem dX4_mostEnded_75 : decode cX4_mostEnded 75 = .ok (.iconst 0, 1) := by decide +kernel
theorem dX4_mostEnded_76 : decode cX4_mostEnded 76 = .ok (.istore 6, 2) := by decide +kernel
theorem dX4_mostEnded_78 : decode cX4_mostEnded 78 = .ok (.iload 6, 2) := by decide +kernel
theorem dX4_mostEnded_80 : decode cX4_mostEnded 80 = .ok (.aload_n 2, 1) := by decide +kernel
theorem dX4_mostEnded_81 : decode cX4_mostEnded 81 = .ok (.getfield 41, 3) := by decide +kernel
theorem dX4_mostEnded_84 : decode cX4_mostEnded 84 = .ok (.if_icmp .ge 29, 3) := by decide +kernel
theorem dX4_mostEnded_87 : decode cX4_mostEnded 87 = .ok (.iload 5, 2) := by decide +kernel
theorem dX4_mostEnded_89 : decode cX4_mostEnded 89 = .ok (.iload 6, 2) := by decide +kernel
theorem dX4_mostEnded_91 : decode cX4_mostEnded 91 = .ok (.ishr, 1) := by decide +kernel
theorem dX4_mostEnded_92 : decode cX4_mostEnded 92 = .ok (.iconst 1, 1) := by decide +kernel
theorem dX4_mostEnded_93 : decode cX4_mostEnded 93 = .ok (.iand, 1) := by decide +kernel
theorem dX4_mostEnded_94 : decode cX4_mostEnded 94 = .ok (.ifCond .ne 13, 3) := by decide +kernel
theorem dX4_mostEnded_97 : decode cX4_mostEnded 97 = .ok (.aload_n 0, 1) := by decide +kernel
theorem dX4_mostEnded_98 : decode cX4_mostEnded 98 = .ok (.aload_n 1, 1) := by decide +kernel
theorem dX4_mostEnded_99 : decode cX4_mostEnded 99 = .ok (.aload_n 2, 1) := by decide +kernel
theorem dX4_mostEnded_100 : decode cX4_mostEnded 100 = .ok (.iload 5, 2) := by decide +kernel
theorem dX4_mostEnded_102 : decode cX4_mostEnded 102 = .ok (.iload 6, 2) := by decide +kernel
theorem dX4_mostEnded_104 : decode cX4_mostEnded 104 = .ok (.invokevirtual 54, 3) := by decide +kernel
theorem dX4_mostEnded_107 : decode cX4_mostEnded 107 = .ok (.iinc 6 1, 3) := by decide +kernel
theorem dX4_mostEnded_110 : decode cX4_mostEnded 110 = .ok (.goto (-32), 3) := by decide +kernel
theorem dX4_mostEnded_113 : decode cX4_mostEnded 113 = .ok (.iinc 5 1, 3) := by decide +kernel
theorem dX4_mostEnded_116 : decode cX4_mostEnded 116 = .ok (.goto (-81), 3) := by decide +kernel
theorem dX4_mostEnded_119 : decode cX4_mostEnded 119 = .ok (.iload 4, 2) := by decide +kernel
theorem dX4_mostEnded_121 : decode cX4_mostEnded 121 = .ok (.ireturn, 1) := by decide +kernel
theorem dX4_isReached_0 : decode cX4_isReached 0 = .ok (.iconst 0, 1) := by decide +kernel
theorem dX4_isReached_1 : decode cX4_isReached 1 = .ok (.istore_n 2, 1) := by decide +kernel
theorem dX4_isReached_2 : decode cX4_isReached 2 = .ok (.iload_n 2, 1) := by decide +kernel
theorem dX4_isReached_3 : decode cX4_isReached 3 = .ok (.iconst 4, 1) := by decide +kernel
theorem dX4_isReached_4 : decode cX4_isReached 4 = .ok (.if_icmp .ge 28, 3) := by decide +kernel
theorem dX4_isReached_7 : decode cX4_isReached 7 = .ok (.aload_n 0, 1) := by decide +kernel
theorem dX4_isReached_8 : decode cX4_isReached 8 = .ok (.getfield 11, 3) := by decide +kernel
theorem dX4_isReached_11 : decode cX4_isReached 11 = .ok (.iload_n 1, 1) := by decide +kernel
theorem dX4_isReached_12 : decode cX4_isReached 12 = .ok (.iconst 4, 1) := by decide +kernel
theorem dX4_isReached_13 : decode cX4_isReached 13 = .ok (.imul, 1) := by decide +kernel
theorem dX4_isReached_14 : decode cX4_isReached 14 = .ok (.iload_n 2, 1) := by decide +kernel
theorem dX4_isReached_15 : decode cX4_isReached 15 = .ok (.iadd, 1) := by decide +kernel
theorem dX4_isReached_16 : decode cX4_isReached 16 = .ok (.invokestatic 58, 3) := by decide +kernel
theorem dX4_isReached_19 : decode cX4_isReached 19 = .ok (.lconst 0, 1) := by decide +kernel
theorem dX4_isReached_20 : decode cX4_isReached 20 = .ok (.lcmp, 1) := by decide +kernel
theorem dX4_isReached_21 : decode cX4_isReached 21 = .ok (.ifCond .eq 5, 3) := by decide +kernel
theorem dX4_isReached_24 : decode cX4_isReached 24 = .ok (.iconst 1, 1) := by decide +kernel
theorem dX4_isReached_25 : decode cX4_isReached 25 = .ok (.ireturn, 1) := by decide +kernel
theorem dX4_isReached_26 : decode cX4_isReached 26 = .ok (.iinc 2 1, 3) := by decide +kernel
theorem dX4_isReached_29 : decode cX4_isReached 29 = .ok (.goto (-27), 3) := by decide +kernel
theorem dX4_isReached_32 : decode cX4_isReached 32 = .ok (.iconst 0, 1) := by decide +kernel
theorem dX4_isReached_33 : decode cX4_isReached 33 = .ok (.ireturn, 1) := by decide +kernel
theorem dX4_carryOneMore_0 : decode cX4_carryOneMore 0 = .ok (.aload_n 0, 1) := by decide +kernel
theorem dX4_carryOneMore_1 : decode cX4_carryOneMore 1 = .ok (.getfield 15, 3) := by decide +kernel
theorem dX4_carryOneMore_4 : decode cX4_carryOneMore 4 = .ok (.lconst 0, 1) := by decide +kernel
theorem dX4_carryOneMore_5 : decode cX4_carryOneMore 5 = .ok (.invokestatic 31, 3) := by decide +kernel
theorem dX4_carryOneMore_8 : decode cX4_carryOneMore 8 = .ok (.aload_n 0, 1) := by decide +kernel
theorem dX4_carryOneMore_9 : decode cX4_carryOneMore 9 = .ok (.aload_n 2, 1) := by decide +kernel
theorem dX4_carryOneMore_10 : decode cX4_carryOneMore 10 = .ok (.getfield 62, 3) := by decide +kernel
theorem dX4_carryOneMore_13 : decode cX4_carryOneMore 13 = .ok (.iload 4, 2) := by decide +kernel
theorem dX4_carryOneMore_15 : decode cX4_carryOneMore 15 = .ok (.invokestatic 66, 3) := by decide +kernel
theorem dX4_carryOneMore_18 : decode cX4_carryOneMore 18 = .ok (.putfield 69, 3) := by decide +kernel
theorem dX4_carryOneMore_21 : decode cX4_carryOneMore 21 = .ok (.aload_n 0, 1) := by decide +kernel
theorem dX4_carryOneMore_22 : decode cX4_carryOneMore 22 = .ok (.aload_n 2, 1) := by decide +kernel
theorem dX4_carryOneMore_23 : decode cX4_carryOneMore 23 = .ok (.getfield 72, 3) := by decide +kernel
theorem dX4_carryOneMore_26 : decode cX4_carryOneMore 26 = .ok (.iload 4, 2) := by decide +kernel
theorem dX4_carryOneMore_28 : decode cX4_carryOneMore 28 = .ok (.invokestatic 66, 3) := by decide +kernel
theorem dX4_carryOneMore_31 : decode cX4_carryOneMore 31 = .ok (.putfield 75, 3) := by decide +kernel
theorem dX4_carryOneMore_34 : decode cX4_carryOneMore 34 = .ok (.aload_n 0, 1) := by decide +kernel
theorem dX4_carryOneMore_35 : decode cX4_carryOneMore 35 = .ok (.iload_n 3, 1) := by decide +kernel
theorem dX4_carryOneMore_36 : decode cX4_carryOneMore 36 = .ok (.iconst 1, 1) := by decide +kernel
theorem dX4_carryOneMore_37 : decode cX4_carryOneMore 37 = .ok (.iload 4, 2) := by decide +kernel
theorem dX4_carryOneMore_39 : decode cX4_carryOneMore 39 = .ok (.ishl, 1) := by decide +kernel
theorem dX4_carryOneMore_40 : decode cX4_carryOneMore 40 = .ok (.ior, 1) := by decide +kernel
theorem dX4_carryOneMore_41 : decode cX4_carryOneMore 41 = .ok (.putfield 78, 3) := by decide +kernel
theorem dX4_carryOneMore_44 : decode cX4_carryOneMore 44 = .ok (.iconst 0, 1) := by decide +kernel
theorem dX4_carryOneMore_45 : decode cX4_carryOneMore 45 = .ok (.istore 5, 2) := by decide +kernel
theorem dX4_carryOneMore_47 : decode cX4_carryOneMore 47 = .ok (.iload 5, 2) := by decide +kernel
theorem dX4_carryOneMore_49 : decode cX4_carryOneMore 49 = .ok (.iconst 1, 1) := by decide +kernel
theorem dX4_carryOneMore_50 : decode cX4_carryOneMore 50 = .ok (.aload_n 0, 1) := by decide +kernel
theorem dX4_carryOneMore_51 : decode cX4_carryOneMore 51 = .ok (.getfield 30, 3) := by decide +kernel
theorem dX4_carryOneMore_54 : decode cX4_carryOneMore 54 = .ok (.ishl, 1) := by decide +kernel
theorem dX4_carryOneMore_55 : decode cX4_carryOneMore 55 = .ok (.if_icmp .ge 37, 3) := by decide +kernel
theorem dX4_carryOneMore_58 : decode cX4_carryOneMore 58 = .ok (.aload_n 0, 1) := by decide +kernel
theorem dX4_carryOneMore_59 : decode cX4_carryOneMore 59 = .ok (.getfield 11, 3) := by decide +kernel
theorem dX4_carryOneMore_62 : decode cX4_carryOneMore 62 = .ok (.iload_n 3, 1) := by decide +kernel
theorem dX4_carryOneMore_63 : decode cX4_carryOneMore 63 = .ok (.sipush 256, 3) := by decide +kernel
theorem dX4_carryOneMore_66 : decode cX4_carryOneMore 66 = .ok (.imul, 1) := by decide +kernel
theorem dX4_carryOneMore_67 : decode cX4_carryOneMore 67 = .ok (.iload 5, 2) := by decide +kernel
theorem dX4_carryOneMore_69 : decode cX4_carryOneMore 69 = .ok (.iadd, 1) := by decide +kernel
theorem dX4_carryOneMore_70 : decode cX4_carryOneMore 70 = .ok (.invokestatic 81, 3) := by decide +kernel
theorem dX4_carryOneMore_73 : decode cX4_carryOneMore 73 = .ok (.ifCond .eq 13, 3) := by decide +kernel
theorem dX4_carryOneMore_76 : decode cX4_carryOneMore 76 = .ok (.aload_n 0, 1) := by decide +kernel
theorem dX4_carryOneMore_77 : decode cX4_carryOneMore 77 = .ok (.aload_n 1, 1) := by decide +kernel
theorem dX4_carryOneMore_78 : decode cX4_carryOneMore 78 = .ok (.iconst 0, 1) := by decide +kernel
theorem dX4_carryOneMore_79 : decode cX4_carryOneMore 79 = .ok (.iconst 0, 1) := by decide +kernel
theorem dX4_carryOneMore_80 : decode cX4_carryOneMore 80 = .ok (.iload 5, 2) := by decide +kernel
theorem dX4_carryOneMore_82 : decode cX4_carryOneMore 82 = .ok (.iconst 0, 1) := by decide +kernel
theorem dX4_carryOneMore_83 : decode cX4_carryOneMore 83 = .ok (.invokevirtual 85, 3) := by decide +kernel
theorem dX4_carryOneMore_86 : decode cX4_carryOneMore 86 = .ok (.iinc 5 1, 3) := by decide +kernel
theorem dX4_carryOneMore_89 : decode cX4_carryOneMore 89 = .ok (.goto (-42), 3) := by decide +kernel
theorem dX4_carryOneMore_92 : decode cX4_carryOneMore 92 = .ok (.return_, 1) := by decide +kernel
theorem dX4_carry_0 : decode cX4_carry 0 = .ok (.iload 5, 2) := by decide +kernel
theorem dX4_carry_2 : decode cX4_carry 2 = .ok (.iconst 1, 1) := by decide +kernel
theorem dX4_carry_3 : decode cX4_carry 3 = .ok (.iand, 1) := by decide +kernel
theorem dX4_carry_4 : decode cX4_carry 4 = .ok (.istore 6, 2) := by decide +kernel
theorem dX4_carry_6 : decode cX4_carry 6 = .ok (.iload_n 2, 1) := by decide +kernel
theorem dX4_carry_7 : decode cX4_carry 7 = .ok (.bipush 9, 2) := by decide +kernel
theorem dX4_carry_9 : decode cX4_carry 9 = .ok (.imul, 1) := by decide +kernel
theorem dX4_carry_10 : decode cX4_carry 10 = .ok (.iload_n 3, 1) := by decide +kernel
theorem dX4_carry_11 : decode cX4_carry 11 = .ok (.iadd, 1) := by decide +kernel
theorem dX4_carry_12 : decode cX4_carry 12 = .ok (.iconst 2, 1) := by decide +kernel
theorem dX4_carry_13 : decode cX4_carry 13 = .ok (.imul, 1) := by decide +kernel
theorem dX4_carry_14 : decode cX4_carry 14 = .ok (.iload 6, 2) := by decide +kernel
theorem dX4_carry_16 : decode cX4_carry 16 = .ok (.iadd, 1) := by decide +kernel
theorem dX4_carry_17 : decode cX4_carry 17 = .ok (.sipush 256, 3) := by decide +kernel
theorem dX4_carry_20 : decode cX4_carry 20 = .ok (.imul, 1) := by decide +kernel
theorem dX4_carry_21 : decode cX4_carry 21 = .ok (.iload 4, 2) := by decide +kernel
theorem dX4_carry_23 : decode cX4_carry 23 = .ok (.iadd, 1) := by decide +kernel
theorem dX4_carry_24 : decode cX4_carry 24 = .ok (.istore 7, 2) := by decide +kernel
theorem dX4_carry_26 : decode cX4_carry 26 = .ok (.iload 5, 2) := by decide +kernel
theorem dX4_carry_28 : decode cX4_carry 28 = .ok (.bipush 17, 2) := by decide +kernel
theorem dX4_carry_30 : decode cX4_carry 30 = .ok (.if_icmp .gt 15, 3) := by decide +kernel
theorem dX4_carry_33 : decode cX4_carry 33 = .ok (.aload_n 0, 1) := by decide +kernel
theorem dX4_carry_34 : decode cX4_carry 34 = .ok (.getfield 15, 3) := by decide +kernel
theorem dX4_carry_37 : decode cX4_carry 37 = .ok (.iload 7, 2) := by decide +kernel
theorem dX4_carry_39 : decode cX4_carry 39 = .ok (.invokestatic 81, 3) := by decide +kernel
theorem dX4_carry_42 : decode cX4_carry 42 = .ok (.ifCond .eq 4, 3) := by decide +kernel
theorem dX4_carry_45 : decode cX4_carry 45 = .ok (.return_, 1) := by decide +kernel
theorem dX4_carry_46 : decode cX4_carry 46 = .ok (.aload_n 0, 1) := by decide +kernel
theorem dX4_carry_47 : decode cX4_carry 47 = .ok (.getfield 15, 3) := by decide +kernel
theorem dX4_carry_50 : decode cX4_carry 50 = .ok (.iload 7, 2) := by decide +kernel
theorem dX4_carry_52 : decode cX4_carry 52 = .ok (.invokestatic 37, 3) := by decide +kernel
theorem dX4_carry_55 : decode cX4_carry 55 = .ok (.aload_n 1, 1) := by decide +kernel
theorem dX4_carry_56 : decode cX4_carry 56 = .ok (.iload_n 2, 1) := by decide +kernel
theorem dX4_carry_57 : decode cX4_carry 57 = .ok (.aload_n 0, 1) := by decide +kernel
theorem dX4_carry_58 : decode cX4_carry 58 = .ok (.getfield 69, 3) := by decide +kernel
theorem dX4_carry_61 : decode cX4_carry 61 = .ok (.invokestatic 89, 3) := by decide +kernel
theorem dX4_carry_64 : decode cX4_carry 64 = .ok (.aload_n 1, 1) := by decide +kernel
theorem dX4_carry_65 : decode cX4_carry 65 = .ok (.iload_n 3, 1) := by decide +kernel
theorem dX4_carry_66 : decode cX4_carry 66 = .ok (.aload_n 0, 1) := by decide +kernel
theorem dX4_carry_67 : decode cX4_carry 67 = .ok (.getfield 75, 3) := by decide +kernel
theorem dX4_carry_70 : decode cX4_carry 70 = .ok (.invokestatic 89, 3) := by decide +kernel
theorem dX4_carry_73 : decode cX4_carry 73 = .ok (.iload 6, 2) := by decide +kernel
theorem dX4_carry_75 : decode cX4_carry 75 = .ok (.invokestatic 93, 3) := by decide +kernel
theorem dX4_carry_78 : decode cX4_carry 78 = .ok (.istore 8, 2) := by decide +kernel
theorem dX4_carry_80 : decode cX4_carry 80 = .ok (.aload_n 1, 1) := by decide +kernel
theorem dX4_carry_81 : decode cX4_carry 81 = .ok (.iload 8, 2) := by decide +kernel
theorem dX4_carry_83 : decode cX4_carry 83 = .ok (.invokevirtual 99, 3) := by decide +kernel
theorem dX4_carry_86 : decode cX4_carry 86 = .ok (.ifCond .eq 22, 3) := by decide +kernel
theorem dX4_carry_89 : decode cX4_carry 89 = .ok (.aload_n 0, 1) := by decide +kernel
theorem dX4_carry_90 : decode cX4_carry 90 = .ok (.getfield 11, 3) := by decide +kernel
theorem dX4_carry_93 : decode cX4_carry 93 = .ok (.aload_n 0, 1) := by decide +kernel
theorem dX4_carry_94 : decode cX4_carry 94 = .ok (.getfield 78, 3) := by decide +kernel
theorem dX4_carry_97 : decode cX4_carry 97 = .ok (.sipush 256, 3) := by decide +kernel
theorem dX4_carry_100 : decode cX4_carry 100 = .ok (.imul, 1) := by decide +kernel
theorem dX4_carry_101 : decode cX4_carry 101 = .ok (.iload 4, 2) := by decide +kernel
theorem dX4_carry_103 : decode cX4_carry 103 = .ok (.iadd, 1) := by decide +kernel
theorem dX4_carry_104 : decode cX4_carry 104 = .ok (.invokestatic 37, 3) := by decide +kernel
theorem dX4_carry_107 : decode cX4_carry 107 = .ok (.return_, 1) := by decide +kernel
theorem dX4_carry_108 : decode cX4_carry 108 = .ok (.aload_n 0, 1) := by decide +kernel
theorem dX4_carry_109 : decode cX4_carry 109 = .ok (.aload_n 1, 1) := by decide +kernel
theorem dX4_carry_110 : decode cX4_carry 110 = .ok (.iload 8, 2) := by decide +kernel
theorem dX4_carry_112 : decode cX4_carry 112 = .ok (.iload 4, 2) := by decide +kernel
theorem dX4_carry_114 : decode cX4_carry 114 = .ok (.invokevirtual 102, 3) := by decide +kernel
theorem dX4_carry_117 : decode cX4_carry 117 = .ok (.istore 9, 2) := by decide +kernel
theorem dX4_carry_119 : decode cX4_carry 119 = .ok (.iload 9, 2) := by decide +kernel
theorem dX4_carry_121 : decode cX4_carry 121 = .ok (.ifCond .ne 30, 3) := by decide +kernel
theorem dX4_carry_124 : decode cX4_carry 124 = .ok (.aload_n 0, 1) := by decide +kernel
theorem dX4_carry_125 : decode cX4_carry 125 = .ok (.aload_n 1, 1) := by decide +kernel
theorem dX4_carry_126 : decode cX4_carry 126 = .ok (.iload 8, 2) := by decide +kernel
theorem dX4_carry_128 : decode cX4_carry 128 = .ok (.iconst 1, 1) := by decide +kernel
theorem dX4_carry_129 : decode cX4_carry 129 = .ok (.ixor, 1) := by decide +kernel
theorem dX4_carry_130 : decode cX4_carry 130 = .ok (.iload 4, 2) := by decide +kernel
theorem dX4_carry_132 : decode cX4_carry 132 = .ok (.invokevirtual 102, 3) := by decide +kernel
theorem dX4_carry_135 : decode cX4_carry 135 = .ok (.ifCond .eq 16, 3) := by decide +kernel
theorem dX4_carry_138 : decode cX4_carry 138 = .ok (.aload_n 0, 1) := by decide +kernel
theorem dX4_carry_139 : decode cX4_carry 139 = .ok (.aload_n 1, 1) := by decide +kernel
theorem dX4_carry_140 : decode cX4_carry 140 = .ok (.iload_n 2, 1) := by decide +kernel
theorem dX4_carry_141 : decode cX4_carry 141 = .ok (.iload_n 3, 1) := by decide +kernel
theorem dX4_carry_142 : decode cX4_carry 142 = .ok (.iload 4, 2) := by decide +kernel
theorem dX4_carry_144 : decode cX4_carry 144 = .ok (.iload 5, 2) := by decide +kernel
theorem dX4_carry_146 : decode cX4_carry 146 = .ok (.iconst 1, 1) := by decide +kernel
theorem dX4_carry_147 : decode cX4_carry 147 = .ok (.iadd, 1) := by decide +kernel
theorem dX4_carry_148 : decode cX4_carry 148 = .ok (.invokevirtual 85, 3) := by decide +kernel
theorem dX4_carry_151 : decode cX4_carry 151 = .ok (.iconst 0, 1) := by decide +kernel
theorem dX4_carry_152 : decode cX4_carry 152 = .ok (.istore 10, 2) := by decide +kernel
theorem dX4_carry_154 : decode cX4_carry 154 = .ok (.iload 10, 2) := by decide +kernel
theorem dX4_carry_156 : decode cX4_carry 156 = .ok (.aload_n 0, 1) := by decide +kernel
theorem dX4_carry_157 : decode cX4_carry 157 = .ok (.getfield 30, 3) := by decide +kernel
theorem dX4_carry_160 : decode cX4_carry 160 = .ok (.if_icmp .ge 72, 3) := by decide +kernel
theorem dX4_carry_163 : decode cX4_carry 163 = .ok (.iload 9, 2) := by decide +kernel
theorem dX4_carry_165 : decode cX4_carry 165 = .ok (.iload 10, 2) := by decide +kernel
theorem dX4_carry_167 : decode cX4_carry 167 = .ok (.ishr, 1) := by decide +kernel
theorem dX4_carry_168 : decode cX4_carry 168 = .ok (.iconst 1, 1) := by decide +kernel
theorem dX4_carry_169 : decode cX4_carry 169 = .ok (.iand, 1) := by decide +kernel
theorem dX4_carry_170 : decode cX4_carry 170 = .ok (.ifCond .ne 6, 3) := by decide +kernel
theorem dX4_carry_173 : decode cX4_carry 173 = .ok (.goto 53, 3) := by decide +kernel
theorem dX4_carry_176 : decode cX4_carry 176 = .ok (.iload 6, 2) := by decide +kernel
theorem dX4_carry_178 : decode cX4_carry 178 = .ok (.ifCond .ne 27, 3) := by decide +kernel
theorem dX4_carry_181 : decode cX4_carry 181 = .ok (.aload_n 0, 1) := by decide +kernel
theorem dX4_carry_182 : decode cX4_carry 182 = .ok (.aload_n 1, 1) := by decide +kernel
theorem dX4_carry_183 : decode cX4_carry 183 = .ok (.iload 10, 2) := by decide +kernel
theorem dX4_carry_185 : decode cX4_carry 185 = .ok (.iconst 1, 1) := by decide +kernel
theorem dX4_carry_186 : decode cX4_carry 186 = .ok (.iadd, 1) := by decide +kernel
theorem dX4_carry_187 : decode cX4_carry 187 = .ok (.iload_n 3, 1) := by decide +kernel
theorem dX4_carry_188 : decode cX4_carry 188 = .ok (.iload 4, 2) := by decide +kernel
theorem dX4_carry_190 : decode cX4_carry 190 = .ok (.iconst 1, 1) := by decide +kernel
theorem dX4_carry_191 : decode cX4_carry 191 = .ok (.iload 10, 2) := by decide +kernel
theorem dX4_carry_193 : decode cX4_carry 193 = .ok (.ishl, 1) := by decide +kernel
theorem dX4_carry_194 : decode cX4_carry 194 = .ok (.ior, 1) := by decide +kernel
theorem dX4_carry_195 : decode cX4_carry 195 = .ok (.iload 5, 2) := by decide +kernel
theorem dX4_carry_197 : decode cX4_carry 197 = .ok (.iconst 1, 1) := by decide +kernel
theorem dX4_carry_198 : decode cX4_carry 198 = .ok (.iadd, 1) := by decide +kernel
theorem dX4_carry_199 : decode cX4_carry 199 = .ok (.invokevirtual 85, 3) := by decide +kernel
theorem dX4_carry_202 : decode cX4_carry 202 = .ok (.goto 24, 3) := by decide +kernel
theorem dX4_carry_205 : decode cX4_carry 205 = .ok (.aload_n 0, 1) := by decide +kernel
theorem dX4_carry_206 : decode cX4_carry 206 = .ok (.aload_n 1, 1) := by decide +kernel
theorem dX4_carry_207 : decode cX4_carry 207 = .ok (.iload_n 2, 1) := by decide +kernel
theorem dX4_carry_208 : decode cX4_carry 208 = .ok (.iload 10, 2) := by decide +kernel
theorem dX4_carry_210 : decode cX4_carry 210 = .ok (.iconst 1, 1) := by decide +kernel
theorem dX4_carry_211 : decode cX4_carry 211 = .ok (.iadd, 1) := by decide +kernel
theorem dX4_carry_212 : decode cX4_carry 212 = .ok (.iload 4, 2) := by decide +kernel
theorem dX4_carry_214 : decode cX4_carry 214 = .ok (.iconst 1, 1) := by decide +kernel
theorem dX4_carry_215 : decode cX4_carry 215 = .ok (.iload 10, 2) := by decide +kernel
theorem dX4_carry_217 : decode cX4_carry 217 = .ok (.ishl, 1) := by decide +kernel
theorem dX4_carry_218 : decode cX4_carry 218 = .ok (.ior, 1) := by decide +kernel
theorem dX4_carry_219 : decode cX4_carry 219 = .ok (.iload 5, 2) := by decide +kernel
theorem dX4_carry_221 : decode cX4_carry 221 = .ok (.iconst 1, 1) := by decide +kernel
theorem dX4_carry_222 : decode cX4_carry 222 = .ok (.iadd, 1) := by decide +kernel
theorem dX4_carry_223 : decode cX4_carry 223 = .ok (.invokevirtual 85, 3) := by decide +kernel
theorem dX4_carry_226 : decode cX4_carry 226 = .ok (.iinc 10 1, 3) := by decide +kernel
theorem dX4_carry_229 : decode cX4_carry 229 = .ok (.goto (-75), 3) := by decide +kernel
theorem dX4_carry_232 : decode cX4_carry 232 = .ok (.return_, 1) := by decide +kernel
theorem dX4_spotAt_0 : decode cX4_spotAt 0 = .ok (.iload_n 1, 1) := by decide +kernel
theorem dX4_spotAt_1 : decode cX4_spotAt 1 = .ok (.ifCond .ne 7, 3) := by decide +kernel
theorem dX4_spotAt_4 : decode cX4_spotAt 4 = .ok (.iload_n 2, 1) := by decide +kernel
theorem dX4_spotAt_5 : decode cX4_spotAt 5 = .ok (.goto 13, 3) := by decide +kernel
theorem dX4_spotAt_8 : decode cX4_spotAt 8 = .ok (.aload_n 0, 1) := by decide +kernel
theorem dX4_spotAt_9 : decode cX4_spotAt 9 = .ok (.getfield 105, 3) := by decide +kernel
theorem dX4_spotAt_12 : decode cX4_spotAt 12 = .ok (.iload_n 1, 1) := by decide +kernel
theorem dX4_spotAt_13 : decode cX4_spotAt 13 = .ok (.iconst 1, 1) := by decide +kernel
theorem dX4_spotAt_14 : decode cX4_spotAt 14 = .ok (.isub, 1) := by decide +kernel
theorem dX4_spotAt_15 : decode cX4_spotAt 15 = .ok (.invokevirtual 109, 3) := by decide +kernel
theorem dX4_spotAt_18 : decode cX4_spotAt 18 = .ok (.ireturn, 1) := by decide +kernel
theorem dX4_usable_0 : decode cX4_usable 0 = .ok (.iload_n 2, 1) := by decide +kernel
theorem dX4_usable_1 : decode cX4_usable 1 = .ok (.iconst 1, 1) := by decide +kernel
theorem dX4_usable_2 : decode cX4_usable 2 = .ok (.iand, 1) := by decide +kernel
theorem dX4_usable_3 : decode cX4_usable 3 = .ok (.istore 4, 2) := by decide +kernel
theorem dX4_usable_5 : decode cX4_usable 5 = .ok (.aload_n 1, 1) := by decide +kernel
theorem dX4_usable_6 : decode cX4_usable 6 = .ok (.iload_n 2, 1) := by decide +kernel
theorem dX4_usable_7 : decode cX4_usable 7 = .ok (.iconst 1, 1) := by decide +kernel
theorem dX4_usable_8 : decode cX4_usable 8 = .ok (.iload 4, 2) := by decide +kernel
theorem dX4_usable_10 : decode cX4_usable 10 = .ok (.isub, 1) := by decide +kernel
theorem dX4_usable_11 : decode cX4_usable 11 = .ok (.invokevirtual 114, 3) := by decide +kernel
theorem dX4_usable_14 : decode cX4_usable 14 = .ok (.istore 5, 2) := by decide +kernel
theorem dX4_usable_16 : decode cX4_usable 16 = .ok (.iconst 0, 1) := by decide +kernel
theorem dX4_usable_17 : decode cX4_usable 17 = .ok (.istore 6, 2) := by decide +kernel
theorem dX4_usable_19 : decode cX4_usable 19 = .ok (.iconst 0, 1) := by decide +kernel
theorem dX4_usable_20 : decode cX4_usable 20 = .ok (.istore 7, 2) := by decide +kernel
theorem dX4_usable_22 : decode cX4_usable 22 = .ok (.iload 7, 2) := by decide +kernel
theorem dX4_usable_24 : decode cX4_usable 24 = .ok (.aload_n 0, 1) := by decide +kernel
theorem dX4_usable_25 : decode cX4_usable 25 = .ok (.getfield 30, 3) := by decide +kernel
theorem dX4_usable_28 : decode cX4_usable 28 = .ok (.if_icmp .ge 68, 3) := by decide +kernel
theorem dX4_usable_31 : decode cX4_usable 31 = .ok (.iload_n 3, 1) := by decide +kernel
theorem dX4_usable_32 : decode cX4_usable 32 = .ok (.iload 7, 2) := by decide +kernel
theorem dX4_usable_34 : decode cX4_usable 34 = .ok (.ishr, 1) := by decide +kernel
theorem dX4_usable_35 : decode cX4_usable 35 = .ok (.iconst 1, 1) := by decide +kernel
theorem dX4_usable_36 : decode cX4_usable 36 = .ok (.iand, 1) := by decide +kernel
theorem dX4_usable_37 : decode cX4_usable 37 = .ok (.ifCond .ne 53, 3) := by decide +kernel
theorem dX4_usable_40 : decode cX4_usable 40 = .ok (.aload_n 1, 1) := by decide +kernel
theorem dX4_usable_41 : decode cX4_usable 41 = .ok (.getfield 105, 3) := by decide +kernel
theorem dX4_usable_44 : decode cX4_usable 44 = .ok (.getfield 117, 3) := by decide +kernel
theorem dX4_usable_47 : decode cX4_usable 47 = .ok (.bipush 16, 2) := by decide +kernel
theorem dX4_usable_49 : decode cX4_usable 49 = .ok (.iload 7, 2) := by decide +kernel
theorem dX4_usable_51 : decode cX4_usable 51 = .ok (.iadd, 1) := by decide +kernel
theorem dX4_usable_52 : decode cX4_usable 52 = .ok (.invokestatic 66, 3) := by decide +kernel
theorem dX4_usable_55 : decode cX4_usable 55 = .ok (.iload 5, 2) := by decide +kernel
theorem dX4_usable_57 : decode cX4_usable 57 = .ok (.if_icmp .ne 6, 3) := by decide +kernel
theorem dX4_usable_60 : decode cX4_usable 60 = .ok (.goto 30, 3) := by decide +kernel
theorem dX4_usable_63 : decode cX4_usable 63 = .ok (.aload_n 1, 1) := by decide +kernel
theorem dX4_usable_64 : decode cX4_usable 64 = .ok (.getfield 105, 3) := by decide +kernel
theorem dX4_usable_67 : decode cX4_usable 67 = .ok (.iload_n 2, 1) := by decide +kernel
theorem dX4_usable_68 : decode cX4_usable 68 = .ok (.iload 4, 2) := by decide +kernel
theorem dX4_usable_70 : decode cX4_usable 70 = .ok (.invokestatic 120, 3) := by decide +kernel
theorem dX4_usable_73 : decode cX4_usable 73 = .ok (.iload 7, 2) := by decide +kernel
theorem dX4_usable_75 : decode cX4_usable 75 = .ok (.invokevirtual 123, 3) := by decide +kernel
theorem dX4_usable_78 : decode cX4_usable 78 = .ok (.ifCond .eq 12, 3) := by decide +kernel
theorem dX4_usable_81 : decode cX4_usable 81 = .ok (.iload 6, 2) := by decide +kernel
theorem dX4_usable_83 : decode cX4_usable 83 = .ok (.iconst 1, 1) := by decide +kernel
theorem dX4_usable_84 : decode cX4_usable 84 = .ok (.iload 7, 2) := by decide +kernel
theorem dX4_usable_86 : decode cX4_usable 86 = .ok (.ishl, 1) := by decide +kernel
theorem dX4_usable_87 : decode cX4_usable 87 = .ok (.ior, 1) := by decide +kernel
theorem dX4_usable_88 : decode cX4_usable 88 = .ok (.istore 6, 2) := by decide +kernel
theorem dX4_usable_90 : decode cX4_usable 90 = .ok (.iinc 7 1, 3) := by decide +kernel
theorem dX4_usable_93 : decode cX4_usable 93 = .ok (.goto (-71), 3) := by decide +kernel
theorem dX4_usable_96 : decode cX4_usable 96 = .ok (.iload 6, 2) := by decide +kernel
theorem dX4_usable_98 : decode cX4_usable 98 = .ok (.ireturn, 1) := by decide +kernel
theorem dX4_hasBit_0 : decode cX4_hasBit 0 = .ok (.aload_n 0, 1) := by decide +kernel
theorem dX4_hasBit_1 : decode cX4_hasBit 1 = .ok (.iload_n 1, 1) := by decide +kernel
theorem dX4_hasBit_2 : decode cX4_hasBit 2 = .ok (.bipush 6, 2) := by decide +kernel
theorem dX4_hasBit_4 : decode cX4_hasBit 4 = .ok (.ishr, 1) := by decide +kernel
theorem dX4_hasBit_5 : decode cX4_hasBit 5 = .ok (.invokestatic 58, 3) := by decide +kernel
theorem dX4_hasBit_8 : decode cX4_hasBit 8 = .ok (.iload_n 1, 1) := by decide +kernel
theorem dX4_hasBit_9 : decode cX4_hasBit 9 = .ok (.bipush 63, 2) := by decide +kernel
theorem dX4_hasBit_11 : decode cX4_hasBit 11 = .ok (.iand, 1) := by decide +kernel
theorem dX4_hasBit_12 : decode cX4_hasBit 12 = .ok (.lshr, 1) := by decide +kernel
theorem dX4_hasBit_13 : decode cX4_hasBit 13 = .ok (.lconst 1, 1) := by decide +kernel
theorem dX4_hasBit_14 : decode cX4_hasBit 14 = .ok (.land, 1) := by decide +kernel
theorem dX4_hasBit_15 : decode cX4_hasBit 15 = .ok (.lconst 0, 1) := by decide +kernel
theorem dX4_hasBit_16 : decode cX4_hasBit 16 = .ok (.lcmp, 1) := by decide +kernel
theorem dX4_hasBit_17 : decode cX4_hasBit 17 = .ok (.ifCond .eq 7, 3) := by decide +kernel
theorem dX4_hasBit_20 : decode cX4_hasBit 20 = .ok (.iconst 1, 1) := by decide +kernel
theorem dX4_hasBit_21 : decode cX4_hasBit 21 = .ok (.goto 4, 3) := by decide +kernel
theorem dX4_hasBit_24 : decode cX4_hasBit 24 = .ok (.iconst 0, 1) := by decide +kernel
theorem dX4_hasBit_25 : decode cX4_hasBit 25 = .ok (.ireturn, 1) := by decide +kernel
theorem dX4_putBit_0 : decode cX4_putBit 0 = .ok (.aload_n 0, 1) := by decide +kernel
theorem dX4_putBit_1 : decode cX4_putBit 1 = .ok (.iload_n 1, 1) := by decide +kernel
theorem dX4_putBit_2 : decode cX4_putBit 2 = .ok (.bipush 6, 2) := by decide +kernel
theorem dX4_putBit_4 : decode cX4_putBit 4 = .ok (.ishr, 1) := by decide +kernel
theorem dX4_putBit_5 : decode cX4_putBit 5 = .ok (.aload_n 0, 1) := by decide +kernel
theorem dX4_putBit_6 : decode cX4_putBit 6 = .ok (.iload_n 1, 1) := by decide +kernel
theorem dX4_putBit_7 : decode cX4_putBit 7 = .ok (.bipush 6, 2) := by decide +kernel
theorem dX4_putBit_9 : decode cX4_putBit 9 = .ok (.ishr, 1) := by decide +kernel
theorem dX4_putBit_10 : decode cX4_putBit 10 = .ok (.invokestatic 58, 3) := by decide +kernel
theorem dX4_putBit_13 : decode cX4_putBit 13 = .ok (.lconst 1, 1) := by decide +kernel
theorem dX4_putBit_14 : decode cX4_putBit 14 = .ok (.iload_n 1, 1) := by decide +kernel
theorem dX4_putBit_15 : decode cX4_putBit 15 = .ok (.bipush 63, 2) := by decide +kernel
theorem dX4_putBit_17 : decode cX4_putBit 17 = .ok (.iand, 1) := by decide +kernel
theorem dX4_putBit_18 : decode cX4_putBit 18 = .ok (.lshl, 1) := by decide +kernel
theorem dX4_putBit_19 : decode cX4_putBit 19 = .ok (.lor, 1) := by decide +kernel
theorem dX4_putBit_20 : decode cX4_putBit 20 = .ok (.invokestatic 127, 3) := by decide +kernel
theorem dX4_putBit_23 : decode cX4_putBit 23 = .ok (.return_, 1) := by decide +kernel
theorem dX5_init_0 : decode cX5_init 0 = .ok (.aload_n 0, 1) := by decide +kernel
theorem dX5_init_1 : decode cX5_init 1 = .ok (.invokespecial 3, 3) := by decide +kernel
theorem dX5_init_4 : decode cX5_init 4 = .ok (.aload_n 0, 1) := by decide +kernel
theorem dX5_init_5 : decode cX5_init 5 = .ok (.sipush 500, 3) := by decide +kernel
theorem dX5_init_8 : decode cX5_init 8 = .ok (.newarray .int, 2) := by decide +kernel
theorem dX5_init_10 : decode cX5_init 10 = .ok (.putfield 9, 3) := by decide +kernel
theorem dX5_init_13 : decode cX5_init 13 = .ok (.aload_n 0, 1) := by decide +kernel
theorem dX5_init_14 : decode cX5_init 14 = .ok (.iconst (-1), 1) := by decide +kernel
theorem dX5_init_15 : decode cX5_init 15 = .ok (.putfield 15, 3) := by decide +kernel
theorem dX5_init_18 : decode cX5_init 18 = .ok (.return_, 1) := by decide +kernel
theorem dX5_append_0 : decode cX5_append 0 = .ok (.aload_n 0, 1) := by decide +kernel
theorem dX5_append_1 : decode cX5_append 1 = .ok (.getfield 19, 3) := by decide +kernel
theorem dX5_append_4 : decode cX5_append 4 = .ok (.sipush 500, 3) := by decide +kernel
theorem dX5_append_7 : decode cX5_append 7 = .ok (.if_icmp .lt 4, 3) := by decide +kernel
theorem dX5_append_10 : decode cX5_append 10 = .ok (.return_, 1) := by decide +kernel
theorem dX5_append_11 : decode cX5_append 11 = .ok (.aload_n 0, 1) := by decide +kernel
theorem dX5_append_12 : decode cX5_append 12 = .ok (.getfield 9, 3) := by decide +kernel
theorem dX5_append_15 : decode cX5_append 15 = .ok (.aload_n 0, 1) := by decide +kernel
theorem dX5_append_16 : decode cX5_append 16 = .ok (.getfield 19, 3) := by decide +kernel
theorem dX5_append_19 : decode cX5_append 19 = .ok (.iload_n 1, 1) := by decide +kernel
theorem dX5_append_20 : decode cX5_append 20 = .ok (.invokestatic 22, 3) := by decide +kernel
theorem dX5_append_23 : decode cX5_append 23 = .ok (.aload_n 0, 1) := by decide +kernel
theorem dX5_append_24 : decode cX5_append 24 = .ok (.dup, 1) := by decide +kernel
theorem dX5_append_25 : decode cX5_append 25 = .ok (.getfield 19, 3) := by decide +kernel
theorem dX5_append_28 : decode cX5_append 28 = .ok (.iconst 1, 1) := by decide +kernel
theorem dX5_append_29 : decode cX5_append 29 = .ok (.iadd, 1) := by decide +kernel
theorem dX5_append_30 : decode cX5_append 30 = .ok (.putfield 19, 3) := by decide +kernel
theorem dX5_append_33 : decode cX5_append 33 = .ok (.return_, 1) := by decide +kernel
theorem dX5_read_0 : decode cX5_read 0 = .ok (.aload_n 1, 1) := by decide +kernel
theorem dX5_read_1 : decode cX5_read 1 = .ok (.invokevirtual 28, 3) := by decide +kernel
theorem dX5_read_4 : decode cX5_read 4 = .ok (.aload_n 0, 1) := by decide +kernel
theorem dX5_read_5 : decode cX5_read 5 = .ok (.iconst 0, 1) := by decide +kernel
theorem dX5_read_6 : decode cX5_read 6 = .ok (.putfield 33, 3) := by decide +kernel
theorem dX5_read_9 : decode cX5_read 9 = .ok (.aload_n 0, 1) := by decide +kernel
theorem dX5_read_10 : decode cX5_read 10 = .ok (.iconst (-1), 1) := by decide +kernel
theorem dX5_read_11 : decode cX5_read 11 = .ok (.putfield 15, 3) := by decide +kernel
theorem dX5_read_14 : decode cX5_read 14 = .ok (.aload_n 0, 1) := by decide +kernel
theorem dX5_read_15 : decode cX5_read 15 = .ok (.iconst 0, 1) := by decide +kernel
theorem dX5_read_16 : decode cX5_read 16 = .ok (.putfield 36, 3) := by decide +kernel
theorem dX5_read_19 : decode cX5_read 19 = .ok (.iconst 0, 1) := by decide +kernel
theorem dX5_read_20 : decode cX5_read 20 = .ok (.istore_n 2, 1) := by decide +kernel
theorem dX5_read_21 : decode cX5_read 21 = .ok (.iload_n 2, 1) := by decide +kernel
theorem dX5_read_22 : decode cX5_read 22 = .ok (.sipush 500, 3) := by decide +kernel
theorem dX5_read_25 : decode cX5_read 25 = .ok (.if_icmp .ge 39, 3) := by decide +kernel
theorem dX5_read_28 : decode cX5_read 28 = .ok (.aload_n 0, 1) := by decide +kernel
theorem dX5_read_29 : decode cX5_read 29 = .ok (.getfield 33, 3) := by decide +kernel
theorem dX5_read_32 : decode cX5_read 32 = .ok (.ifCond .ne 32, 3) := by decide +kernel
theorem dX5_read_35 : decode cX5_read 35 = .ok (.aload_n 0, 1) := by decide +kernel
theorem dX5_read_36 : decode cX5_read 36 = .ok (.invokevirtual 39, 3) := by decide +kernel
theorem dX5_read_39 : decode cX5_read 39 = .ok (.aload_n 0, 1) := by decide +kernel
theorem dX5_read_40 : decode cX5_read 40 = .ok (.getfield 36, 3) := by decide +kernel
theorem dX5_read_43 : decode cX5_read 43 = .ok (.aload_n 0, 1) := by decide +kernel
theorem dX5_read_44 : decode cX5_read 44 = .ok (.getfield 19, 3) := by decide +kernel
theorem dX5_read_47 : decode cX5_read 47 = .ok (.if_icmp .lt 6, 3) := by decide +kernel
theorem dX5_read_50 : decode cX5_read 50 = .ok (.goto 14, 3) := by decide +kernel
theorem dX5_read_53 : decode cX5_read 53 = .ok (.aload_n 0, 1) := by decide +kernel
theorem dX5_read_54 : decode cX5_read 54 = .ok (.aload_n 1, 1) := by decide +kernel
theorem dX5_read_55 : decode cX5_read 55 = .ok (.invokevirtual 42, 3) := by decide +kernel
theorem dX5_read_58 : decode cX5_read 58 = .ok (.iinc 2 1, 3) := by decide +kernel
theorem dX5_read_61 : decode cX5_read 61 = .ok (.goto (-40), 3) := by decide +kernel
theorem dX5_read_64 : decode cX5_read 64 = .ok (.aload_n 0, 1) := by decide +kernel
theorem dX5_read_65 : decode cX5_read 65 = .ok (.getfield 33, 3) := by decide +kernel
theorem dX5_read_68 : decode cX5_read 68 = .ok (.ireturn, 1) := by decide +kernel
theorem dX5_readClause_0 : decode cX5_readClause 0 = .ok (.aload_n 0, 1) := by decide +kernel
theorem dX5_readClause_1 : decode cX5_readClause 1 = .ok (.getfield 36, 3) := by decide +kernel
theorem dX5_readClause_4 : decode cX5_readClause 4 = .ok (.istore_n 2, 1) := by decide +kernel
theorem dX5_readClause_5 : decode cX5_readClause 5 = .ok (.aload_n 0, 1) := by decide +kernel
theorem dX5_readClause_6 : decode cX5_readClause 6 = .ok (.invokevirtual 46, 3) := by decide +kernel
theorem dX5_readClause_9 : decode cX5_readClause 9 = .ok (.istore_n 3, 1) := by decide +kernel
theorem dX5_readClause_10 : decode cX5_readClause 10 = .ok (.iload_n 3, 1) := by decide +kernel
theorem dX5_readClause_11 : decode cX5_readClause 11 = .ok (.iconst (-1), 1) := by decide +kernel
theorem dX5_readClause_12 : decode cX5_readClause 12 = .ok (.if_icmp .ne 12, 3) := by decide +kernel
theorem dX5_readClause_15 : decode cX5_readClause 15 = .ok (.aload_n 0, 1) := by decide +kernel
theorem dX5_readClause_16 : decode cX5_readClause 16 = .ok (.iconst 1, 1) := by decide +kernel
theorem dX5_readClause_17 : decode cX5_readClause 17 = .ok (.iload_n 2, 1) := by decide +kernel
theorem dX5_readClause_18 : decode cX5_readClause 18 = .ok (.invokevirtual 50, 3) := by decide +kernel
theorem dX5_readClause_21 : decode cX5_readClause 21 = .ok (.goto 58, 3) := by decide +kernel
theorem dX5_readClause_24 : decode cX5_readClause 24 = .ok (.aload_n 1, 1) := by decide +kernel
theorem dX5_readClause_25 : decode cX5_readClause 25 = .ok (.iload_n 3, 1) := by decide +kernel
theorem dX5_readClause_26 : decode cX5_readClause 26 = .ok (.invokevirtual 54, 3) := by decide +kernel
theorem dX5_readClause_29 : decode cX5_readClause 29 = .ok (.ifCond .eq 12, 3) := by decide +kernel
theorem dX5_readClause_32 : decode cX5_readClause 32 = .ok (.aload_n 0, 1) := by decide +kernel
theorem dX5_readClause_33 : decode cX5_readClause 33 = .ok (.iconst 3, 1) := by decide +kernel
theorem dX5_readClause_34 : decode cX5_readClause 34 = .ok (.iload_n 2, 1) := by decide +kernel
theorem dX5_readClause_35 : decode cX5_readClause 35 = .ok (.invokevirtual 50, 3) := by decide +kernel
theorem dX5_readClause_38 : decode cX5_readClause 38 = .ok (.goto 41, 3) := by decide +kernel
theorem dX5_readClause_41 : decode cX5_readClause 41 = .ok (.iload_n 3, 1) := by decide +kernel
theorem dX5_readClause_42 : decode cX5_readClause 42 = .ok (.ifCond .ne 31, 3) := by decide +kernel
theorem dX5_readClause_45 : decode cX5_readClause 45 = .ok (.aload_n 0, 1) := by decide +kernel
theorem dX5_readClause_46 : decode cX5_readClause 46 = .ok (.bipush 10, 2) := by decide +kernel
theorem dX5_readClause_48 : decode cX5_readClause 48 = .ok (.invokevirtual 58, 3) := by decide +kernel
theorem dX5_readClause_51 : decode cX5_readClause 51 = .ok (.istore 4, 2) := by decide +kernel
theorem dX5_readClause_53 : decode cX5_readClause 53 = .ok (.aload_n 0, 1) := by decide +kernel
theorem dX5_readClause_54 : decode cX5_readClause 54 = .ok (.invokevirtual 62, 3) := by decide +kernel
theorem dX5_readClause_57 : decode cX5_readClause 57 = .ok (.aload_n 0, 1) := by decide +kernel
theorem dX5_readClause_58 : decode cX5_readClause 58 = .ok (.getfield 33, 3) := by decide +kernel
theorem dX5_readClause_61 : decode cX5_readClause 61 = .ok (.ifCond .ne 9, 3) := by decide +kernel
theorem dX5_readClause_64 : decode cX5_readClause 64 = .ok (.aload_n 1, 1) := by decide +kernel
theorem dX5_readClause_65 : decode cX5_readClause 65 = .ok (.iload 4, 2) := by decide +kernel
theorem dX5_readClause_67 : decode cX5_readClause 67 = .ok (.invokevirtual 65, 3) := by decide +kernel
theorem dX5_readClause_70 : decode cX5_readClause 70 = .ok (.goto 9, 3) := by decide +kernel
theorem dX5_readClause_73 : decode cX5_readClause 73 = .ok (.aload_n 0, 1) := by decide +kernel
theorem dX5_readClause_74 : decode cX5_readClause 74 = .ok (.aload_n 1, 1) := by decide +kernel
theorem dX5_readClause_75 : decode cX5_readClause 75 = .ok (.iload_n 3, 1) := by decide +kernel
theorem dX5_readClause_76 : decode cX5_readClause 76 = .ok (.invokevirtual 69, 3) := by decide +kernel
theorem dX5_readClause_79 : decode cX5_readClause 79 = .ok (.return_, 1) := by decide +kernel
theorem dX5_readPair_0 : decode cX5_readPair 0 = .ok (.aload_n 0, 1) := by decide +kernel
theorem dX5_readPair_1 : decode cX5_readPair 1 = .ok (.aload_n 1, 1) := by decide +kernel
theorem dX5_readPair_2 : decode cX5_readPair 2 = .ok (.getfield 73, 3) := by decide +kernel
theorem dX5_readPair_5 : decode cX5_readPair 5 = .ok (.invokevirtual 58, 3) := by decide +kernel
theorem dX5_readPair_8 : decode cX5_readPair 8 = .ok (.istore_n 3, 1) := by decide +kernel
theorem dX5_readPair_9 : decode cX5_readPair 9 = .ok (.aload_n 0, 1) := by decide +kernel
theorem dX5_readPair_10 : decode cX5_readPair 10 = .ok (.invokevirtual 39, 3) := by decide +kernel
theorem dX5_readPair_13 : decode cX5_readPair 13 = .ok (.aload_n 0, 1) := by decide +kernel
theorem dX5_readPair_14 : decode cX5_readPair 14 = .ok (.getfield 36, 3) := by decide +kernel
theorem dX5_readPair_17 : decode cX5_readPair 17 = .ok (.istore 4, 2) := by decide +kernel
theorem dX5_readPair_19 : decode cX5_readPair 19 = .ok (.aload_n 0, 1) := by decide +kernel
theorem dX5_readPair_20 : decode cX5_readPair 20 = .ok (.aload_n 1, 1) := by decide +kernel
theorem dX5_readPair_21 : decode cX5_readPair 21 = .ok (.getfield 73, 3) := by decide +kernel
theorem dX5_readPair_24 : decode cX5_readPair 24 = .ok (.invokevirtual 58, 3) := by decide +kernel
theorem dX5_readPair_27 : decode cX5_readPair 27 = .ok (.istore 5, 2) := by decide +kernel
theorem dX5_readPair_29 : decode cX5_readPair 29 = .ok (.aload_n 0, 1) := by decide +kernel
theorem dX5_readPair_30 : decode cX5_readPair 30 = .ok (.getfield 33, 3) := by decide +kernel
theorem dX5_readPair_33 : decode cX5_readPair 33 = .ok (.ifCond .ne 27, 3) := by decide +kernel
theorem dX5_readPair_36 : decode cX5_readPair 36 = .ok (.iload_n 3, 1) := by decide +kernel
theorem dX5_readPair_37 : decode cX5_readPair 37 = .ok (.iload 5, 2) := by decide +kernel
theorem dX5_readPair_39 : decode cX5_readPair 39 = .ok (.if_icmp .eq 14, 3) := by decide +kernel
theorem dX5_readPair_42 : decode cX5_readPair 42 = .ok (.aload_n 1, 1) := by decide +kernel
theorem dX5_readPair_43 : decode cX5_readPair 43 = .ok (.iload_n 2, 1) := by decide +kernel
theorem dX5_readPair_44 : decode cX5_readPair 44 = .ok (.iload_n 3, 1) := by decide +kernel
theorem dX5_readPair_45 : decode cX5_readPair 45 = .ok (.iload 5, 2) := by decide +kernel
theorem dX5_readPair_47 : decode cX5_readPair 47 = .ok (.invokevirtual 76, 3) := by decide +kernel
theorem dX5_readPair_50 : decode cX5_readPair 50 = .ok (.ifCond .eq 10, 3) := by decide +kernel
theorem dX5_readPair_53 : decode cX5_readPair 53 = .ok (.aload_n 0, 1) := by decide +kernel
theorem dX5_readPair_54 : decode cX5_readPair 54 = .ok (.iconst 4, 1) := by decide +kernel
theorem dX5_readPair_55 : decode cX5_readPair 55 = .ok (.iload 4, 2) := by decide +kernel
theorem dX5_readPair_57 : decode cX5_readPair 57 = .ok (.invokevirtual 50, 3) := by decide +kernel
theorem dX5_readPair_60 : decode cX5_readPair 60 = .ok (.aload_n 0, 1) := by decide +kernel
theorem dX5_readPair_61 : decode cX5_readPair 61 = .ok (.invokevirtual 62, 3) := by decide +kernel
theorem dX5_readPair_64 : decode cX5_readPair 64 = .ok (.aload_n 0, 1) := by decide +kernel
theorem dX5_readPair_65 : decode cX5_readPair 65 = .ok (.getfield 33, 3) := by decide +kernel
theorem dX5_readPair_68 : decode cX5_readPair 68 = .ok (.ifCond .ne 11, 3) := by decide +kernel
theorem dX5_readPair_71 : decode cX5_readPair 71 = .ok (.aload_n 1, 1) := by decide +kernel
theorem dX5_readPair_72 : decode cX5_readPair 72 = .ok (.iload_n 2, 1) := by decide +kernel
theorem dX5_readPair_73 : decode cX5_readPair 73 = .ok (.iload_n 3, 1) := by decide +kernel
theorem dX5_readPair_74 : decode cX5_readPair 74 = .ok (.iload 5, 2) := by decide +kernel
theorem dX5_readPair_76 : decode cX5_readPair 76 = .ok (.invokevirtual 80, 3) := by decide +kernel
theorem dX5_readPair_79 : decode cX5_readPair 79 = .ok (.return_, 1) := by decide +kernel
theorem dX5_fail_0 : decode cX5_fail 0 = .ok (.aload_n 0, 1) := by decide +kernel
theorem dX5_fail_1 : decode cX5_fail 1 = .ok (.getfield 33, 3) := by decide +kernel
theorem dX5_fail_4 : decode cX5_fail 4 = .ok (.ifCond .eq 4, 3) := by decide +kernel
theorem dX5_fail_7 : decode cX5_fail 7 = .ok (.return_, 1) := by decide +kernel
theorem dX5_fail_8 : decode cX5_fail 8 = .ok (.aload_n 0, 1) := by decide +kernel
theorem dX5_fail_9 : decode cX5_fail 9 = .ok (.iload_n 1, 1) := by decide +kernel
theorem dX5_fail_10 : decode cX5_fail 10 = .ok (.putfield 33, 3) := by decide +kernel
theorem dX5_fail_13 : decode cX5_fail 13 = .ok (.aload_n 0, 1) := by decide +kernel
theorem dX5_fail_14 : decode cX5_fail 14 = .ok (.iload_n 2, 1) := by decide +kernel
theorem dX5_fail_15 : decode cX5_fail 15 = .ok (.putfield 15, 3) := by decide +kernel
theorem dX5_fail_18 : decode cX5_fail 18 = .ok (.return_, 1) := by decide +kernel
theorem dX5_sign_0 : decode cX5_sign 0 = .ok (.iload_n 1, 1) := by decide +kernel
theorem dX5_sign_1 : decode cX5_sign 1 = .ok (.aload_n 0, 1) := by decide +kernel
theorem dX5_sign_2 : decode cX5_sign 2 = .ok (.getfield 19, 3) := by decide +kernel
theorem dX5_sign_5 : decode cX5_sign 5 = .ok (.if_icmp .ge 14, 3) := by decide +kernel
theorem dX5_sign_8 : decode cX5_sign 8 = .ok (.aload_n 0, 1) := by decide +kernel
theorem dX5_sign_9 : decode cX5_sign 9 = .ok (.getfield 9, 3) := by decide +kernel
theorem dX5_sign_12 : decode cX5_sign 12 = .ok (.iload_n 1, 1) := by decide +kernel
theorem dX5_sign_13 : decode cX5_sign 13 = .ok (.invokestatic 84, 3) := by decide +kernel
theorem dX5_sign_16 : decode cX5_sign 16 = .ok (.goto 4, 3) := by decide +kernel
theorem dX5_sign_19 : decode cX5_sign 19 = .ok (.iconst (-1), 1) := by decide +kernel
theorem dX5_sign_20 : decode cX5_sign 20 = .ok (.ireturn, 1) := by decide +kernel
theorem dX5_skipBlanks_0 : decode cX5_skipBlanks 0 = .ok (.iconst 0, 1) := by decide +kernel
theorem dX5_skipBlanks_1 : decode cX5_skipBlanks 1 = .ok (.istore_n 1, 1) := by decide +kernel
theorem dX5_skipBlanks_2 : decode cX5_skipBlanks 2 = .ok (.iload_n 1, 1) := by decide +kernel
theorem dX5_skipBlanks_3 : decode cX5_skipBlanks 3 = .ok (.sipush 500, 3) := by decide +kernel
theorem dX5_skipBlanks_6 : decode cX5_skipBlanks 6 = .ok (.if_icmp .ge 32, 3) := by decide +kernel
theorem dX5_skipBlanks_9 : decode cX5_skipBlanks 9 = .ok (.aload_n 0, 1) := by decide +kernel
theorem dX5_skipBlanks_10 : decode cX5_skipBlanks 10 = .ok (.aload_n 0, 1) := by decide +kernel
theorem dX5_skipBlanks_11 : decode cX5_skipBlanks 11 = .ok (.getfield 36, 3) := by decide +kernel
theorem dX5_skipBlanks_14 : decode cX5_skipBlanks 14 = .ok (.invokevirtual 88, 3) := by decide +kernel
theorem dX5_skipBlanks_17 : decode cX5_skipBlanks 17 = .ok (.bipush 32, 2) := by decide +kernel
theorem dX5_skipBlanks_19 : decode cX5_skipBlanks 19 = .ok (.if_icmp .ne 19, 3) := by decide +kernel
theorem dX5_skipBlanks_22 : decode cX5_skipBlanks 22 = .ok (.aload_n 0, 1) := by decide +kernel
theorem dX5_skipBlanks_23 : decode cX5_skipBlanks 23 = .ok (.dup, 1) := by decide +kernel
theorem dX5_skipBlanks_24 : decode cX5_skipBlanks 24 = .ok (.getfield 36, 3) := by decide +kernel
theorem dX5_skipBlanks_27 : decode cX5_skipBlanks 27 = .ok (.iconst 1, 1) := by decide +kernel
theorem dX5_skipBlanks_28 : decode cX5_skipBlanks 28 = .ok (.iadd, 1) := by decide +kernel
theorem dX5_skipBlanks_29 : decode cX5_skipBlanks 29 = .ok (.putfield 36, 3) := by decide +kernel
theorem dX5_skipBlanks_32 : decode cX5_skipBlanks 32 = .ok (.iinc 1 1, 3) := by decide +kernel
theorem dX5_skipBlanks_35 : decode cX5_skipBlanks 35 = .ok (.goto (-33), 3) := by decide +kernel
theorem dX5_skipBlanks_38 : decode cX5_skipBlanks 38 = .ok (.return_, 1) := by decide +kernel
theorem dX5_readWord_0 : decode cX5_readWord 0 = .ok (.aload_n 0, 1) := by decide +kernel
theorem dX5_readWord_1 : decode cX5_readWord 1 = .ok (.getfield 36, 3) := by decide +kernel
theorem dX5_readWord_4 : decode cX5_readWord 4 = .ok (.istore_n 1, 1) := by decide +kernel
theorem dX5_readWord_5 : decode cX5_readWord 5 = .ok (.iconst 0, 1) := by decide +kernel
theorem dX5_readWord_6 : decode cX5_readWord 6 = .ok (.istore_n 2, 1) := by decide +kernel
theorem dX5_readWord_7 : decode cX5_readWord 7 = .ok (.iload_n 2, 1) := by decide +kernel
theorem dX5_readWord_8 : decode cX5_readWord 8 = .ok (.sipush 500, 3) := by decide +kernel
theorem dX5_readWord_11 : decode cX5_readWord 11 = .ok (.if_icmp .ge 23, 3) := by decide +kernel
theorem dX5_readWord_14 : decode cX5_readWord 14 = .ok (.aload_n 0, 1) := by decide +kernel
theorem dX5_readWord_15 : decode cX5_readWord 15 = .ok (.iload_n 1, 1) := by decide +kernel
theorem dX5_readWord_16 : decode cX5_readWord 16 = .ok (.invokevirtual 88, 3) := by decide +kernel
theorem dX5_readWord_19 : decode cX5_readWord 19 = .ok (.invokestatic 91, 3) := by decide +kernel
theorem dX5_readWord_22 : decode cX5_readWord 22 = .ok (.ifCond .eq 12, 3) := by decide +kernel
theorem dX5_readWord_25 : decode cX5_readWord 25 = .ok (.iinc 1 1, 3) := by decide +kernel
theorem dX5_readWord_28 : decode cX5_readWord 28 = .ok (.iinc 2 1, 3) := by decide +kernel
theorem dX5_readWord_31 : decode cX5_readWord 31 = .ok (.goto (-24), 3) := by decide +kernel
theorem dX5_readWord_34 : decode cX5_readWord 34 = .ok (.iconst 0, 1) := by decide +kernel
theorem dX5_readWord_35 : decode cX5_readWord 35 = .ok (.istore_n 2, 1) := by decide +kernel
theorem dX5_readWord_36 : decode cX5_readWord 36 = .ok (.iload_n 2, 1) := by decide +kernel
theorem dX5_readWord_37 : decode cX5_readWord 37 = .ok (.iconst 4, 1) := by decide +kernel
theorem dX5_readWord_38 : decode cX5_readWord 38 = .ok (.if_icmp .ge 32, 3) := by decide +kernel
theorem dX5_readWord_41 : decode cX5_readWord 41 = .ok (.aload_n 0, 1) := by decide +kernel
theorem dX5_readWord_42 : decode cX5_readWord 42 = .ok (.iload_n 2, 1) := by decide +kernel
theorem dX5_readWord_43 : decode cX5_readWord 43 = .ok (.invokestatic 94, 3) := by decide +kernel
theorem dX5_readWord_46 : decode cX5_readWord 46 = .ok (.aload_n 0, 1) := by decide +kernel
theorem dX5_readWord_47 : decode cX5_readWord 47 = .ok (.getfield 36, 3) := by decide +kernel
theorem dX5_readWord_50 : decode cX5_readWord 50 = .ok (.iload_n 1, 1) := by decide +kernel
theorem dX5_readWord_51 : decode cX5_readWord 51 = .ok (.invokevirtual 98, 3) := by decide +kernel
theorem dX5_readWord_54 : decode cX5_readWord 54 = .ok (.ifCond .eq 10, 3) := by decide +kernel
theorem dX5_readWord_57 : decode cX5_readWord 57 = .ok (.aload_n 0, 1) := by decide +kernel
theorem dX5_readWord_58 : decode cX5_readWord 58 = .ok (.iload_n 1, 1) := by decide +kernel
theorem dX5_readWord_59 : decode cX5_readWord 59 = .ok (.putfield 36, 3) := by decide +kernel
theorem dX5_readWord_62 : decode cX5_readWord 62 = .ok (.iload_n 2, 1) := by decide +kernel
theorem dX5_readWord_63 : decode cX5_readWord 63 = .ok (.ireturn, 1) := by decide +kernel
theorem dX5_readWord_64 : decode cX5_readWord 64 = .ok (.iinc 2 1, 3) := by decide +kernel
theorem dX5_readWord_67 : decode cX5_readWord 67 = .ok (.goto (-31), 3) := by decide +kernel
theorem dX5_readWord_70 : decode cX5_readWord 70 = .ok (.iconst (-1), 1) := by decide +kernel
theorem dX5_readWord_71 : decode cX5_readWord 71 = .ok (.ireturn, 1) := by decide +kernel
theorem dX5_isSpelled_0 : decode cX5_isSpelled 0 = .ok (.aload_n 1, 1) := by decide +kernel
theorem dX5_isSpelled_1 : decode cX5_isSpelled 1 = .ok (.invokevirtual 102, 3) := by decide +kernel
theorem dX5_isSpelled_4 : decode cX5_isSpelled 4 = .ok (.iload_n 3, 1) := by decide +kernel
theorem dX5_isSpelled_5 : decode cX5_isSpelled 5 = .ok (.iload_n 2, 1) := by decide +kernel
theorem dX5_isSpelled_6 : decode cX5_isSpelled 6 = .ok (.isub, 1) := by decide +kernel
theorem dX5_isSpelled_7 : decode cX5_isSpelled 7 = .ok (.if_icmp .eq 5, 3) := by decide +kernel
theorem dX5_isSpelled_10 : decode cX5_isSpelled 10 = .ok (.iconst 0, 1) := by decide +kernel
theorem dX5_isSpelled_11 : decode cX5_isSpelled 11 = .ok (.ireturn, 1) := by decide +kernel
theorem dX5_isSpelled_12 : decode cX5_isSpelled 12 = .ok (.iconst 0, 1) := by decide +kernel
theorem dX5_isSpelled_13 : decode cX5_isSpelled 13 = .ok (.istore 4, 2) := by decide +kernel
theorem dX5_isSpelled_15 : decode cX5_isSpelled 15 = .ok (.iload 4, 2) := by decide +kernel
theorem dX5_isSpelled_17 : decode cX5_isSpelled 17 = .ok (.aload_n 1, 1) := by decide +kernel
theorem dX5_isSpelled_18 : decode cX5_isSpelled 18 = .ok (.invokevirtual 102, 3) := by decide +kernel
theorem dX5_isSpelled_21 : decode cX5_isSpelled 21 = .ok (.if_icmp .ge 28, 3) := by decide +kernel
theorem dX5_isSpelled_24 : decode cX5_isSpelled 24 = .ok (.aload_n 0, 1) := by decide +kernel
theorem dX5_isSpelled_25 : decode cX5_isSpelled 25 = .ok (.iload_n 2, 1) := by decide +kernel
theorem dX5_isSpelled_26 : decode cX5_isSpelled 26 = .ok (.iload 4, 2) := by decide +kernel
theorem dX5_isSpelled_28 : decode cX5_isSpelled 28 = .ok (.iadd, 1) := by decide +kernel
theorem dX5_isSpelled_29 : decode cX5_isSpelled 29 = .ok (.invokevirtual 88, 3) := by decide +kernel
theorem dX5_isSpelled_32 : decode cX5_isSpelled 32 = .ok (.aload_n 1, 1) := by decide +kernel
theorem dX5_isSpelled_33 : decode cX5_isSpelled 33 = .ok (.iload 4, 2) := by decide +kernel
theorem dX5_isSpelled_35 : decode cX5_isSpelled 35 = .ok (.invokevirtual 106, 3) := by decide +kernel
theorem dX5_isSpelled_38 : decode cX5_isSpelled 38 = .ok (.if_icmp .eq 5, 3) := by decide +kernel
theorem dX5_isSpelled_41 : decode cX5_isSpelled 41 = .ok (.iconst 0, 1) := by decide +kernel
theorem dX5_isSpelled_42 : decode cX5_isSpelled 42 = .ok (.ireturn, 1) := by decide +kernel
theorem dX5_isSpelled_43 : decode cX5_isSpelled 43 = .ok (.iinc 4 1, 3) := by decide +kernel
theorem dX5_isSpelled_46 : decode cX5_isSpelled 46 = .ok (.goto (-31), 3) := by decide +kernel
theorem dX5_isSpelled_49 : decode cX5_isSpelled 49 = .ok (.iconst 1, 1) := by decide +kernel
theorem dX5_isSpelled_50 : decode cX5_isSpelled 50 = .ok (.ireturn, 1) := by decide +kernel
theorem dX5_spelling_0 : decode cX5_spelling 0 = .ok (.iload_n 0, 1) := by decide +kernel
theorem dX5_spelling_1 : decode cX5_spelling 1 = .ok (.tableswitch 36 0 2 #[27, 30, 33], 27) := by decide +kernel
theorem dX5_spelling_28 : decode cX5_spelling 28 = .ok (.ldc 110, 2) := by decide +kernel
theorem dX5_spelling_30 : decode cX5_spelling 30 = .ok (.areturn, 1) := by decide +kernel
theorem dX5_spelling_31 : decode cX5_spelling 31 = .ok (.ldc 112, 2) := by decide +kernel
theorem dX5_spelling_33 : decode cX5_spelling 33 = .ok (.areturn, 1) := by decide +kernel
theorem dX5_spelling_34 : decode cX5_spelling 34 = .ok (.ldc 114, 2) := by decide +kernel
theorem dX5_spelling_36 : decode cX5_spelling 36 = .ok (.areturn, 1) := by decide +kernel
theorem dX5_spelling_37 : decode cX5_spelling 37 = .ok (.ldc 116, 2) := by decide +kernel
theorem dX5_spelling_39 : decode cX5_spelling 39 = .ok (.areturn, 1) := by decide +kernel
theorem dX5_readNumber_0 : decode cX5_readNumber 0 = .ok (.aload_n 0, 1) := by decide +kernel
theorem dX5_readNumber_1 : decode cX5_readNumber 1 = .ok (.invokevirtual 39, 3) := by decide +kernel
theorem dX5_readNumber_4 : decode cX5_readNumber 4 = .ok (.aload_n 0, 1) := by decide +kernel
theorem dX5_readNumber_5 : decode cX5_readNumber 5 = .ok (.getfield 36, 3) := by decide +kernel
theorem dX5_readNumber_8 : decode cX5_readNumber 8 = .ok (.istore_n 2, 1) := by decide +kernel
theorem dX5_readNumber_9 : decode cX5_readNumber 9 = .ok (.iconst 0, 1) := by decide +kernel
theorem dX5_readNumber_10 : decode cX5_readNumber 10 = .ok (.istore_n 3, 1) := by decide +kernel
theorem dX5_readNumber_11 : decode cX5_readNumber 11 = .ok (.iconst 0, 1) := by decide +kernel
theorem dX5_readNumber_12 : decode cX5_readNumber 12 = .ok (.istore 4, 2) := by decide +kernel
theorem dX5_readNumber_14 : decode cX5_readNumber 14 = .ok (.iload 4, 2) := by decide +kernel
theorem dX5_readNumber_16 : decode cX5_readNumber 16 = .ok (.sipush 500, 3) := by decide +kernel
theorem dX5_readNumber_19 : decode cX5_readNumber 19 = .ok (.if_icmp .ge 56, 3) := by decide +kernel
theorem dX5_readNumber_22 : decode cX5_readNumber 22 = .ok (.aload_n 0, 1) := by decide +kernel
theorem dX5_readNumber_23 : decode cX5_readNumber 23 = .ok (.aload_n 0, 1) := by decide +kernel
theorem dX5_readNumber_24 : decode cX5_readNumber 24 = .ok (.getfield 36, 3) := by decide +kernel
theorem dX5_readNumber_27 : decode cX5_readNumber 27 = .ok (.invokevirtual 88, 3) := by decide +kernel
theorem dX5_readNumber_30 : decode cX5_readNumber 30 = .ok (.invokestatic 118, 3) := by decide +kernel
theorem dX5_readNumber_33 : decode cX5_readNumber 33 = .ok (.ifCond .eq 42, 3) := by decide +kernel
theorem dX5_readNumber_36 : decode cX5_readNumber 36 = .ok (.iload 4, 2) := by decide +kernel
theorem dX5_readNumber_38 : decode cX5_readNumber 38 = .ok (.iconst 2, 1) := by decide +kernel
theorem dX5_readNumber_39 : decode cX5_readNumber 39 = .ok (.if_icmp .ge 20, 3) := by decide +kernel
theorem dX5_readNumber_42 : decode cX5_readNumber 42 = .ok (.bipush 10, 2) := by decide +kernel
theorem dX5_readNumber_44 : decode cX5_readNumber 44 = .ok (.iload_n 3, 1) := by decide +kernel
theorem dX5_readNumber_45 : decode cX5_readNumber 45 = .ok (.imul, 1) := by decide +kernel
theorem dX5_readNumber_46 : decode cX5_readNumber 46 = .ok (.aload_n 0, 1) := by decide +kernel
theorem dX5_readNumber_47 : decode cX5_readNumber 47 = .ok (.aload_n 0, 1) := by decide +kernel
theorem dX5_readNumber_48 : decode cX5_readNumber 48 = .ok (.getfield 36, 3) := by decide +kernel
theorem dX5_readNumber_51 : decode cX5_readNumber 51 = .ok (.invokevirtual 88, 3) := by decide +kernel
theorem dX5_readNumber_54 : decode cX5_readNumber 54 = .ok (.iadd, 1) := by decide +kernel
theorem dX5_readNumber_55 : decode cX5_readNumber 55 = .ok (.bipush 48, 2) := by decide +kernel
theorem dX5_readNumber_57 : decode cX5_readNumber 57 = .ok (.isub, 1) := by decide +kernel
theorem dX5_readNumber_58 : decode cX5_readNumber 58 = .ok (.istore_n 3, 1) := by decide +kernel
theorem dX5_readNumber_59 : decode cX5_readNumber 59 = .ok (.aload_n 0, 1) := by decide +kernel
theorem dX5_readNumber_60 : decode cX5_readNumber 60 = .ok (.dup, 1) := by decide +kernel
theorem dX5_readNumber_61 : decode cX5_readNumber 61 = .ok (.getfield 36, 3) := by decide +kernel
theorem dX5_readNumber_64 : decode cX5_readNumber 64 = .ok (.iconst 1, 1) := by decide +kernel
theorem dX5_readNumber_65 : decode cX5_readNumber 65 = .ok (.iadd, 1) := by decide +kernel
theorem dX5_readNumber_66 : decode cX5_readNumber 66 = .ok (.putfield 36, 3) := by decide +kernel
theorem dX5_readNumber_69 : decode cX5_readNumber 69 = .ok (.iinc 4 1, 3) := by decide +kernel
theorem dX5_readNumber_72 : decode cX5_readNumber 72 = .ok (.goto (-58), 3) := by decide +kernel
theorem dX5_readNumber_75 : decode cX5_readNumber 75 = .ok (.aload_n 0, 1) := by decide +kernel
theorem dX5_readNumber_76 : decode cX5_readNumber 76 = .ok (.getfield 36, 3) := by decide +kernel
theorem dX5_readNumber_79 : decode cX5_readNumber 79 = .ok (.iload_n 2, 1) := by decide +kernel
theorem dX5_readNumber_80 : decode cX5_readNumber 80 = .ok (.if_icmp .ne 12, 3) := by decide +kernel
theorem dX5_readNumber_83 : decode cX5_readNumber 83 = .ok (.aload_n 0, 1) := by decide +kernel
theorem dX5_readNumber_84 : decode cX5_readNumber 84 = .ok (.iconst 1, 1) := by decide +kernel
theorem dX5_readNumber_85 : decode cX5_readNumber 85 = .ok (.iload_n 2, 1) := by decide +kernel
theorem dX5_readNumber_86 : decode cX5_readNumber 86 = .ok (.invokevirtual 50, 3) := by decide +kernel
theorem dX5_readNumber_89 : decode cX5_readNumber 89 = .ok (.goto 24, 3) := by decide +kernel
theorem dX5_readNumber_92 : decode cX5_readNumber 92 = .ok (.aload_n 0, 1) := by decide +kernel
theorem dX5_readNumber_93 : decode cX5_readNumber 93 = .ok (.getfield 36, 3) := by decide +kernel
theorem dX5_readNumber_96 : decode cX5_readNumber 96 = .ok (.iload_n 2, 1) := by decide +kernel
theorem dX5_readNumber_97 : decode cX5_readNumber 97 = .ok (.isub, 1) := by decide +kernel
theorem dX5_readNumber_98 : decode cX5_readNumber 98 = .ok (.iconst 2, 1) := by decide +kernel
theorem dX5_readNumber_99 : decode cX5_readNumber 99 = .ok (.if_icmp .gt 8, 3) := by decide +kernel
theorem dX5_readNumber_102 : decode cX5_readNumber 102 = .ok (.iload_n 3, 1) := by decide +kernel
theorem dX5_readNumber_103 : decode cX5_readNumber 103 = .ok (.iload_n 1, 1) := by decide +kernel
theorem dX5_readNumber_104 : decode cX5_readNumber 104 = .ok (.if_icmp .lt 9, 3) := by decide +kernel
theorem dX5_readNumber_107 : decode cX5_readNumber 107 = .ok (.aload_n 0, 1) := by decide +kernel
theorem dX5_readNumber_108 : decode cX5_readNumber 108 = .ok (.iconst 2, 1) := by decide +kernel
theorem dX5_readNumber_109 : decode cX5_readNumber 109 = .ok (.iload_n 2, 1) := by decide +kernel
theorem dX5_readNumber_110 : decode cX5_readNumber 110 = .ok (.invokevirtual 50, 3) := by decide +kernel
theorem dX5_readNumber_113 : decode cX5_readNumber 113 = .ok (.iload_n 3, 1) := by decide +kernel
theorem dX5_readNumber_114 : decode cX5_readNumber 114 = .ok (.ireturn, 1) := by decide +kernel
theorem dX5_readClosing_0 : decode cX5_readClosing 0 = .ok (.aload_n 0, 1) := by decide +kernel
theorem dX5_readClosing_1 : decode cX5_readClosing 1 = .ok (.invokevirtual 39, 3) := by decide +kernel
theorem dX5_readClosing_4 : decode cX5_readClosing 4 = .ok (.aload_n 0, 1) := by decide +kernel
theorem dX5_readClosing_5 : decode cX5_readClosing 5 = .ok (.aload_n 0, 1) := by decide +kernel
theorem dX5_readClosing_6 : decode cX5_readClosing 6 = .ok (.getfield 36, 3) := by decide +kernel
theorem dX5_readClosing_9 : decode cX5_readClosing 9 = .ok (.invokevirtual 88, 3) := by decide +kernel
theorem dX5_readClosing_12 : decode cX5_readClosing 12 = .ok (.bipush 59, 2) := by decide +kernel
theorem dX5_readClosing_14 : decode cX5_readClosing 14 = .ok (.if_icmp .ne 16, 3) := by decide +kernel
theorem dX5_readClosing_17 : decode cX5_readClosing 17 = .ok (.aload_n 0, 1) := by decide +kernel
theorem dX5_readClosing_18 : decode cX5_readClosing 18 = .ok (.dup, 1) := by decide +kernel
theorem dX5_readClosing_19 : decode cX5_readClosing 19 = .ok (.getfield 36, 3) := by decide +kernel
theorem dX5_readClosing_22 : decode cX5_readClosing 22 = .ok (.iconst 1, 1) := by decide +kernel
theorem dX5_readClosing_23 : decode cX5_readClosing 23 = .ok (.iadd, 1) := by decide +kernel
theorem dX5_readClosing_24 : decode cX5_readClosing 24 = .ok (.putfield 36, 3) := by decide +kernel
theorem dX5_readClosing_27 : decode cX5_readClosing 27 = .ok (.goto 12, 3) := by decide +kernel
theorem dX5_readClosing_30 : decode cX5_readClosing 30 = .ok (.aload_n 0, 1) := by decide +kernel
theorem dX5_readClosing_31 : decode cX5_readClosing 31 = .ok (.iconst 1, 1) := by decide +kernel
theorem dX5_readClosing_32 : decode cX5_readClosing 32 = .ok (.aload_n 0, 1) := by decide +kernel
theorem dX5_readClosing_33 : decode cX5_readClosing 33 = .ok (.getfield 36, 3) := by decide +kernel
theorem dX5_readClosing_36 : decode cX5_readClosing 36 = .ok (.invokevirtual 50, 3) := by decide +kernel
theorem dX5_readClosing_39 : decode cX5_readClosing 39 = .ok (.return_, 1) := by decide +kernel
theorem dX5_isLetter_0 : decode cX5_isLetter 0 = .ok (.iload_n 0, 1) := by decide +kernel
theorem dX5_isLetter_1 : decode cX5_isLetter 1 = .ok (.bipush 97, 2) := by decide +kernel
theorem dX5_isLetter_3 : decode cX5_isLetter 3 = .ok (.if_icmp .lt 13, 3) := by decide +kernel
theorem dX5_isLetter_6 : decode cX5_isLetter 6 = .ok (.iload_n 0, 1) := by decide +kernel
theorem dX5_isLetter_7 : decode cX5_isLetter 7 = .ok (.bipush 122, 2) := by decide +kernel
theorem dX5_isLetter_9 : decode cX5_isLetter 9 = .ok (.if_icmp .gt 7, 3) := by decide +kernel
theorem dX5_isLetter_12 : decode cX5_isLetter 12 = .ok (.iconst 1, 1) := by decide +kernel
theorem dX5_isLetter_13 : decode cX5_isLetter 13 = .ok (.goto 4, 3) := by decide +kernel
theorem dX5_isLetter_16 : decode cX5_isLetter 16 = .ok (.iconst 0, 1) := by decide +kernel
theorem dX5_isLetter_17 : decode cX5_isLetter 17 = .ok (.ireturn, 1) := by decide +kernel
theorem dX5_isFigure_0 : decode cX5_isFigure 0 = .ok (.iload_n 0, 1) := by decide +kernel
theorem dX5_isFigure_1 : decode cX5_isFigure 1 = .ok (.bipush 48, 2) := by decide +kernel
theorem dX5_isFigure_3 : decode cX5_isFigure 3 = .ok (.if_icmp .lt 13, 3) := by decide +kernel
theorem dX5_isFigure_6 : decode cX5_isFigure 6 = .ok (.iload_n 0, 1) := by decide +kernel
theorem dX5_isFigure_7 : decode cX5_isFigure 7 = .ok (.bipush 57, 2) := by decide +kernel
theorem dX5_isFigure_9 : decode cX5_isFigure 9 = .ok (.if_icmp .gt 7, 3) := by decide +kernel
theorem dX5_isFigure_12 : decode cX5_isFigure 12 = .ok (.iconst 1, 1) := by decide +kernel
theorem dX5_isFigure_13 : decode cX5_isFigure 13 = .ok (.goto 4, 3) := by decide +kernel
theorem dX5_isFigure_16 : decode cX5_isFigure 16 = .ok (.iconst 0, 1) := by decide +kernel
theorem dX5_isFigure_17 : decode cX5_isFigure 17 = .ok (.ireturn, 1) := by decide +kernel
theorem dX6_at_0 : decode cX6_at 0 = .ok (.aload_n 0, 1) := by decide +kernel
theorem dX6_at_1 : decode cX6_at 1 = .ok (.ifnull 19, 3) := by decide +kernel
theorem dX6_at_4 : decode cX6_at 4 = .ok (.iload_n 1, 1) := by decide +kernel
theorem dX6_at_5 : decode cX6_at 5 = .ok (.ifCond .lt 15, 3) := by decide +kernel
theorem dX6_at_8 : decode cX6_at 8 = .ok (.iload_n 1, 1) := by decide +kernel
theorem dX6_at_9 : decode cX6_at 9 = .ok (.aload_n 0, 1) := by decide +kernel
theorem dX6_at_10 : decode cX6_at 10 = .ok (.arraylength, 1) := by decide +kernel
theorem dX6_at_11 : decode cX6_at 11 = .ok (.if_icmp .ge 9, 3) := by decide +kernel
theorem dX6_at_14 : decode cX6_at 14 = .ok (.aload_n 0, 1) := by decide +kernel
theorem dX6_at_15 : decode cX6_at 15 = .ok (.iload_n 1, 1) := by decide +kernel
theorem dX6_at_16 : decode cX6_at 16 = .ok (.iaload, 1) := by decide +kernel
theorem dX6_at_17 : decode cX6_at 17 = .ok (.goto 4, 3) := by decide +kernel
theorem dX6_at_20 : decode cX6_at 20 = .ok (.iconst 0, 1) := by decide +kernel
theorem dX6_at_21 : decode cX6_at 21 = .ok (.ireturn, 1) := by decide +kernel
theorem dX6_at__0 : decode cX6_at_ 0 = .ok (.aload_n 0, 1) := by decide +kernel
theorem dX6_at__1 : decode cX6_at_ 1 = .ok (.ifnull 19, 3) := by decide +kernel
theorem dX6_at__4 : decode cX6_at_ 4 = .ok (.iload_n 1, 1) := by decide +kernel
theorem dX6_at__5 : decode cX6_at_ 5 = .ok (.ifCond .lt 15, 3) := by decide +kernel
theorem dX6_at__8 : decode cX6_at_ 8 = .ok (.iload_n 1, 1) := by decide +kernel
theorem dX6_at__9 : decode cX6_at_ 9 = .ok (.aload_n 0, 1) := by decide +kernel
theorem dX6_at__10 : decode cX6_at_ 10 = .ok (.arraylength, 1) := by decide +kernel
theorem dX6_at__11 : decode cX6_at_ 11 = .ok (.if_icmp .ge 9, 3) := by decide +kernel
theorem dX6_at__14 : decode cX6_at_ 14 = .ok (.aload_n 0, 1) := by decide +kernel
theorem dX6_at__15 : decode cX6_at_ 15 = .ok (.iload_n 1, 1) := by decide +kernel
theorem dX6_at__16 : decode cX6_at_ 16 = .ok (.laload, 1) := by decide +kernel
theorem dX6_at__17 : decode cX6_at_ 17 = .ok (.goto 4, 3) := by decide +kernel
theorem dX6_at__20 : decode cX6_at_ 20 = .ok (.lconst 0, 1) := by decide +kernel
theorem dX6_at__21 : decode cX6_at_ 21 = .ok (.lreturn, 1) := by decide +kernel
theorem dX6_put_0 : decode cX6_put 0 = .ok (.aload_n 0, 1) := by decide +kernel
theorem dX6_put_1 : decode cX6_put 1 = .ok (.ifnull 17, 3) := by decide +kernel
theorem dX6_put_4 : decode cX6_put 4 = .ok (.iload_n 1, 1) := by decide +kernel
theorem dX6_put_5 : decode cX6_put 5 = .ok (.ifCond .lt 13, 3) := by decide +kernel
theorem dX6_put_8 : decode cX6_put 8 = .ok (.iload_n 1, 1) := by decide +kernel
theorem dX6_put_9 : decode cX6_put 9 = .ok (.aload_n 0, 1) := by decide +kernel
theorem dX6_put_10 : decode cX6_put 10 = .ok (.arraylength, 1) := by decide +kernel
theorem dX6_put_11 : decode cX6_put 11 = .ok (.if_icmp .ge 7, 3) := by decide +kernel
theorem dX6_put_14 : decode cX6_put 14 = .ok (.aload_n 0, 1) := by decide +kernel
theorem dX6_put_15 : decode cX6_put 15 = .ok (.iload_n 1, 1) := by decide +kernel
theorem dX6_put_16 : decode cX6_put 16 = .ok (.iload_n 2, 1) := by decide +kernel
theorem dX6_put_17 : decode cX6_put 17 = .ok (.iastore, 1) := by decide +kernel
theorem dX6_put_18 : decode cX6_put 18 = .ok (.return_, 1) := by decide +kernel
theorem dX6_put__0 : decode cX6_put_ 0 = .ok (.aload_n 0, 1) := by decide +kernel
theorem dX6_put__1 : decode cX6_put_ 1 = .ok (.ifnull 17, 3) := by decide +kernel
theorem dX6_put__4 : decode cX6_put_ 4 = .ok (.iload_n 1, 1) := by decide +kernel
theorem dX6_put__5 : decode cX6_put_ 5 = .ok (.ifCond .lt 13, 3) := by decide +kernel
theorem dX6_put__8 : decode cX6_put_ 8 = .ok (.iload_n 1, 1) := by decide +kernel
theorem dX6_put__9 : decode cX6_put_ 9 = .ok (.aload_n 0, 1) := by decide +kernel
theorem dX6_put__10 : decode cX6_put_ 10 = .ok (.arraylength, 1) := by decide +kernel
theorem dX6_put__11 : decode cX6_put_ 11 = .ok (.if_icmp .ge 7, 3) := by decide +kernel
theorem dX6_put__14 : decode cX6_put_ 14 = .ok (.aload_n 0, 1) := by decide +kernel
theorem dX6_put__15 : decode cX6_put_ 15 = .ok (.iload_n 1, 1) := by decide +kernel
theorem dX6_put__16 : decode cX6_put_ 16 = .ok (.lload_n 2, 1) := by decide +kernel
theorem dX6_put__17 : decode cX6_put_ 17 = .ok (.lastore, 1) := by decide +kernel
theorem dX6_put__18 : decode cX6_put_ 18 = .ok (.return_, 1) := by decide +kernel
theorem dX6_fill_0 : decode cX6_fill 0 = .ok (.aload_n 0, 1) := by decide +kernel
theorem dX6_fill_1 : decode cX6_fill 1 = .ok (.ifnonnull 4, 3) := by decide +kernel
theorem dX6_fill_4 : decode cX6_fill 4 = .ok (.return_, 1) := by decide +kernel
theorem dX6_fill_5 : decode cX6_fill 5 = .ok (.iconst 0, 1) := by decide +kernel
theorem dX6_fill_6 : decode cX6_fill 6 = .ok (.istore_n 2, 1) := by decide +kernel
theorem dX6_fill_7 : decode cX6_fill 7 = .ok (.iload_n 2, 1) := by decide +kernel
theorem dX6_fill_8 : decode cX6_fill 8 = .ok (.aload_n 0, 1) := by decide +kernel
theorem dX6_fill_9 : decode cX6_fill 9 = .ok (.arraylength, 1) := by decide +kernel
theorem dX6_fill_10 : decode cX6_fill 10 = .ok (.if_icmp .ge 13, 3) := by decide +kernel
theorem dX6_fill_13 : decode cX6_fill 13 = .ok (.aload_n 0, 1) := by decide +kernel
theorem dX6_fill_14 : decode cX6_fill 14 = .ok (.iload_n 2, 1) := by decide +kernel
theorem dX6_fill_15 : decode cX6_fill 15 = .ok (.iload_n 1, 1) := by decide +kernel
theorem dX6_fill_16 : decode cX6_fill 16 = .ok (.iastore, 1) := by decide +kernel
theorem dX6_fill_17 : decode cX6_fill 17 = .ok (.iinc 2 1, 3) := by decide +kernel
theorem dX6_fill_20 : decode cX6_fill 20 = .ok (.goto (-13), 3) := by decide +kernel
theorem dX6_fill_23 : decode cX6_fill 23 = .ok (.return_, 1) := by decide +kernel
theorem dX6_fill__0 : decode cX6_fill_ 0 = .ok (.aload_n 0, 1) := by decide +kernel
theorem dX6_fill__1 : decode cX6_fill_ 1 = .ok (.ifnonnull 4, 3) := by decide +kernel
theorem dX6_fill__4 : decode cX6_fill_ 4 = .ok (.return_, 1) := by decide +kernel
theorem dX6_fill__5 : decode cX6_fill_ 5 = .ok (.iconst 0, 1) := by decide +kernel
theorem dX6_fill__6 : decode cX6_fill_ 6 = .ok (.istore_n 3, 1) := by decide +kernel
theorem dX6_fill__7 : decode cX6_fill_ 7 = .ok (.iload_n 3, 1) := by decide +kernel
theorem dX6_fill__8 : decode cX6_fill_ 8 = .ok (.aload_n 0, 1) := by decide +kernel
theorem dX6_fill__9 : decode cX6_fill_ 9 = .ok (.arraylength, 1) := by decide +kernel
theorem dX6_fill__10 : decode cX6_fill_ 10 = .ok (.if_icmp .ge 13, 3) := by decide +kernel
theorem dX6_fill__13 : decode cX6_fill_ 13 = .ok (.aload_n 0, 1) := by decide +kernel
theorem dX6_fill__14 : decode cX6_fill_ 14 = .ok (.iload_n 3, 1) := by decide +kernel
theorem dX6_fill__15 : decode cX6_fill_ 15 = .ok (.lload_n 1, 1) := by decide +kernel
theorem dX6_fill__16 : decode cX6_fill_ 16 = .ok (.lastore, 1) := by decide +kernel
theorem dX6_fill__17 : decode cX6_fill_ 17 = .ok (.iinc 3 1, 3) := by decide +kernel
theorem dX6_fill__20 : decode cX6_fill_ 20 = .ok (.goto (-13), 3) := by decide +kernel
theorem dX6_fill__23 : decode cX6_fill_ 23 = .ok (.return_, 1) := by decide +kernel
theorem dX6_copy_0 : decode cX6_copy 0 = .ok (.iconst 0, 1) := by decide +kernel
theorem dX6_copy_1 : decode cX6_copy 1 = .ok (.istore_n 3, 1) := by decide +kernel
theorem dX6_copy_2 : decode cX6_copy 2 = .ok (.iload_n 3, 1) := by decide +kernel
theorem dX6_copy_3 : decode cX6_copy 3 = .ok (.iload_n 2, 1) := by decide +kernel
theorem dX6_copy_4 : decode cX6_copy 4 = .ok (.if_icmp .ge 19, 3) := by decide +kernel
theorem dX6_copy_7 : decode cX6_copy 7 = .ok (.aload_n 1, 1) := by decide +kernel
theorem dX6_copy_8 : decode cX6_copy 8 = .ok (.iload_n 3, 1) := by decide +kernel
theorem dX6_copy_9 : decode cX6_copy 9 = .ok (.aload_n 0, 1) := by decide +kernel
theorem dX6_copy_10 : decode cX6_copy 10 = .ok (.iload_n 3, 1) := by decide +kernel
theorem dX6_copy_11 : decode cX6_copy 11 = .ok (.invokestatic 7, 3) := by decide +kernel
theorem dX6_copy_14 : decode cX6_copy 14 = .ok (.invokestatic 13, 3) := by decide +kernel
theorem dX6_copy_17 : decode cX6_copy 17 = .ok (.iinc 3 1, 3) := by decide +kernel
theorem dX6_copy_20 : decode cX6_copy 20 = .ok (.goto (-18), 3) := by decide +kernel
theorem dX6_copy_23 : decode cX6_copy 23 = .ok (.return_, 1) := by decide +kernel
theorem dX6_lowest_0 : decode cX6_lowest 0 = .ok (.lload_n 0, 1) := by decide +kernel
theorem dX6_lowest_1 : decode cX6_lowest 1 = .ok (.lload_n 0, 1) := by decide +kernel
theorem dX6_lowest_2 : decode cX6_lowest 2 = .ok (.lneg, 1) := by decide +kernel
theorem dX6_lowest_3 : decode cX6_lowest 3 = .ok (.land, 1) := by decide +kernel
theorem dX6_lowest_4 : decode cX6_lowest 4 = .ok (.lconst 1, 1) := by decide +kernel
theorem dX6_lowest_5 : decode cX6_lowest 5 = .ok (.lsub, 1) := by decide +kernel
theorem dX6_lowest_6 : decode cX6_lowest 6 = .ok (.invokestatic 17, 3) := by decide +kernel
theorem dX6_lowest_9 : decode cX6_lowest 9 = .ok (.ireturn, 1) := by decide +kernel
theorem dX6_numbered_0 : decode cX6_numbered 0 = .ok (.iload_n 0, 1) := by decide +kernel
theorem dX6_numbered_1 : decode cX6_numbered 1 = .ok (.istore_n 2, 1) := by decide +kernel
theorem dX6_numbered_2 : decode cX6_numbered 2 = .ok (.iconst 0, 1) := by decide +kernel
theorem dX6_numbered_3 : decode cX6_numbered 3 = .ok (.istore_n 3, 1) := by decide +kernel
theorem dX6_numbered_4 : decode cX6_numbered 4 = .ok (.iload_n 3, 1) := by decide +kernel
theorem dX6_numbered_5 : decode cX6_numbered 5 = .ok (.iload_n 1, 1) := by decide +kernel
theorem dX6_numbered_6 : decode cX6_numbered 6 = .ok (.if_icmp .ge 15, 3) := by decide +kernel
theorem dX6_numbered_9 : decode cX6_numbered 9 = .ok (.iload_n 2, 1) := by decide +kernel
theorem dX6_numbered_10 : decode cX6_numbered 10 = .ok (.iload_n 2, 1) := by decide +kernel
theorem dX6_numbered_11 : decode cX6_numbered 11 = .ok (.iconst 1, 1) := by decide +kernel
theorem dX6_numbered_12 : decode cX6_numbered 12 = .ok (.isub, 1) := by decide +kernel
theorem dX6_numbered_13 : decode cX6_numbered 13 = .ok (.iand, 1) := by decide +kernel
theorem dX6_numbered_14 : decode cX6_numbered 14 = .ok (.istore_n 2, 1) := by decide +kernel
theorem dX6_numbered_15 : decode cX6_numbered 15 = .ok (.iinc 3 1, 3) := by decide +kernel
theorem dX6_numbered_18 : decode cX6_numbered 18 = .ok (.goto (-14), 3) := by decide +kernel
theorem dX6_numbered_21 : decode cX6_numbered 21 = .ok (.iload_n 2, 1) := by decide +kernel
theorem dX6_numbered_22 : decode cX6_numbered 22 = .ok (.i2l, 1) := by decide +kernel
theorem dX6_numbered_23 : decode cX6_numbered 23 = .ok (.invokestatic 23, 3) := by decide +kernel
theorem dX6_numbered_26 : decode cX6_numbered 26 = .ok (.ireturn, 1) := by decide +kernel
theorem dX7_init_0 : decode cX7_init 0 = .ok (.aload_n 0, 1) := by decide +kernel
theorem dX7_init_1 : decode cX7_init 1 = .ok (.invokespecial 3, 3) := by decide +kernel
theorem dX7_init_4 : decode cX7_init 4 = .ok (.aload_n 0, 1) := by decide +kernel
theorem dX7_init_5 : decode cX7_init 5 = .ok (.iconst 4, 1) := by decide +kernel
theorem dX7_init_6 : decode cX7_init 6 = .ok (.newarray .int, 2) := by decide +kernel
theorem dX7_init_8 : decode cX7_init 8 = .ok (.putfield 9, 3) := by decide +kernel
theorem dX7_init_11 : decode cX7_init 11 = .ok (.aload_n 0, 1) := by decide +kernel
theorem dX7_init_12 : decode cX7_init 12 = .ok (.iconst 4, 1) := by decide +kernel
theorem dX7_init_13 : decode cX7_init 13 = .ok (.newarray .int, 2) := by decide +kernel
theorem dX7_init_15 : decode cX7_init 15 = .ok (.putfield 15, 3) := by decide +kernel
theorem dX7_init_18 : decode cX7_init 18 = .ok (.aload_n 0, 1) := by decide +kernel
theorem dX7_init_19 : decode cX7_init 19 = .ok (.new 18, 3) := by decide +kernel
theorem dX7_init_22 : decode cX7_init 22 = .ok (.dup, 1) := by decide +kernel
theorem dX7_init_23 : decode cX7_init 23 = .ok (.invokespecial 20, 3) := by decide +kernel
theorem dX7_init_26 : decode cX7_init 26 = .ok (.putfield 21, 3) := by decide +kernel
theorem dX7_init_29 : decode cX7_init 29 = .ok (.return_, 1) := by decide +kernel
theorem dX7_take_0 : decode cX7_take 0 = .ok (.aload_n 1, 1) := by decide +kernel
theorem dX7_take_1 : decode cX7_take 1 = .ok (.getfield 9, 3) := by decide +kernel
theorem dX7_take_4 : decode cX7_take 4 = .ok (.aload_n 0, 1) := by decide +kernel
theorem dX7_take_5 : decode cX7_take 5 = .ok (.getfield 9, 3) := by decide +kernel
theorem dX7_take_8 : decode cX7_take 8 = .ok (.iconst 4, 1) := by decide +kernel
theorem dX7_take_9 : decode cX7_take 9 = .ok (.invokestatic 25, 3) := by decide +kernel
theorem dX7_take_12 : decode cX7_take 12 = .ok (.aload_n 1, 1) := by decide +kernel
theorem dX7_take_13 : decode cX7_take 13 = .ok (.getfield 15, 3) := by decide +kernel
theorem dX7_take_16 : decode cX7_take 16 = .ok (.aload_n 0, 1) := by decide +kernel
theorem dX7_take_17 : decode cX7_take 17 = .ok (.getfield 15, 3) := by decide +kernel
theorem dX7_take_20 : decode cX7_take 20 = .ok (.iconst 4, 1) := by decide +kernel
theorem dX7_take_21 : decode cX7_take 21 = .ok (.invokestatic 25, 3) := by decide +kernel
theorem dX7_take_24 : decode cX7_take 24 = .ok (.aload_n 0, 1) := by decide +kernel
theorem dX7_take_25 : decode cX7_take 25 = .ok (.getfield 21, 3) := by decide +kernel
theorem dX7_take_28 : decode cX7_take 28 = .ok (.aload_n 1, 1) := by decide +kernel
theorem dX7_take_29 : decode cX7_take 29 = .ok (.getfield 21, 3) := by decide +kernel
theorem dX7_take_32 : decode cX7_take 32 = .ok (.invokevirtual 31, 3) := by decide +kernel
theorem dX7_take_35 : decode cX7_take 35 = .ok (.aload_n 0, 1) := by decide +kernel
theorem dX7_take_36 : decode cX7_take 36 = .ok (.aload_n 1, 1) := by decide +kernel
theorem dX7_take_37 : decode cX7_take 37 = .ok (.getfield 35, 3) := by decide +kernel
theorem dX7_take_40 : decode cX7_take 40 = .ok (.putfield 35, 3) := by decide +kernel
theorem dX7_take_43 : decode cX7_take 43 = .ok (.aload_n 0, 1) := by decide +kernel
theorem dX7_take_44 : decode cX7_take 44 = .ok (.aload_n 1, 1) := by decide +kernel
theorem dX7_take_45 : decode cX7_take 45 = .ok (.getfield 39, 3) := by decide +kernel
theorem dX7_take_48 : decode cX7_take 48 = .ok (.putfield 39, 3) := by decide +kernel
theorem dX7_take_51 : decode cX7_take 51 = .ok (.aload_n 0, 1) := by decide +kernel
theorem dX7_take_52 : decode cX7_take 52 = .ok (.aload_n 1, 1) := by decide +kernel
theorem dX7_take_53 : decode cX7_take 53 = .ok (.getfield 42, 3) := by decide +kernel
theorem dX7_take_56 : decode cX7_take 56 = .ok (.putfield 42, 3) := by decide +kernel
theorem dX7_take_59 : decode cX7_take 59 = .ok (.return_, 1) := by decide +kernel
theorem dX8_init_0 : decode cX8_init 0 = .ok (.aload_n 0, 1) := by decide +kernel
theorem dX8_init_1 : decode cX8_init 1 = .ok (.invokespecial 3, 3) := by decide +kernel
theorem dX8_init_4 : decode cX8_init 4 = .ok (.aload_n 0, 1) := by decide +kernel
theorem dX8_init_5 : decode cX8_init 5 = .ok (.bipush 16, 2) := by decide +kernel
theorem dX8_init_7 : decode cX8_init 7 = .ok (.newarray .int, 2) := by decide +kernel
theorem dX8_init_9 : decode cX8_init 9 = .ok (.putfield 9, 3) := by decide +kernel
theorem dX8_init_12 : decode cX8_init 12 = .ok (.aload_n 0, 1) := by decide +kernel
theorem dX8_init_13 : decode cX8_init 13 = .ok (.bipush 40, 2) := by decide +kernel
theorem dX8_init_15 : decode cX8_init 15 = .ok (.newarray .int, 2) := by decide +kernel
theorem dX8_init_17 : decode cX8_init 17 = .ok (.putfield 15, 3) := by decide +kernel
theorem dX8_init_20 : decode cX8_init 20 = .ok (.aload_n 0, 1) := by decide +kernel
theorem dX8_init_21 : decode cX8_init 21 = .ok (.bipush 40, 2) := by decide +kernel
theorem dX8_init_23 : decode cX8_init 23 = .ok (.newarray .int, 2) := by decide +kernel
theorem dX8_init_25 : decode cX8_init 25 = .ok (.putfield 18, 3) := by decide +kernel
theorem dX8_init_28 : decode cX8_init 28 = .ok (.aload_n 0, 1) := by decide +kernel
theorem dX8_init_29 : decode cX8_init 29 = .ok (.iconst 4, 1) := by decide +kernel
theorem dX8_init_30 : decode cX8_init 30 = .ok (.newarray .int, 2) := by decide +kernel
theorem dX8_init_32 : decode cX8_init 32 = .ok (.putfield 21, 3) := by decide +kernel
theorem dX8_init_35 : decode cX8_init 35 = .ok (.aload_n 0, 1) := by decide +kernel
theorem dX8_init_36 : decode cX8_init 36 = .ok (.iconst 4, 1) := by decide +kernel
theorem dX8_init_37 : decode cX8_init 37 = .ok (.newarray .int, 2) := by decide +kernel
theorem dX8_init_39 : decode cX8_init 39 = .ok (.putfield 24, 3) := by decide +kernel
theorem dX8_init_42 : decode cX8_init 42 = .ok (.aload_n 0, 1) := by decide +kernel
theorem dX8_init_43 : decode cX8_init 43 = .ok (.new 27, 3) := by decide +kernel
theorem dX8_init_46 : decode cX8_init 46 = .ok (.dup, 1) := by decide +kernel
theorem dX8_init_47 : decode cX8_init 47 = .ok (.invokespecial 29, 3) := by decide +kernel
theorem dX8_init_50 : decode cX8_init 50 = .ok (.putfield 30, 3) := by decide +kernel
theorem dX8_init_53 : decode cX8_init 53 = .ok (.return_, 1) := by decide +kernel
theorem dX8_empty_0 : decode cX8_empty 0 = .ok (.aload_n 0, 1) := by decide +kernel
theorem dX8_empty_1 : decode cX8_empty 1 = .ok (.iconst 0, 1) := by decide +kernel
theorem dX8_empty_2 : decode cX8_empty 2 = .ok (.putfield 34, 3) := by decide +kernel
theorem dX8_empty_5 : decode cX8_empty 5 = .ok (.aload_n 0, 1) := by decide +kernel
theorem dX8_empty_6 : decode cX8_empty 6 = .ok (.iconst 0, 1) := by decide +kernel
theorem dX8_empty_7 : decode cX8_empty 7 = .ok (.putfield 38, 3) := by decide +kernel
theorem dX8_empty_10 : decode cX8_empty 10 = .ok (.aload_n 0, 1) := by decide +kernel
theorem dX8_empty_11 : decode cX8_empty 11 = .ok (.iconst 0, 1) := by decide +kernel
theorem dX8_empty_12 : decode cX8_empty 12 = .ok (.putfield 41, 3) := by decide +kernel
theorem dX8_empty_15 : decode cX8_empty 15 = .ok (.aload_n 0, 1) := by decide +kernel
theorem dX8_empty_16 : decode cX8_empty 16 = .ok (.getfield 30, 3) := by decide +kernel
theorem dX8_empty_19 : decode cX8_empty 19 = .ok (.invokevirtual 44, 3) := by decide +kernel
theorem dX8_empty_22 : decode cX8_empty 22 = .ok (.return_, 1) := by decide +kernel
theorem dX8_isFullFor_0 : decode cX8_isFullFor 0 = .ok (.iload_n 1, 1) := by decide +kernel
theorem dX8_isFullFor_1 : decode cX8_isFullFor 1 = .ok (.ifCond .ne 12, 3) := by decide +kernel
theorem dX8_isFullFor_4 : decode cX8_isFullFor 4 = .ok (.aload_n 0, 1) := by decide +kernel
theorem dX8_isFullFor_5 : decode cX8_isFullFor 5 = .ok (.getfield 34, 3) := by decide +kernel
theorem dX8_isFullFor_8 : decode cX8_isFullFor 8 = .ok (.bipush 16, 2) := by decide +kernel
theorem dX8_isFullFor_10 : decode cX8_isFullFor 10 = .ok (.if_icmp .ge 30, 3) := by decide +kernel
theorem dX8_isFullFor_13 : decode cX8_isFullFor 13 = .ok (.iload_n 1, 1) := by decide +kernel
theorem dX8_isFullFor_14 : decode cX8_isFullFor 14 = .ok (.iconst 1, 1) := by decide +kernel
theorem dX8_isFullFor_15 : decode cX8_isFullFor 15 = .ok (.if_icmp .ne 12, 3) := by decide +kernel
theorem dX8_isFullFor_18 : decode cX8_isFullFor 18 = .ok (.aload_n 0, 1) := by decide +kernel
theorem dX8_isFullFor_19 : decode cX8_isFullFor 19 = .ok (.getfield 38, 3) := by decide +kernel
theorem dX8_isFullFor_22 : decode cX8_isFullFor 22 = .ok (.bipush 40, 2) := by decide +kernel
theorem dX8_isFullFor_24 : decode cX8_isFullFor 24 = .ok (.if_icmp .ge 16, 3) := by decide +kernel
theorem dX8_isFullFor_27 : decode cX8_isFullFor 27 = .ok (.iload_n 1, 1) := by decide +kernel
theorem dX8_isFullFor_28 : decode cX8_isFullFor 28 = .ok (.iconst 3, 1) := by decide +kernel
theorem dX8_isFullFor_29 : decode cX8_isFullFor 29 = .ok (.if_icmp .ne 15, 3) := by decide +kernel
theorem dX8_isFullFor_32 : decode cX8_isFullFor 32 = .ok (.aload_n 0, 1) := by decide +kernel
theorem dX8_isFullFor_33 : decode cX8_isFullFor 33 = .ok (.getfield 41, 3) := by decide +kernel
theorem dX8_isFullFor_36 : decode cX8_isFullFor 36 = .ok (.iconst 4, 1) := by decide +kernel
theorem dX8_isFullFor_37 : decode cX8_isFullFor 37 = .ok (.if_icmp .lt 7, 3) := by decide +kernel
theorem dX8_isFullFor_40 : decode cX8_isFullFor 40 = .ok (.iconst 1, 1) := by decide +kernel
theorem dX8_isFullFor_41 : decode cX8_isFullFor 41 = .ok (.goto 4, 3) := by decide +kernel
theorem dX8_isFullFor_44 : decode cX8_isFullFor 44 = .ok (.iconst 0, 1) := by decide +kernel
theorem dX8_isFullFor_45 : decode cX8_isFullFor 45 = .ok (.ireturn, 1) := by decide +kernel
theorem dX8_isToldAlready_0 : decode cX8_isToldAlready 0 = .ok (.iload_n 1, 1) := by decide +kernel
theorem dX8_isToldAlready_1 : decode cX8_isToldAlready 1 = .ok (.iconst 2, 1) := by decide +kernel
theorem dX8_isToldAlready_2 : decode cX8_isToldAlready 2 = .ok (.if_icmp .ne 13, 3) := by decide +kernel
theorem dX8_isToldAlready_5 : decode cX8_isToldAlready 5 = .ok (.aload_n 0, 1) := by decide +kernel
theorem dX8_isToldAlready_6 : decode cX8_isToldAlready 6 = .ok (.getfield 30, 3) := by decide +kernel
theorem dX8_isToldAlready_9 : decode cX8_isToldAlready 9 = .ok (.iload_n 2, 1) := by decide +kernel
theorem dX8_isToldAlready_10 : decode cX8_isToldAlready 10 = .ok (.iload_n 3, 1) := by decide +kernel
theorem dX8_isToldAlready_11 : decode cX8_isToldAlready 11 = .ok (.invokevirtual 47, 3) := by decide +kernel
theorem dX8_isToldAlready_14 : decode cX8_isToldAlready 14 = .ok (.ireturn, 1) := by decide +kernel
theorem dX8_isToldAlready_15 : decode cX8_isToldAlready 15 = .ok (.iload_n 1, 1) := by decide +kernel
theorem dX8_isToldAlready_16 : decode cX8_isToldAlready 16 = .ok (.iconst 1, 1) := by decide +kernel
theorem dX8_isToldAlready_17 : decode cX8_isToldAlready 17 = .ok (.if_icmp .ne 19, 3) := by decide +kernel
theorem dX8_isToldAlready_20 : decode cX8_isToldAlready 20 = .ok (.aload_n 0, 1) := by decide +kernel
theorem dX8_isToldAlready_21 : decode cX8_isToldAlready 21 = .ok (.iload_n 3, 1) := by decide +kernel
theorem dX8_isToldAlready_22 : decode cX8_isToldAlready 22 = .ok (.invokevirtual 51, 3) := by decide +kernel
theorem dX8_isToldAlready_25 : decode cX8_isToldAlready 25 = .ok (.iload_n 2, 1) := by decide +kernel
theorem dX8_isToldAlready_26 : decode cX8_isToldAlready 26 = .ok (.ishr, 1) := by decide +kernel
theorem dX8_isToldAlready_27 : decode cX8_isToldAlready 27 = .ok (.iconst 1, 1) := by decide +kernel
theorem dX8_isToldAlready_28 : decode cX8_isToldAlready 28 = .ok (.iand, 1) := by decide +kernel
theorem dX8_isToldAlready_29 : decode cX8_isToldAlready 29 = .ok (.ifCond .eq 7, 3) := by decide +kernel
theorem dX8_isToldAlready_32 : decode cX8_isToldAlready 32 = .ok (.iconst 1, 1) := by decide +kernel
theorem dX8_isToldAlready_33 : decode cX8_isToldAlready 33 = .ok (.goto 4, 3) := by decide +kernel
theorem dX8_isToldAlready_36 : decode cX8_isToldAlready 36 = .ok (.iconst 0, 1) := by decide +kernel
theorem dX8_isToldAlready_37 : decode cX8_isToldAlready 37 = .ok (.ireturn, 1) := by decide +kernel
theorem dX8_debtorsOf_0 : decode cX8_debtorsOf 0 = .ok (.iconst 0, 1) := by decide +kernel
theorem dX8_debtorsOf_1 : decode cX8_debtorsOf 1 = .ok (.istore_n 2, 1) := by decide +kernel
theorem dX8_debtorsOf_2 : decode cX8_debtorsOf 2 = .ok (.iconst 0, 1) := by decide +kernel
theorem dX8_debtorsOf_3 : decode cX8_debtorsOf 3 = .ok (.istore_n 3, 1) := by decide +kernel
theorem dX8_debtorsOf_4 : decode cX8_debtorsOf 4 = .ok (.iload_n 3, 1) := by decide +kernel
theorem dX8_debtorsOf_5 : decode cX8_debtorsOf 5 = .ok (.aload_n 0, 1) := by decide +kernel
theorem dX8_debtorsOf_6 : decode cX8_debtorsOf 6 = .ok (.getfield 38, 3) := by decide +kernel
theorem dX8_debtorsOf_9 : decode cX8_debtorsOf 9 = .ok (.if_icmp .ge 34, 3) := by decide +kernel
theorem dX8_debtorsOf_12 : decode cX8_debtorsOf 12 = .ok (.aload_n 0, 1) := by decide +kernel
theorem dX8_debtorsOf_13 : decode cX8_debtorsOf 13 = .ok (.getfield 18, 3) := by decide +kernel
theorem dX8_debtorsOf_16 : decode cX8_debtorsOf 16 = .ok (.iload_n 3, 1) := by decide +kernel
theorem dX8_debtorsOf_17 : decode cX8_debtorsOf 17 = .ok (.invokestatic 55, 3) := by decide +kernel
theorem dX8_debtorsOf_20 : decode cX8_debtorsOf 20 = .ok (.iload_n 1, 1) := by decide +kernel
theorem dX8_debtorsOf_21 : decode cX8_debtorsOf 21 = .ok (.if_icmp .ne 16, 3) := by decide +kernel
theorem dX8_debtorsOf_24 : decode cX8_debtorsOf 24 = .ok (.iload_n 2, 1) := by decide +kernel
theorem dX8_debtorsOf_25 : decode cX8_debtorsOf 25 = .ok (.iconst 1, 1) := by decide +kernel
theorem dX8_debtorsOf_26 : decode cX8_debtorsOf 26 = .ok (.aload_n 0, 1) := by decide +kernel
theorem dX8_debtorsOf_27 : decode cX8_debtorsOf 27 = .ok (.getfield 15, 3) := by decide +kernel
theorem dX8_debtorsOf_30 : decode cX8_debtorsOf 30 = .ok (.iload_n 3, 1) := by decide +kernel
theorem dX8_debtorsOf_31 : decode cX8_debtorsOf 31 = .ok (.invokestatic 55, 3) := by decide +kernel
theorem dX8_debtorsOf_34 : decode cX8_debtorsOf 34 = .ok (.ishl, 1) := by decide +kernel
theorem dX8_debtorsOf_35 : decode cX8_debtorsOf 35 = .ok (.ior, 1) := by decide +kernel
theorem dX8_debtorsOf_36 : decode cX8_debtorsOf 36 = .ok (.istore_n 2, 1) := by decide +kernel
theorem dX8_debtorsOf_37 : decode cX8_debtorsOf 37 = .ok (.iinc 3 1, 3) := by decide +kernel
theorem dX8_debtorsOf_40 : decode cX8_debtorsOf 40 = .ok (.goto (-36), 3) := by decide +kernel
theorem dX8_debtorsOf_43 : decode cX8_debtorsOf 43 = .ok (.iload_n 2, 1) := by decide +kernel
theorem dX8_debtorsOf_44 : decode cX8_debtorsOf 44 = .ok (.ireturn, 1) := by decide +kernel
theorem dX8_creditorsOf_0 : decode cX8_creditorsOf 0 = .ok (.iconst 0, 1) := by decide +kernel
theorem dX8_creditorsOf_1 : decode cX8_creditorsOf 1 = .ok (.istore_n 2, 1) := by decide +kernel
theorem dX8_creditorsOf_2 : decode cX8_creditorsOf 2 = .ok (.iconst 0, 1) := by decide +kernel
theorem dX8_creditorsOf_3 : decode cX8_creditorsOf 3 = .ok (.istore_n 3, 1) := by decide +kernel
theorem dX8_creditorsOf_4 : decode cX8_creditorsOf 4 = .ok (.iload_n 3, 1) := by decide +kernel
theorem dX8_creditorsOf_5 : decode cX8_creditorsOf 5 = .ok (.aload_n 0, 1) := by decide +kernel
theorem dX8_creditorsOf_6 : decode cX8_creditorsOf 6 = .ok (.getfield 38, 3) := by decide +kernel
theorem dX8_creditorsOf_9 : decode cX8_creditorsOf 9 = .ok (.if_icmp .ge 34, 3) := by decide +kernel
theorem dX8_creditorsOf_12 : decode cX8_creditorsOf 12 = .ok (.aload_n 0, 1) := by decide +kernel
theorem dX8_creditorsOf_13 : decode cX8_creditorsOf 13 = .ok (.getfield 15, 3) := by decide +kernel
theorem dX8_creditorsOf_16 : decode cX8_creditorsOf 16 = .ok (.iload_n 3, 1) := by decide +kernel
theorem dX8_creditorsOf_17 : decode cX8_creditorsOf 17 = .ok (.invokestatic 55, 3) := by decide +kernel
theorem dX8_creditorsOf_20 : decode cX8_creditorsOf 20 = .ok (.iload_n 1, 1) := by decide +kernel
theorem dX8_creditorsOf_21 : decode cX8_creditorsOf 21 = .ok (.if_icmp .ne 16, 3) := by decide +kernel
theorem dX8_creditorsOf_24 : decode cX8_creditorsOf 24 = .ok (.iload_n 2, 1) := by decide +kernel
theorem dX8_creditorsOf_25 : decode cX8_creditorsOf 25 = .ok (.iconst 1, 1) := by decide +kernel
theorem dX8_creditorsOf_26 : decode cX8_creditorsOf 26 = .ok (.aload_n 0, 1) := by decide +kernel
theorem dX8_creditorsOf_27 : decode cX8_creditorsOf 27 = .ok (.getfield 18, 3) := by decide +kernel
theorem dX8_creditorsOf_30 : decode cX8_creditorsOf 30 = .ok (.iload_n 3, 1) := by decide +kernel
theorem dX8_creditorsOf_31 : decode cX8_creditorsOf 31 = .ok (.invokestatic 55, 3) := by decide +kernel
theorem dX8_creditorsOf_34 : decode cX8_creditorsOf 34 = .ok (.ishl, 1) := by decide +kernel
theorem dX8_creditorsOf_35 : decode cX8_creditorsOf 35 = .ok (.ior, 1) := by decide +kernel
theorem dX8_creditorsOf_36 : decode cX8_creditorsOf 36 = .ok (.istore_n 2, 1) := by decide +kernel
theorem dX8_creditorsOf_37 : decode cX8_creditorsOf 37 = .ok (.iinc 3 1, 3) := by decide +kernel
theorem dX8_creditorsOf_40 : decode cX8_creditorsOf 40 = .ok (.goto (-36), 3) := by decide +kernel
theorem dX8_creditorsOf_43 : decode cX8_creditorsOf 43 = .ok (.iload_n 2, 1) := by decide +kernel
theorem dX8_creditorsOf_44 : decode cX8_creditorsOf 44 = .ok (.ireturn, 1) := by decide +kernel
theorem dX8_addPerson_0 : decode cX8_addPerson 0 = .ok (.aload_n 0, 1) := by decide +kernel
theorem dX8_addPerson_1 : decode cX8_addPerson 1 = .ok (.getfield 9, 3) := by decide +kernel
theorem dX8_addPerson_4 : decode cX8_addPerson 4 = .ok (.aload_n 0, 1) := by decide +kernel
theorem dX8_addPerson_5 : decode cX8_addPerson 5 = .ok (.getfield 34, 3) := by decide +kernel
theorem dX8_addPerson_8 : decode cX8_addPerson 8 = .ok (.iload_n 1, 1) := by decide +kernel
theorem dX8_addPerson_9 : decode cX8_addPerson 9 = .ok (.invokestatic 61, 3) := by decide +kernel
theorem dX8_addPerson_12 : decode cX8_addPerson 12 = .ok (.aload_n 0, 1) := by decide +kernel
theorem dX8_addPerson_13 : decode cX8_addPerson 13 = .ok (.dup, 1) := by decide +kernel
theorem dX8_addPerson_14 : decode cX8_addPerson 14 = .ok (.getfield 34, 3) := by decide +kernel
theorem dX8_addPerson_17 : decode cX8_addPerson 17 = .ok (.iconst 1, 1) := by decide +kernel
theorem dX8_addPerson_18 : decode cX8_addPerson 18 = .ok (.iadd, 1) := by decide +kernel
theorem dX8_addPerson_19 : decode cX8_addPerson 19 = .ok (.putfield 34, 3) := by decide +kernel
theorem dX8_addPerson_22 : decode cX8_addPerson 22 = .ok (.return_, 1) := by decide +kernel
theorem dX8_addPair_0 : decode cX8_addPair 0 = .ok (.iload_n 1, 1) := by decide +kernel
theorem dX8_addPair_1 : decode cX8_addPair 1 = .ok (.iconst 2, 1) := by decide +kernel
theorem dX8_addPair_2 : decode cX8_addPair 2 = .ok (.if_icmp .ne 15, 3) := by decide +kernel
theorem dX8_addPair_5 : decode cX8_addPair 5 = .ok (.aload_n 0, 1) := by decide +kernel
theorem dX8_addPair_6 : decode cX8_addPair 6 = .ok (.getfield 30, 3) := by decide +kernel
theorem dX8_addPair_9 : decode cX8_addPair 9 = .ok (.iload_n 2, 1) := by decide +kernel
theorem dX8_addPair_10 : decode cX8_addPair 10 = .ok (.iload_n 3, 1) := by decide +kernel
theorem dX8_addPair_11 : decode cX8_addPair 11 = .ok (.invokevirtual 65, 3) := by decide +kernel
theorem dX8_addPair_14 : decode cX8_addPair 14 = .ok (.goto 79, 3) := by decide +kernel
theorem dX8_addPair_17 : decode cX8_addPair 17 = .ok (.iload_n 1, 1) := by decide +kernel
theorem dX8_addPair_18 : decode cX8_addPair 18 = .ok (.iconst 1, 1) := by decide +kernel
theorem dX8_addPair_19 : decode cX8_addPair 19 = .ok (.if_icmp .ne 40, 3) := by decide +kernel
theorem dX8_addPair_22 : decode cX8_addPair 22 = .ok (.aload_n 0, 1) := by decide +kernel
theorem dX8_addPair_23 : decode cX8_addPair 23 = .ok (.getfield 15, 3) := by decide +kernel
theorem dX8_addPair_26 : decode cX8_addPair 26 = .ok (.aload_n 0, 1) := by decide +kernel
theorem dX8_addPair_27 : decode cX8_addPair 27 = .ok (.getfield 38, 3) := by decide +kernel
theorem dX8_addPair_30 : decode cX8_addPair 30 = .ok (.iload_n 2, 1) := by decide +kernel
theorem dX8_addPair_31 : decode cX8_addPair 31 = .ok (.invokestatic 61, 3) := by decide +kernel
theorem dX8_addPair_34 : decode cX8_addPair 34 = .ok (.aload_n 0, 1) := by decide +kernel
theorem dX8_addPair_35 : decode cX8_addPair 35 = .ok (.getfield 18, 3) := by decide +kernel
theorem dX8_addPair_38 : decode cX8_addPair 38 = .ok (.aload_n 0, 1) := by decide +kernel
theorem dX8_addPair_39 : decode cX8_addPair 39 = .ok (.getfield 38, 3) := by decide +kernel
theorem dX8_addPair_42 : decode cX8_addPair 42 = .ok (.iload_n 3, 1) := by decide +kernel
theorem dX8_addPair_43 : decode cX8_addPair 43 = .ok (.invokestatic 61, 3) := by decide +kernel
theorem dX8_addPair_46 : decode cX8_addPair 46 = .ok (.aload_n 0, 1) := by decide +kernel
theorem dX8_addPair_47 : decode cX8_addPair 47 = .ok (.dup, 1) := by decide +kernel
theorem dX8_addPair_48 : decode cX8_addPair 48 = .ok (.getfield 38, 3) := by decide +kernel
theorem dX8_addPair_51 : decode cX8_addPair 51 = .ok (.iconst 1, 1) := by decide +kernel
theorem dX8_addPair_52 : decode cX8_addPair 52 = .ok (.iadd, 1) := by decide +kernel
theorem dX8_addPair_53 : decode cX8_addPair 53 = .ok (.putfield 38, 3) := by decide +kernel
theorem dX8_addPair_56 : decode cX8_addPair 56 = .ok (.goto 37, 3) := by decide +kernel
theorem dX8_addPair_59 : decode cX8_addPair 59 = .ok (.aload_n 0, 1) := by decide +kernel
theorem dX8_addPair_60 : decode cX8_addPair 60 = .ok (.getfield 21, 3) := by decide +kernel
theorem dX8_addPair_63 : decode cX8_addPair 63 = .ok (.aload_n 0, 1) := by decide +kernel
theorem dX8_addPair_64 : decode cX8_addPair 64 = .ok (.getfield 41, 3) := by decide +kernel
theorem dX8_addPair_67 : decode cX8_addPair 67 = .ok (.iload_n 2, 1) := by decide +kernel
theorem dX8_addPair_68 : decode cX8_addPair 68 = .ok (.invokestatic 61, 3) := by decide +kernel
theorem dX8_addPair_71 : decode cX8_addPair 71 = .ok (.aload_n 0, 1) := by decide +kernel
theorem dX8_addPair_72 : decode cX8_addPair 72 = .ok (.getfield 24, 3) := by decide +kernel
theorem dX8_addPair_75 : decode cX8_addPair 75 = .ok (.aload_n 0, 1) := by decide +kernel
theorem dX8_addPair_76 : decode cX8_addPair 76 = .ok (.getfield 41, 3) := by decide +kernel
theorem dX8_addPair_79 : decode cX8_addPair 79 = .ok (.iload_n 3, 1) := by decide +kernel
theorem dX8_addPair_80 : decode cX8_addPair 80 = .ok (.invokestatic 61, 3) := by decide +kernel
theorem dX8_addPair_83 : decode cX8_addPair 83 = .ok (.aload_n 0, 1) := by decide +kernel
theorem dX8_addPair_84 : decode cX8_addPair 84 = .ok (.dup, 1) := by decide +kernel
theorem dX8_addPair_85 : decode cX8_addPair 85 = .ok (.getfield 41, 3) := by decide +kernel
theorem dX8_addPair_88 : decode cX8_addPair 88 = .ok (.iconst 1, 1) := by decide +kernel
theorem dX8_addPair_89 : decode cX8_addPair 89 = .ok (.iadd, 1) := by decide +kernel
theorem dX8_addPair_90 : decode cX8_addPair 90 = .ok (.putfield 41, 3) := by decide +kernel
theorem dX8_addPair_93 : decode cX8_addPair 93 = .ok (.return_, 1) := by decide +kernel
theorem dX9_init_0 : decode cX9_init 0 = .ok (.aload_n 0, 1) := by decide +kernel
theorem dX9_init_1 : decode cX9_init 1 = .ok (.invokespecial 3, 3) := by decide +kernel
theorem dX9_init_4 : decode cX9_init 4 = .ok (.aload_n 0, 1) := by decide +kernel
theorem dX9_init_5 : decode cX9_init 5 = .ok (.bipush 56, 2) := by decide +kernel
theorem dX9_init_7 : decode cX9_init 7 = .ok (.newarray .int, 2) := by decide +kernel
theorem dX9_init_9 : decode cX9_init 9 = .ok (.putfield 9, 3) := by decide +kernel
theorem dX9_init_12 : decode cX9_init 12 = .ok (.aload_n 0, 1) := by decide +kernel
theorem dX9_init_13 : decode cX9_init 13 = .ok (.bipush 56, 2) := by decide +kernel
theorem dX9_init_15 : decode cX9_init 15 = .ok (.newarray .int, 2) := by decide +kernel
theorem dX9_init_17 : decode cX9_init 17 = .ok (.putfield 15, 3) := by decide +kernel
theorem dX9_init_20 : decode cX9_init 20 = .ok (.aload_n 0, 1) := by decide +kernel
theorem dX9_init_21 : decode cX9_init 21 = .ok (.bipush 56, 2) := by decide +kernel
theorem dX9_init_23 : decode cX9_init 23 = .ok (.newarray .long, 2) := by decide +kernel
theorem dX9_init_25 : decode cX9_init 25 = .ok (.putfield 18, 3) := by decide +kernel
theorem dX9_init_28 : decode cX9_init 28 = .ok (.aload_n 0, 1) := by decide +kernel
theorem dX9_init_29 : decode cX9_init 29 = .ok (.bipush 56, 2) := by decide +kernel
theorem dX9_init_31 : decode cX9_init 31 = .ok (.newarray .long, 2) := by decide +kernel
theorem dX9_init_33 : decode cX9_init 33 = .ok (.putfield 22, 3) := by decide +kernel
theorem dX9_init_36 : decode cX9_init 36 = .ok (.aload_n 0, 1) := by decide +kernel
theorem dX9_init_37 : decode cX9_init 37 = .ok (.bipush 16, 2) := by decide +kernel
theorem dX9_init_39 : decode cX9_init 39 = .ok (.newarray .long, 2) := by decide +kernel
theorem dX9_init_41 : decode cX9_init 41 = .ok (.putfield 25, 3) := by decide +kernel
theorem dX9_init_44 : decode cX9_init 44 = .ok (.return_, 1) := by decide +kernel
theorem dX9_build_0 : decode cX9_build 0 = .ok (.aload_n 0, 1) := by decide +kernel
theorem dX9_build_1 : decode cX9_build 1 = .ok (.iload_n 3, 1) := by decide +kernel
theorem dX9_build_2 : decode cX9_build 2 = .ok (.putfield 28, 3) := by decide +kernel
theorem dX9_build_5 : decode cX9_build 5 = .ok (.aload_n 0, 1) := by decide +kernel
theorem dX9_build_6 : decode cX9_build 6 = .ok (.getfield 18, 3) := by decide +kernel
theorem dX9_build_9 : decode cX9_build 9 = .ok (.lconst 0, 1) := by decide +kernel
theorem dX9_build_10 : decode cX9_build 10 = .ok (.invokestatic 32, 3) := by decide +kernel
theorem dX9_build_13 : decode cX9_build 13 = .ok (.aload_n 0, 1) := by decide +kernel
theorem dX9_build_14 : decode cX9_build 14 = .ok (.getfield 22, 3) := by decide +kernel
theorem dX9_build_17 : decode cX9_build 17 = .ok (.lconst 0, 1) := by decide +kernel
theorem dX9_build_18 : decode cX9_build 18 = .ok (.invokestatic 32, 3) := by decide +kernel
theorem dX9_build_21 : decode cX9_build 21 = .ok (.aload_n 0, 1) := by decide +kernel
theorem dX9_build_22 : decode cX9_build 22 = .ok (.getfield 25, 3) := by decide +kernel
theorem dX9_build_25 : decode cX9_build 25 = .ok (.lconst 0, 1) := by decide +kernel
theorem dX9_build_26 : decode cX9_build 26 = .ok (.invokestatic 32, 3) := by decide +kernel
theorem dX9_build_29 : decode cX9_build 29 = .ok (.iconst 0, 1) := by decide +kernel
theorem dX9_build_30 : decode cX9_build 30 = .ok (.istore 4, 2) := by decide +kernel
theorem dX9_build_32 : decode cX9_build 32 = .ok (.iload 4, 2) := by decide +kernel
theorem dX9_build_34 : decode cX9_build 34 = .ok (.bipush 16, 2) := by decide +kernel
theorem dX9_build_36 : decode cX9_build 36 = .ok (.if_icmp .ge 18, 3) := by decide +kernel
theorem dX9_build_39 : decode cX9_build 39 = .ok (.aload_n 0, 1) := by decide +kernel
theorem dX9_build_40 : decode cX9_build 40 = .ok (.iload 4, 2) := by decide +kernel
theorem dX9_build_42 : decode cX9_build 42 = .ok (.iload 4, 2) := by decide +kernel
theorem dX9_build_44 : decode cX9_build 44 = .ok (.iconst (-1), 1) := by decide +kernel
theorem dX9_build_45 : decode cX9_build 45 = .ok (.invokevirtual 38, 3) := by decide +kernel
theorem dX9_build_48 : decode cX9_build 48 = .ok (.iinc 4 1, 3) := by decide +kernel
theorem dX9_build_51 : decode cX9_build 51 = .ok (.goto (-19), 3) := by decide +kernel
theorem dX9_build_54 : decode cX9_build 54 = .ok (.iconst 0, 1) := by decide +kernel
theorem dX9_build_55 : decode cX9_build 55 = .ok (.istore 4, 2) := by decide +kernel
theorem dX9_build_57 : decode cX9_build 57 = .ok (.iload 4, 2) := by decide +kernel
theorem dX9_build_59 : decode cX9_build 59 = .ok (.bipush 40, 2) := by decide +kernel
theorem dX9_build_61 : decode cX9_build 61 = .ok (.if_icmp .ge 59, 3) := by decide +kernel
theorem dX9_build_64 : decode cX9_build 64 = .ok (.iload 4, 2) := by decide +kernel
theorem dX9_build_66 : decode cX9_build 66 = .ok (.aload_n 1, 1) := by decide +kernel
theorem dX9_build_67 : decode cX9_build 67 = .ok (.getfield 42, 3) := by decide +kernel
theorem dX9_build_70 : decode cX9_build 70 = .ok (.if_icmp .ge 33, 3) := by decide +kernel
theorem dX9_build_73 : decode cX9_build 73 = .ok (.aload_n 0, 1) := by decide +kernel
theorem dX9_build_74 : decode cX9_build 74 = .ok (.bipush 16, 2) := by decide +kernel
theorem dX9_build_76 : decode cX9_build 76 = .ok (.iload 4, 2) := by decide +kernel
theorem dX9_build_78 : decode cX9_build 78 = .ok (.iadd, 1) := by decide +kernel
theorem dX9_build_79 : decode cX9_build 79 = .ok (.aload_n 1, 1) := by decide +kernel
theorem dX9_build_80 : decode cX9_build 80 = .ok (.getfield 48, 3) := by decide +kernel
theorem dX9_build_83 : decode cX9_build 83 = .ok (.iload 4, 2) := by decide +kernel
theorem dX9_build_85 : decode cX9_build 85 = .ok (.invokestatic 51, 3) := by decide +kernel
theorem dX9_build_88 : decode cX9_build 88 = .ok (.aload_n 1, 1) := by decide +kernel
theorem dX9_build_89 : decode cX9_build 89 = .ok (.getfield 55, 3) := by decide +kernel
theorem dX9_build_92 : decode cX9_build 92 = .ok (.iload 4, 2) := by decide +kernel
theorem dX9_build_94 : decode cX9_build 94 = .ok (.invokestatic 51, 3) := by decide +kernel
theorem dX9_build_97 : decode cX9_build 97 = .ok (.invokevirtual 38, 3) := by decide +kernel
theorem dX9_build_100 : decode cX9_build 100 = .ok (.goto 14, 3) := by decide +kernel
theorem dX9_build_103 : decode cX9_build 103 = .ok (.aload_n 0, 1) := by decide +kernel
theorem dX9_build_104 : decode cX9_build 104 = .ok (.bipush 16, 2) := by decide +kernel
theorem dX9_build_106 : decode cX9_build 106 = .ok (.iload 4, 2) := by decide +kernel
theorem dX9_build_108 : decode cX9_build 108 = .ok (.iadd, 1) := by decide +kernel
theorem dX9_build_109 : decode cX9_build 109 = .ok (.iconst (-1), 1) := by decide +kernel
theorem dX9_build_110 : decode cX9_build 110 = .ok (.iconst (-1), 1) := by decide +kernel
theorem dX9_build_111 : decode cX9_build 111 = .ok (.invokevirtual 38, 3) := by decide +kernel
theorem dX9_build_114 : decode cX9_build 114 = .ok (.iinc 4 1, 3) := by decide +kernel
theorem dX9_build_117 : decode cX9_build 117 = .ok (.goto (-60), 3) := by decide +kernel
theorem dX9_build_120 : decode cX9_build 120 = .ok (.iconst 0, 1) := by decide +kernel
theorem dX9_build_121 : decode cX9_build 121 = .ok (.istore 4, 2) := by decide +kernel
theorem dX9_build_123 : decode cX9_build 123 = .ok (.iload 4, 2) := by decide +kernel
theorem dX9_build_125 : decode cX9_build 125 = .ok (.aload_n 1, 1) := by decide +kernel
theorem dX9_build_126 : decode cX9_build 126 = .ok (.getfield 42, 3) := by decide +kernel
theorem dX9_build_129 : decode cX9_build 129 = .ok (.if_icmp .ge 58, 3) := by decide +kernel
theorem dX9_build_132 : decode cX9_build 132 = .ok (.aload_n 1, 1) := by decide +kernel
theorem dX9_build_133 : decode cX9_build 133 = .ok (.getfield 58, 3) := by decide +kernel
theorem dX9_build_136 : decode cX9_build 136 = .ok (.aload_n 1, 1) := by decide +kernel
theorem dX9_build_137 : decode cX9_build 137 = .ok (.getfield 48, 3) := by decide +kernel
theorem dX9_build_140 : decode cX9_build 140 = .ok (.iload 4, 2) := by decide +kernel
theorem dX9_build_142 : decode cX9_build 142 = .ok (.invokestatic 51, 3) := by decide +kernel
theorem dX9_build_145 : decode cX9_build 145 = .ok (.invokestatic 51, 3) := by decide +kernel
theorem dX9_build_148 : decode cX9_build 148 = .ok (.istore 5, 2) := by decide +kernel
theorem dX9_build_150 : decode cX9_build 150 = .ok (.iload_n 2, 1) := by decide +kernel
theorem dX9_build_151 : decode cX9_build 151 = .ok (.aload_n 1, 1) := by decide +kernel
theorem dX9_build_152 : decode cX9_build 152 = .ok (.getfield 58, 3) := by decide +kernel
theorem dX9_build_155 : decode cX9_build 155 = .ok (.aload_n 1, 1) := by decide +kernel
theorem dX9_build_156 : decode cX9_build 156 = .ok (.getfield 55, 3) := by decide +kernel
theorem dX9_build_159 : decode cX9_build 159 = .ok (.iload 4, 2) := by decide +kernel
theorem dX9_build_161 : decode cX9_build 161 = .ok (.invokestatic 51, 3) := by decide +kernel
theorem dX9_build_164 : decode cX9_build 164 = .ok (.invokestatic 51, 3) := by decide +kernel
theorem dX9_build_167 : decode cX9_build 167 = .ok (.iload 5, 2) := by decide +kernel
theorem dX9_build_169 : decode cX9_build 169 = .ok (.invokestatic 61, 3) := by decide +kernel
theorem dX9_build_172 : decode cX9_build 172 = .ok (.ifCond .eq 9, 3) := by decide +kernel
theorem dX9_build_175 : decode cX9_build 175 = .ok (.aload_n 0, 1) := by decide +kernel
theorem dX9_build_176 : decode cX9_build 176 = .ok (.iload 4, 2) := by decide +kernel
theorem dX9_build_178 : decode cX9_build 178 = .ok (.invokevirtual 65, 3) := by decide +kernel
theorem dX9_build_181 : decode cX9_build 181 = .ok (.iinc 4 1, 3) := by decide +kernel
theorem dX9_build_184 : decode cX9_build 184 = .ok (.goto (-61), 3) := by decide +kernel
theorem dX9_build_187 : decode cX9_build 187 = .ok (.return_, 1) := by decide +kernel
theorem dX9_byTurn_0 : decode cX9_byTurn 0 = .ok (.aload_n 0, 1) := by decide +kernel
theorem dX9_byTurn_1 : decode cX9_byTurn 1 = .ok (.getfield 28, 3) := by decide +kernel
theorem dX9_byTurn_4 : decode cX9_byTurn 4 = .ok (.ifCond .eq 10, 3) := by decide +kernel
theorem dX9_byTurn_7 : decode cX9_byTurn 7 = .ok (.bipush 16, 2) := by decide +kernel
theorem dX9_byTurn_9 : decode cX9_byTurn 9 = .ok (.iload_n 1, 1) := by decide +kernel
theorem dX9_byTurn_10 : decode cX9_byTurn 10 = .ok (.iadd, 1) := by decide +kernel
theorem dX9_byTurn_11 : decode cX9_byTurn 11 = .ok (.goto 14, 3) := by decide +kernel
theorem dX9_byTurn_14 : decode cX9_byTurn 14 = .ok (.aload_n 0, 1) := by decide +kernel
theorem dX9_byTurn_15 : decode cX9_byTurn 15 = .ok (.getfield 9, 3) := by decide +kernel
theorem dX9_byTurn_18 : decode cX9_byTurn 18 = .ok (.bipush 16, 2) := by decide +kernel
theorem dX9_byTurn_20 : decode cX9_byTurn 20 = .ok (.iload_n 1, 1) := by decide +kernel
theorem dX9_byTurn_21 : decode cX9_byTurn 21 = .ok (.iadd, 1) := by decide +kernel
theorem dX9_byTurn_22 : decode cX9_byTurn 22 = .ok (.invokestatic 51, 3) := by decide +kernel
theorem dX9_byTurn_25 : decode cX9_byTurn 25 = .ok (.ireturn, 1) := by decide +kernel
theorem dX9_leadsBy_0 : decode cX9_leadsBy 0 = .ok (.aload_n 0, 1) := by decide +kernel
theorem dX9_leadsBy_1 : decode cX9_leadsBy 1 = .ok (.getfield 9, 3) := by decide +kernel
theorem dX9_leadsBy_4 : decode cX9_leadsBy 4 = .ok (.iload_n 1, 1) := by decide +kernel
theorem dX9_leadsBy_5 : decode cX9_leadsBy 5 = .ok (.invokestatic 51, 3) := by decide +kernel
theorem dX9_leadsBy_8 : decode cX9_leadsBy 8 = .ok (.aload_n 0, 1) := by decide +kernel
theorem dX9_leadsBy_9 : decode cX9_leadsBy 9 = .ok (.getfield 15, 3) := by decide +kernel
theorem dX9_leadsBy_12 : decode cX9_leadsBy 12 = .ok (.bipush 16, 2) := by decide +kernel
theorem dX9_leadsBy_14 : decode cX9_leadsBy 14 = .ok (.iload_n 2, 1) := by decide +kernel
theorem dX9_leadsBy_15 : decode cX9_leadsBy 15 = .ok (.iadd, 1) := by decide +kernel
theorem dX9_leadsBy_16 : decode cX9_leadsBy 16 = .ok (.invokestatic 51, 3) := by decide +kernel
theorem dX9_leadsBy_19 : decode cX9_leadsBy 19 = .ok (.if_icmp .eq 5, 3) := by decide +kernel
theorem dX9_leadsBy_22 : decode cX9_leadsBy 22 = .ok (.iconst 0, 1) := by decide +kernel
theorem dX9_leadsBy_23 : decode cX9_leadsBy 23 = .ok (.ireturn, 1) := by decide +kernel
theorem dX9_leadsBy_24 : decode cX9_leadsBy 24 = .ok (.aload_n 0, 1) := by decide +kernel
theorem dX9_leadsBy_25 : decode cX9_leadsBy 25 = .ok (.getfield 18, 3) := by decide +kernel
theorem dX9_leadsBy_28 : decode cX9_leadsBy 28 = .ok (.iload_n 1, 1) := by decide +kernel
theorem dX9_leadsBy_29 : decode cX9_leadsBy 29 = .ok (.invokestatic 69, 3) := by decide +kernel
theorem dX9_leadsBy_32 : decode cX9_leadsBy 32 = .ok (.aload_n 0, 1) := by decide +kernel
theorem dX9_leadsBy_33 : decode cX9_leadsBy 33 = .ok (.iload_n 2, 1) := by decide +kernel
theorem dX9_leadsBy_34 : decode cX9_leadsBy 34 = .ok (.invokevirtual 72, 3) := by decide +kernel
theorem dX9_leadsBy_37 : decode cX9_leadsBy 37 = .ok (.lshr, 1) := by decide +kernel
theorem dX9_leadsBy_38 : decode cX9_leadsBy 38 = .ok (.lconst 1, 1) := by decide +kernel
theorem dX9_leadsBy_39 : decode cX9_leadsBy 39 = .ok (.land, 1) := by decide +kernel
theorem dX9_leadsBy_40 : decode cX9_leadsBy 40 = .ok (.lconst 0, 1) := by decide +kernel
theorem dX9_leadsBy_41 : decode cX9_leadsBy 41 = .ok (.lcmp, 1) := by decide +kernel
theorem dX9_leadsBy_42 : decode cX9_leadsBy 42 = .ok (.ifCond .eq 7, 3) := by decide +kernel
theorem dX9_leadsBy_45 : decode cX9_leadsBy 45 = .ok (.iconst 1, 1) := by decide +kernel
theorem dX9_leadsBy_46 : decode cX9_leadsBy 46 = .ok (.goto 4, 3) := by decide +kernel
theorem dX9_leadsBy_49 : decode cX9_leadsBy 49 = .ok (.iconst 0, 1) := by decide +kernel
theorem dX9_leadsBy_50 : decode cX9_leadsBy 50 = .ok (.ireturn, 1) := by decide +kernel
theorem dX9_setSpot_0 : decode cX9_setSpot 0 = .ok (.aload_n 0, 1) := by decide +kernel
theorem dX9_setSpot_1 : decode cX9_setSpot 1 = .ok (.getfield 9, 3) := by decide +kernel
theorem dX9_setSpot_4 : decode cX9_setSpot 4 = .ok (.iload_n 1, 1) := by decide +kernel
theorem dX9_setSpot_5 : decode cX9_setSpot 5 = .ok (.iload_n 2, 1) := by decide +kernel
theorem dX9_setSpot_6 : decode cX9_setSpot 6 = .ok (.invokestatic 76, 3) := by decide +kernel
theorem dX9_setSpot_9 : decode cX9_setSpot 9 = .ok (.aload_n 0, 1) := by decide +kernel
theorem dX9_setSpot_10 : decode cX9_setSpot 10 = .ok (.getfield 15, 3) := by decide +kernel
theorem dX9_setSpot_13 : decode cX9_setSpot 13 = .ok (.iload_n 1, 1) := by decide +kernel
theorem dX9_setSpot_14 : decode cX9_setSpot 14 = .ok (.iload_n 3, 1) := by decide +kernel
theorem dX9_setSpot_15 : decode cX9_setSpot 15 = .ok (.invokestatic 76, 3) := by decide +kernel
theorem dX9_setSpot_18 : decode cX9_setSpot 18 = .ok (.iload_n 2, 1) := by decide +kernel
theorem dX9_setSpot_19 : decode cX9_setSpot 19 = .ok (.iconst (-1), 1) := by decide +kernel
theorem dX9_setSpot_20 : decode cX9_setSpot 20 = .ok (.if_icmp .eq 23, 3) := by decide +kernel
theorem dX9_setSpot_23 : decode cX9_setSpot 23 = .ok (.aload_n 0, 1) := by decide +kernel
theorem dX9_setSpot_24 : decode cX9_setSpot 24 = .ok (.getfield 25, 3) := by decide +kernel
theorem dX9_setSpot_27 : decode cX9_setSpot 27 = .ok (.iload_n 2, 1) := by decide +kernel
theorem dX9_setSpot_28 : decode cX9_setSpot 28 = .ok (.aload_n 0, 1) := by decide +kernel
theorem dX9_setSpot_29 : decode cX9_setSpot 29 = .ok (.getfield 25, 3) := by decide +kernel
theorem dX9_setSpot_32 : decode cX9_setSpot 32 = .ok (.iload_n 2, 1) := by decide +kernel
theorem dX9_setSpot_33 : decode cX9_setSpot 33 = .ok (.invokestatic 69, 3) := by decide +kernel
theorem dX9_setSpot_36 : decode cX9_setSpot 36 = .ok (.lconst 1, 1) := by decide +kernel
theorem dX9_setSpot_37 : decode cX9_setSpot 37 = .ok (.iload_n 1, 1) := by decide +kernel
theorem dX9_setSpot_38 : decode cX9_setSpot 38 = .ok (.lshl, 1) := by decide +kernel
theorem dX9_setSpot_39 : decode cX9_setSpot 39 = .ok (.lor, 1) := by decide +kernel
theorem dX9_setSpot_40 : decode cX9_setSpot 40 = .ok (.invokestatic 80, 3) := by decide +kernel
theorem dX9_setSpot_43 : decode cX9_setSpot 43 = .ok (.return_, 1) := by decide +kernel
theorem dX9_isAllowed_0 : decode cX9_isAllowed 0 = .ok (.iload_n 0, 1) := by decide +kernel
theorem dX9_isAllowed_1 : decode cX9_isAllowed 1 = .ok (.tableswitch 53 0 2 #[27, 40, 51], 27) := by decide +kernel
theorem dX9_isAllowed_28 : decode cX9_isAllowed 28 = .ok (.iload_n 2, 1) := by decide +kernel
theorem dX9_isAllowed_29 : decode cX9_isAllowed 29 = .ok (.iload_n 1, 1) := by decide +kernel
theorem dX9_isAllowed_30 : decode cX9_isAllowed 30 = .ok (.iconst 1, 1) := by decide +kernel
theorem dX9_isAllowed_31 : decode cX9_isAllowed 31 = .ok (.isub, 1) := by decide +kernel
theorem dX9_isAllowed_32 : decode cX9_isAllowed 32 = .ok (.if_icmp .ne 7, 3) := by decide +kernel
theorem dX9_isAllowed_35 : decode cX9_isAllowed 35 = .ok (.iconst 1, 1) := by decide +kernel
theorem dX9_isAllowed_36 : decode cX9_isAllowed 36 = .ok (.goto 4, 3) := by decide +kernel
theorem dX9_isAllowed_39 : decode cX9_isAllowed 39 = .ok (.iconst 0, 1) := by decide +kernel
theorem dX9_isAllowed_40 : decode cX9_isAllowed 40 = .ok (.ireturn, 1) := by decide +kernel
theorem dX9_isAllowed_41 : decode cX9_isAllowed 41 = .ok (.iload_n 2, 1) := by decide +kernel
theorem dX9_isAllowed_42 : decode cX9_isAllowed 42 = .ok (.iload_n 1, 1) := by decide +kernel
theorem dX9_isAllowed_43 : decode cX9_isAllowed 43 = .ok (.if_icmp .ge 7, 3) := by decide +kernel
theorem dX9_isAllowed_46 : decode cX9_isAllowed 46 = .ok (.iconst 1, 1) := by decide +kernel
theorem dX9_isAllowed_47 : decode cX9_isAllowed 47 = .ok (.goto 4, 3) := by decide +kernel
theorem dX9_isAllowed_50 : decode cX9_isAllowed 50 = .ok (.iconst 0, 1) := by decide +kernel
theorem dX9_isAllowed_51 : decode cX9_isAllowed 51 = .ok (.ireturn, 1) := by decide +kernel
theorem dX9_isAllowed_52 : decode cX9_isAllowed 52 = .ok (.iconst 1, 1) := by decide +kernel
theorem dX9_isAllowed_53 : decode cX9_isAllowed 53 = .ok (.ireturn, 1) := by decide +kernel
theorem dX9_isAllowed_54 : decode cX9_isAllowed 54 = .ok (.iload_n 2, 1) := by decide +kernel
theorem dX9_isAllowed_55 : decode cX9_isAllowed 55 = .ok (.iload_n 1, 1) := by decide +kernel
theorem dX9_isAllowed_56 : decode cX9_isAllowed 56 = .ok (.iconst 1, 1) := by decide +kernel
theorem dX9_isAllowed_57 : decode cX9_isAllowed 57 = .ok (.iadd, 1) := by decide +kernel
theorem dX9_isAllowed_58 : decode cX9_isAllowed 58 = .ok (.if_icmp .ne 7, 3) := by decide +kernel
theorem dX9_isAllowed_61 : decode cX9_isAllowed 61 = .ok (.iconst 1, 1) := by decide +kernel
theorem dX9_isAllowed_62 : decode cX9_isAllowed 62 = .ok (.goto 4, 3) := by decide +kernel
theorem dX9_isAllowed_65 : decode cX9_isAllowed 65 = .ok (.iconst 0, 1) := by decide +kernel
theorem dX9_isAllowed_66 : decode cX9_isAllowed 66 = .ok (.ireturn, 1) := by decide +kernel
theorem dX9_join_0 : decode cX9_join 0 = .ok (.aload_n 0, 1) := by decide +kernel
theorem dX9_join_1 : decode cX9_join 1 = .ok (.getfield 9, 3) := by decide +kernel
theorem dX9_join_4 : decode cX9_join 4 = .ok (.bipush 16, 2) := by decide +kernel
theorem dX9_join_6 : decode cX9_join 6 = .ok (.iload_n 1, 1) := by decide +kernel
theorem dX9_join_7 : decode cX9_join 7 = .ok (.iadd, 1) := by decide +kernel
theorem dX9_join_8 : decode cX9_join 8 = .ok (.invokestatic 51, 3) := by decide +kernel
theorem dX9_join_11 : decode cX9_join 11 = .ok (.istore_n 2, 1) := by decide +kernel
theorem dX9_join_12 : decode cX9_join 12 = .ok (.aload_n 0, 1) := by decide +kernel
theorem dX9_join_13 : decode cX9_join 13 = .ok (.getfield 15, 3) := by decide +kernel
theorem dX9_join_16 : decode cX9_join 16 = .ok (.bipush 16, 2) := by decide +kernel
theorem dX9_join_18 : decode cX9_join 18 = .ok (.iload_n 1, 1) := by decide +kernel
theorem dX9_join_19 : decode cX9_join 19 = .ok (.iadd, 1) := by decide +kernel
theorem dX9_join_20 : decode cX9_join 20 = .ok (.invokestatic 51, 3) := by decide +kernel
theorem dX9_join_23 : decode cX9_join 23 = .ok (.istore_n 3, 1) := by decide +kernel
theorem dX9_join_24 : decode cX9_join 24 = .ok (.aload_n 0, 1) := by decide +kernel
theorem dX9_join_25 : decode cX9_join 25 = .ok (.iload_n 1, 1) := by decide +kernel
theorem dX9_join_26 : decode cX9_join 26 = .ok (.invokevirtual 72, 3) := by decide +kernel
theorem dX9_join_29 : decode cX9_join 29 = .ok (.istore 4, 2) := by decide +kernel
theorem dX9_join_31 : decode cX9_join 31 = .ok (.aload_n 0, 1) := by decide +kernel
theorem dX9_join_32 : decode cX9_join 32 = .ok (.getfield 28, 3) := by decide +kernel
theorem dX9_join_35 : decode cX9_join 35 = .ok (.ifCond .eq 8, 3) := by decide +kernel
theorem dX9_join_38 : decode cX9_join 38 = .ok (.bipush 56, 2) := by decide +kernel
theorem dX9_join_40 : decode cX9_join 40 = .ok (.goto 5, 3) := by decide +kernel
theorem dX9_join_43 : decode cX9_join 43 = .ok (.bipush 16, 2) := by decide +kernel
theorem dX9_join_45 : decode cX9_join 45 = .ok (.istore 5, 2) := by decide +kernel
theorem dX9_join_47 : decode cX9_join 47 = .ok (.iconst 0, 1) := by decide +kernel
theorem dX9_join_48 : decode cX9_join 48 = .ok (.istore 6, 2) := by decide +kernel
theorem dX9_join_50 : decode cX9_join 50 = .ok (.iload 6, 2) := by decide +kernel
theorem dX9_join_52 : decode cX9_join 52 = .ok (.iload 5, 2) := by decide +kernel
theorem dX9_join_54 : decode cX9_join 54 = .ok (.if_icmp .ge 91, 3) := by decide +kernel
theorem dX9_join_57 : decode cX9_join 57 = .ok (.aload_n 0, 1) := by decide +kernel
theorem dX9_join_58 : decode cX9_join 58 = .ok (.getfield 9, 3) := by decide +kernel
theorem dX9_join_61 : decode cX9_join 61 = .ok (.iload 6, 2) := by decide +kernel
theorem dX9_join_63 : decode cX9_join 63 = .ok (.invokestatic 51, 3) := by decide +kernel
theorem dX9_join_66 : decode cX9_join 66 = .ok (.iload_n 3, 1) := by decide +kernel
theorem dX9_join_67 : decode cX9_join 67 = .ok (.if_icmp .ne 72, 3) := by decide +kernel
theorem dX9_join_70 : decode cX9_join 70 = .ok (.aload_n 0, 1) := by decide +kernel
theorem dX9_join_71 : decode cX9_join 71 = .ok (.getfield 28, 3) := by decide +kernel
theorem dX9_join_74 : decode cX9_join 74 = .ok (.ifCond .eq 19, 3) := by decide +kernel
theorem dX9_join_77 : decode cX9_join 77 = .ok (.aload_n 0, 1) := by decide +kernel
theorem dX9_join_78 : decode cX9_join 78 = .ok (.getfield 15, 3) := by decide +kernel
theorem dX9_join_81 : decode cX9_join 81 = .ok (.iload 6, 2) := by decide +kernel
theorem dX9_join_83 : decode cX9_join 83 = .ok (.invokestatic 51, 3) := by decide +kernel
theorem dX9_join_86 : decode cX9_join 86 = .ok (.iload_n 2, 1) := by decide +kernel
theorem dX9_join_87 : decode cX9_join 87 = .ok (.if_icmp .ne 6, 3) := by decide +kernel
theorem dX9_join_90 : decode cX9_join 90 = .ok (.goto 49, 3) := by decide +kernel
theorem dX9_join_93 : decode cX9_join 93 = .ok (.aload_n 0, 1) := by decide +kernel
theorem dX9_join_94 : decode cX9_join 94 = .ok (.getfield 18, 3) := by decide +kernel
theorem dX9_join_97 : decode cX9_join 97 = .ok (.iload 6, 2) := by decide +kernel
theorem dX9_join_99 : decode cX9_join 99 = .ok (.aload_n 0, 1) := by decide +kernel
theorem dX9_join_100 : decode cX9_join 100 = .ok (.getfield 18, 3) := by decide +kernel
theorem dX9_join_103 : decode cX9_join 103 = .ok (.iload 6, 2) := by decide +kernel
theorem dX9_join_105 : decode cX9_join 105 = .ok (.invokestatic 69, 3) := by decide +kernel
theorem dX9_join_108 : decode cX9_join 108 = .ok (.lconst 1, 1) := by decide +kernel
theorem dX9_join_109 : decode cX9_join 109 = .ok (.iload 4, 2) := by decide +kernel
theorem dX9_join_111 : decode cX9_join 111 = .ok (.lshl, 1) := by decide +kernel
theorem dX9_join_112 : decode cX9_join 112 = .ok (.lor, 1) := by decide +kernel
theorem dX9_join_113 : decode cX9_join 113 = .ok (.invokestatic 80, 3) := by decide +kernel
theorem dX9_join_116 : decode cX9_join 116 = .ok (.aload_n 0, 1) := by decide +kernel
theorem dX9_join_117 : decode cX9_join 117 = .ok (.getfield 22, 3) := by decide +kernel
theorem dX9_join_120 : decode cX9_join 120 = .ok (.iload 4, 2) := by decide +kernel
theorem dX9_join_122 : decode cX9_join 122 = .ok (.aload_n 0, 1) := by decide +kernel
theorem dX9_join_123 : decode cX9_join 123 = .ok (.getfield 22, 3) := by decide +kernel
theorem dX9_join_126 : decode cX9_join 126 = .ok (.iload 4, 2) := by decide +kernel
theorem dX9_join_128 : decode cX9_join 128 = .ok (.invokestatic 69, 3) := by decide +kernel
theorem dX9_join_131 : decode cX9_join 131 = .ok (.lconst 1, 1) := by decide +kernel
theorem dX9_join_132 : decode cX9_join 132 = .ok (.iload 6, 2) := by decide +kernel
theorem dX9_join_134 : decode cX9_join 134 = .ok (.lshl, 1) := by decide +kernel
theorem dX9_join_135 : decode cX9_join 135 = .ok (.lor, 1) := by decide +kernel
theorem dX9_join_136 : decode cX9_join 136 = .ok (.invokestatic 80, 3) := by decide +kernel
theorem dX9_join_139 : decode cX9_join 139 = .ok (.iinc 6 1, 3) := by decide +kernel
theorem dX9_join_142 : decode cX9_join 142 = .ok (.goto (-92), 3) := by decide +kernel
theorem dX9_join_145 : decode cX9_join 145 = .ok (.return_, 1) := by decide +kernel
theorem dX10_init_0 : decode cX10_init 0 = .ok (.aload_n 0, 1) := by decide +kernel
theorem dX10_init_1 : decode cX10_init 1 = .ok (.invokespecial 3, 3) := by decide +kernel
theorem dX10_init_4 : decode cX10_init 4 = .ok (.aload_n 0, 1) := by decide +kernel
theorem dX10_init_5 : decode cX10_init 5 = .ok (.new 9, 3) := by decide +kernel
theorem dX10_init_8 : decode cX10_init 8 = .ok (.dup, 1) := by decide +kernel
theorem dX10_init_9 : decode cX10_init 9 = .ok (.invokespecial 11, 3) := by decide +kernel
theorem dX10_init_12 : decode cX10_init 12 = .ok (.putfield 12, 3) := by decide +kernel
theorem dX10_init_15 : decode cX10_init 15 = .ok (.aload_n 0, 1) := by decide +kernel
theorem dX10_init_16 : decode cX10_init 16 = .ok (.new 16, 3) := by decide +kernel
theorem dX10_init_19 : decode cX10_init 19 = .ok (.dup, 1) := by decide +kernel
theorem dX10_init_20 : decode cX10_init 20 = .ok (.invokespecial 18, 3) := by decide +kernel
theorem dX10_init_23 : decode cX10_init 23 = .ok (.putfield 19, 3) := by decide +kernel
theorem dX10_init_26 : decode cX10_init 26 = .ok (.aload_n 0, 1) := by decide +kernel
theorem dX10_init_27 : decode cX10_init 27 = .ok (.new 23, 3) := by decide +kernel
theorem dX10_init_30 : decode cX10_init 30 = .ok (.dup, 1) := by decide +kernel
theorem dX10_init_31 : decode cX10_init 31 = .ok (.invokespecial 25, 3) := by decide +kernel
theorem dX10_init_34 : decode cX10_init 34 = .ok (.putfield 26, 3) := by decide +kernel
theorem dX10_init_37 : decode cX10_init 37 = .ok (.aload_n 0, 1) := by decide +kernel
theorem dX10_init_38 : decode cX10_init 38 = .ok (.new 30, 3) := by decide +kernel
theorem dX10_init_41 : decode cX10_init 41 = .ok (.dup, 1) := by decide +kernel
theorem dX10_init_42 : decode cX10_init 42 = .ok (.invokespecial 32, 3) := by decide +kernel
theorem dX10_init_45 : decode cX10_init 45 = .ok (.putfield 33, 3) := by decide +kernel
theorem dX10_init_48 : decode cX10_init 48 = .ok (.aload_n 0, 1) := by decide +kernel
theorem dX10_init_49 : decode cX10_init 49 = .ok (.new 37, 3) := by decide +kernel
theorem dX10_init_52 : decode cX10_init 52 = .ok (.dup, 1) := by decide +kernel
theorem dX10_init_53 : decode cX10_init 53 = .ok (.invokespecial 39, 3) := by decide +kernel
theorem dX10_init_56 : decode cX10_init 56 = .ok (.putfield 40, 3) := by decide +kernel
theorem dX10_init_59 : decode cX10_init 59 = .ok (.aload_n 0, 1) := by decide +kernel
theorem dX10_init_60 : decode cX10_init 60 = .ok (.new 44, 3) := by decide +kernel
theorem dX10_init_63 : decode cX10_init 63 = .ok (.dup, 1) := by decide +kernel
theorem dX10_init_64 : decode cX10_init 64 = .ok (.invokespecial 46, 3) := by decide +kernel
theorem dX10_init_67 : decode cX10_init 67 = .ok (.putfield 47, 3) := by decide +kernel
theorem dX10_init_70 : decode cX10_init 70 = .ok (.aload_n 0, 1) := by decide +kernel
theorem dX10_init_71 : decode cX10_init 71 = .ok (.iconst 2, 1) := by decide +kernel
theorem dX10_init_72 : decode cX10_init 72 = .ok (.anewarray 44, 3) := by decide +kernel
theorem dX10_init_75 : decode cX10_init 75 = .ok (.putfield 51, 3) := by decide +kernel
theorem dX10_init_78 : decode cX10_init 78 = .ok (.iconst 0, 1) := by decide +kernel
theorem dX10_init_79 : decode cX10_init 79 = .ok (.istore_n 1, 1) := by decide +kernel
theorem dX10_init_80 : decode cX10_init 80 = .ok (.iload_n 1, 1) := by decide +kernel
theorem dX10_init_81 : decode cX10_init 81 = .ok (.aload_n 0, 1) := by decide +kernel
theorem dX10_init_82 : decode cX10_init 82 = .ok (.getfield 51, 3) := by decide +kernel
theorem dX10_init_85 : decode cX10_init 85 = .ok (.arraylength, 1) := by decide +kernel
theorem dX10_init_86 : decode cX10_init 86 = .ok (.if_icmp .ge 22, 3) := by decide +kernel
theorem dX10_init_89 : decode cX10_init 89 = .ok (.aload_n 0, 1) := by decide +kernel
theorem dX10_init_90 : decode cX10_init 90 = .ok (.getfield 51, 3) := by decide +kernel
theorem dX10_init_93 : decode cX10_init 93 = .ok (.iload_n 1, 1) := by decide +kernel
theorem dX10_init_94 : decode cX10_init 94 = .ok (.new 44, 3) := by decide +kernel
theorem dX10_init_97 : decode cX10_init 97 = .ok (.dup, 1) := by decide +kernel
theorem dX10_init_98 : decode cX10_init 98 = .ok (.invokespecial 46, 3) := by decide +kernel
theorem dX10_init_101 : decode cX10_init 101 = .ok (.aastore, 1) := by decide +kernel
theorem dX10_init_102 : decode cX10_init 102 = .ok (.iinc 1 1, 3) := by decide +kernel
theorem dX10_init_105 : decode cX10_init 105 = .ok (.goto (-25), 3) := by decide +kernel
theorem dX10_init_108 : decode cX10_init 108 = .ok (.aload_n 0, 1) := by decide +kernel
theorem dX10_init_109 : decode cX10_init 109 = .ok (.new 55, 3) := by decide +kernel
theorem dX10_init_112 : decode cX10_init 112 = .ok (.dup, 1) := by decide +kernel
theorem dX10_init_113 : decode cX10_init 113 = .ok (.invokespecial 57, 3) := by decide +kernel
theorem dX10_init_116 : decode cX10_init 116 = .ok (.putfield 58, 3) := by decide +kernel
theorem dX10_init_119 : decode cX10_init 119 = .ok (.aload_n 0, 1) := by decide +kernel
theorem dX10_init_120 : decode cX10_init 120 = .ok (.new 55, 3) := by decide +kernel
theorem dX10_init_123 : decode cX10_init 123 = .ok (.dup, 1) := by decide +kernel
theorem dX10_init_124 : decode cX10_init 124 = .ok (.invokespecial 57, 3) := by decide +kernel
theorem dX10_init_127 : decode cX10_init 127 = .ok (.putfield 62, 3) := by decide +kernel
theorem dX10_init_130 : decode cX10_init 130 = .ok (.aload_n 0, 1) := by decide +kernel
theorem dX10_init_131 : decode cX10_init 131 = .ok (.iconst (-1), 1) := by decide +kernel
theorem dX10_init_132 : decode cX10_init 132 = .ok (.putfield 65, 3) := by decide +kernel
theorem dX10_init_135 : decode cX10_init 135 = .ok (.return_, 1) := by decide +kernel
theorem dX10_feed_0 : decode cX10_feed 0 = .ok (.iload_n 1, 1) := by decide +kernel
theorem dX10_feed_1 : decode cX10_feed 1 = .ok (.iconst 1, 1) := by decide +kernel
theorem dX10_feed_2 : decode cX10_feed 2 = .ok (.if_icmp .lt 9, 3) := by decide +kernel
theorem dX10_feed_5 : decode cX10_feed 5 = .ok (.iload_n 1, 1) := by decide +kernel
theorem dX10_feed_6 : decode cX10_feed 6 = .ok (.bipush 8, 2) := by decide +kernel
theorem dX10_feed_8 : decode cX10_feed 8 = .ok (.if_icmp .le 7, 3) := by decide +kernel
theorem dX10_feed_11 : decode cX10_feed 11 = .ok (.sipush (-1002), 3) := by decide +kernel
theorem dX10_feed_14 : decode cX10_feed 14 = .ok (.ireturn, 1) := by decide +kernel
theorem dX10_feed_15 : decode cX10_feed 15 = .ok (.aload_n 0, 1) := by decide +kernel
theorem dX10_feed_16 : decode cX10_feed 16 = .ok (.getfield 12, 3) := by decide +kernel
theorem dX10_feed_19 : decode cX10_feed 19 = .ok (.getfield 69, 3) := by decide +kernel
theorem dX10_feed_22 : decode cX10_feed 22 = .ok (.iload_n 1, 1) := by decide +kernel
theorem dX10_feed_23 : decode cX10_feed 23 = .ok (.iadd, 1) := by decide +kernel
theorem dX10_feed_24 : decode cX10_feed 24 = .ok (.sipush 500, 3) := by decide +kernel
theorem dX10_feed_27 : decode cX10_feed 27 = .ok (.if_icmp .le 7, 3) := by decide +kernel
theorem dX10_feed_30 : decode cX10_feed 30 = .ok (.sipush (-1004), 3) := by decide +kernel
theorem dX10_feed_33 : decode cX10_feed 33 = .ok (.ireturn, 1) := by decide +kernel
theorem dX10_feed_34 : decode cX10_feed 34 = .ok (.iload_n 1, 1) := by decide +kernel
theorem dX10_feed_35 : decode cX10_feed 35 = .ok (.iconst 1, 1) := by decide +kernel
theorem dX10_feed_36 : decode cX10_feed 36 = .ok (.isub, 1) := by decide +kernel
theorem dX10_feed_37 : decode cX10_feed 37 = .ok (.istore 4, 2) := by decide +kernel
theorem dX10_feed_39 : decode cX10_feed 39 = .ok (.iload 4, 2) := by decide +kernel
theorem dX10_feed_41 : decode cX10_feed 41 = .ok (.ifCond .lt 28, 3) := by decide +kernel
theorem dX10_feed_44 : decode cX10_feed 44 = .ok (.aload_n 0, 1) := by decide +kernel
theorem dX10_feed_45 : decode cX10_feed 45 = .ok (.getfield 12, 3) := by decide +kernel
theorem dX10_feed_48 : decode cX10_feed 48 = .ok (.lload_n 2, 1) := by decide +kernel
theorem dX10_feed_49 : decode cX10_feed 49 = .ok (.bipush 8, 2) := by decide +kernel
theorem dX10_feed_51 : decode cX10_feed 51 = .ok (.iload 4, 2) := by decide +kernel
theorem dX10_feed_53 : decode cX10_feed 53 = .ok (.imul, 1) := by decide +kernel
theorem dX10_feed_54 : decode cX10_feed 54 = .ok (.lshr, 1) := by decide +kernel
theorem dX10_feed_55 : decode cX10_feed 55 = .ok (.l2i, 1) := by decide +kernel
theorem dX10_feed_56 : decode cX10_feed 56 = .ok (.sipush 255, 3) := by decide +kernel
theorem dX10_feed_59 : decode cX10_feed 59 = .ok (.iand, 1) := by decide +kernel
theorem dX10_feed_60 : decode cX10_feed 60 = .ok (.invokevirtual 72, 3) := by decide +kernel
theorem dX10_feed_63 : decode cX10_feed 63 = .ok (.iinc 4 (-1), 3) := by decide +kernel
theorem dX10_feed_66 : decode cX10_feed 66 = .ok (.goto (-27), 3) := by decide +kernel
theorem dX10_feed_69 : decode cX10_feed 69 = .ok (.aload_n 0, 1) := by decide +kernel
theorem dX10_feed_70 : decode cX10_feed 70 = .ok (.getfield 12, 3) := by decide +kernel
theorem dX10_feed_73 : decode cX10_feed 73 = .ok (.getfield 69, 3) := by decide +kernel
theorem dX10_feed_76 : decode cX10_feed 76 = .ok (.ireturn, 1) := by decide +kernel
theorem dX10_town_0 : decode cX10_town 0 = .ok (.aload_n 0, 1) := by decide +kernel
theorem dX10_town_1 : decode cX10_town 1 = .ok (.getfield 12, 3) := by decide +kernel
theorem dX10_town_4 : decode cX10_town 4 = .ok (.aload_n 0, 1) := by decide +kernel
theorem dX10_town_5 : decode cX10_town 5 = .ok (.getfield 62, 3) := by decide +kernel
theorem dX10_town_8 : decode cX10_town 8 = .ok (.invokevirtual 76, 3) := by decide +kernel
theorem dX10_town_11 : decode cX10_town 11 = .ok (.istore_n 1, 1) := by decide +kernel
theorem dX10_town_12 : decode cX10_town 12 = .ok (.aload_n 0, 1) := by decide +kernel
theorem dX10_town_13 : decode cX10_town 13 = .ok (.aload_n 0, 1) := by decide +kernel
theorem dX10_town_14 : decode cX10_town 14 = .ok (.getfield 12, 3) := by decide +kernel
theorem dX10_town_17 : decode cX10_town 17 = .ok (.getfield 80, 3) := by decide +kernel
theorem dX10_town_20 : decode cX10_town 20 = .ok (.putfield 65, 3) := by decide +kernel
theorem dX10_town_23 : decode cX10_town 23 = .ok (.aload_n 0, 1) := by decide +kernel
theorem dX10_town_24 : decode cX10_town 24 = .ok (.getfield 12, 3) := by decide +kernel
theorem dX10_town_27 : decode cX10_town 27 = .ok (.iconst 0, 1) := by decide +kernel
theorem dX10_town_28 : decode cX10_town 28 = .ok (.putfield 69, 3) := by decide +kernel
theorem dX10_town_31 : decode cX10_town 31 = .ok (.iload_n 1, 1) := by decide +kernel
theorem dX10_town_32 : decode cX10_town 32 = .ok (.ifCond .eq 8, 3) := by decide +kernel
theorem dX10_town_35 : decode cX10_town 35 = .ok (.bipush (-10), 2) := by decide +kernel
theorem dX10_town_37 : decode cX10_town 37 = .ok (.iload_n 1, 1) := by decide +kernel
theorem dX10_town_38 : decode cX10_town 38 = .ok (.isub, 1) := by decide +kernel
theorem dX10_town_39 : decode cX10_town 39 = .ok (.ireturn, 1) := by decide +kernel
theorem dX10_town_40 : decode cX10_town 40 = .ok (.aload_n 0, 1) := by decide +kernel
theorem dX10_town_41 : decode cX10_town 41 = .ok (.getfield 58, 3) := by decide +kernel
theorem dX10_town_44 : decode cX10_town 44 = .ok (.astore_n 2, 1) := by decide +kernel
theorem dX10_town_45 : decode cX10_town 45 = .ok (.aload_n 0, 1) := by decide +kernel
theorem dX10_town_46 : decode cX10_town 46 = .ok (.aload_n 0, 1) := by decide +kernel
theorem dX10_town_47 : decode cX10_town 47 = .ok (.getfield 62, 3) := by decide +kernel
theorem dX10_town_50 : decode cX10_town 50 = .ok (.putfield 58, 3) := by decide +kernel
theorem dX10_town_53 : decode cX10_town 53 = .ok (.aload_n 0, 1) := by decide +kernel
theorem dX10_town_54 : decode cX10_town 54 = .ok (.aload_n 2, 1) := by decide +kernel
theorem dX10_town_55 : decode cX10_town 55 = .ok (.putfield 62, 3) := by decide +kernel
theorem dX10_town_58 : decode cX10_town 58 = .ok (.aload_n 0, 1) := by decide +kernel
theorem dX10_town_59 : decode cX10_town 59 = .ok (.getfield 47, 3) := by decide +kernel
theorem dX10_town_62 : decode cX10_town 62 = .ok (.getfield 83, 3) := by decide +kernel
theorem dX10_town_65 : decode cX10_town 65 = .ok (.aload_n 0, 1) := by decide +kernel
theorem dX10_town_66 : decode cX10_town 66 = .ok (.getfield 58, 3) := by decide +kernel
theorem dX10_town_69 : decode cX10_town 69 = .ok (.getfield 87, 3) := by decide +kernel
theorem dX10_town_72 : decode cX10_town 72 = .ok (.invokevirtual 88, 3) := by decide +kernel
theorem dX10_town_75 : decode cX10_town 75 = .ok (.iconst 0, 1) := by decide +kernel
theorem dX10_town_76 : decode cX10_town 76 = .ok (.istore_n 3, 1) := by decide +kernel
theorem dX10_town_77 : decode cX10_town 77 = .ok (.iload_n 3, 1) := by decide +kernel
theorem dX10_town_78 : decode cX10_town 78 = .ok (.iconst 4, 1) := by decide +kernel
theorem dX10_town_79 : decode cX10_town 79 = .ok (.if_icmp .ge 37, 3) := by decide +kernel
theorem dX10_town_82 : decode cX10_town 82 = .ok (.aload_n 0, 1) := by decide +kernel
theorem dX10_town_83 : decode cX10_town 83 = .ok (.getfield 47, 3) := by decide +kernel
theorem dX10_town_86 : decode cX10_town 86 = .ok (.getfield 94, 3) := by decide +kernel
theorem dX10_town_89 : decode cX10_town 89 = .ok (.iload_n 3, 1) := by decide +kernel
theorem dX10_town_90 : decode cX10_town 90 = .ok (.aload_n 0, 1) := by decide +kernel
theorem dX10_town_91 : decode cX10_town 91 = .ok (.iload_n 3, 1) := by decide +kernel
theorem dX10_town_92 : decode cX10_town 92 = .ok (.invokevirtual 98, 3) := by decide +kernel
theorem dX10_town_95 : decode cX10_town 95 = .ok (.invokestatic 102, 3) := by decide +kernel
theorem dX10_town_98 : decode cX10_town 98 = .ok (.aload_n 0, 1) := by decide +kernel
theorem dX10_town_99 : decode cX10_town 99 = .ok (.getfield 47, 3) := by decide +kernel
theorem dX10_town_102 : decode cX10_town 102 = .ok (.getfield 108, 3) := by decide +kernel
theorem dX10_town_105 : decode cX10_town 105 = .ok (.iload_n 3, 1) := by decide +kernel
theorem dX10_town_106 : decode cX10_town 106 = .ok (.iconst 0, 1) := by decide +kernel
theorem dX10_town_107 : decode cX10_town 107 = .ok (.invokestatic 102, 3) := by decide +kernel
theorem dX10_town_110 : decode cX10_town 110 = .ok (.iinc 3 1, 3) := by decide +kernel
theorem dX10_town_113 : decode cX10_town 113 = .ok (.goto (-36), 3) := by decide +kernel
theorem dX10_town_116 : decode cX10_town 116 = .ok (.aload_n 0, 1) := by decide +kernel
theorem dX10_town_117 : decode cX10_town 117 = .ok (.getfield 40, 3) := by decide +kernel
theorem dX10_town_120 : decode cX10_town 120 = .ok (.invokevirtual 111, 3) := by decide +kernel
theorem dX10_town_123 : decode cX10_town 123 = .ok (.iconst 0, 1) := by decide +kernel
theorem dX10_town_124 : decode cX10_town 124 = .ok (.istore_n 3, 1) := by decide +kernel
theorem dX10_town_125 : decode cX10_town 125 = .ok (.iload_n 3, 1) := by decide +kernel
theorem dX10_town_126 : decode cX10_town 126 = .ok (.iconst 2, 1) := by decide +kernel
theorem dX10_town_127 : decode cX10_town 127 = .ok (.if_icmp .ge 27, 3) := by decide +kernel
theorem dX10_town_130 : decode cX10_town 130 = .ok (.aload_n 0, 1) := by decide +kernel
theorem dX10_town_131 : decode cX10_town 131 = .ok (.iload_n 3, 1) := by decide +kernel
theorem dX10_town_132 : decode cX10_town 132 = .ok (.invokevirtual 114, 3) := by decide +kernel
theorem dX10_town_135 : decode cX10_town 135 = .ok (.astore 4, 2) := by decide +kernel
theorem dX10_town_137 : decode cX10_town 137 = .ok (.aload 4, 2) := by decide +kernel
theorem dX10_town_139 : decode cX10_town 139 = .ok (.ifnull 9, 3) := by decide +kernel
theorem dX10_town_142 : decode cX10_town 142 = .ok (.aload 4, 2) := by decide +kernel
theorem dX10_town_144 : decode cX10_town 144 = .ok (.iconst 0, 1) := by decide +kernel
theorem dX10_town_145 : decode cX10_town 145 = .ok (.putfield 118, 3) := by decide +kernel
theorem dX10_town_148 : decode cX10_town 148 = .ok (.iinc 3 1, 3) := by decide +kernel
theorem dX10_town_151 : decode cX10_town 151 = .ok (.goto (-26), 3) := by decide +kernel
theorem dX10_town_154 : decode cX10_town 154 = .ok (.aload_n 0, 1) := by decide +kernel
theorem dX10_town_155 : decode cX10_town 155 = .ok (.invokevirtual 122, 3) := by decide +kernel
theorem dX10_town_158 : decode cX10_town 158 = .ok (.aload_n 0, 1) := by decide +kernel
theorem dX10_town_159 : decode cX10_town 159 = .ok (.getfield 58, 3) := by decide +kernel
theorem dX10_town_162 : decode cX10_town 162 = .ok (.getfield 125, 3) := by decide +kernel
theorem dX10_town_165 : decode cX10_town 165 = .ok (.ireturn, 1) := by decide +kernel
theorem dX10_fault_0 : decode cX10_fault 0 = .ok (.aload_n 0, 1) := by decide +kernel
theorem dX10_fault_1 : decode cX10_fault 1 = .ok (.getfield 65, 3) := by decide +kernel
theorem dX10_fault_4 : decode cX10_fault 4 = .ok (.ireturn, 1) := by decide +kernel
theorem dX10_count_0 : decode cX10_count 0 = .ok (.iload_n 1, 1) := by decide +kernel
theorem dX10_count_1 : decode cX10_count 1 = .ok (.tableswitch 102 0 6 #[43, 51, 59, 70, 78, 86, 94], 43) := by decide +kernel
theorem dX10_count_44 : decode cX10_count 44 = .ok (.aload_n 0, 1) := by decide +kernel
theorem dX10_count_45 : decode cX10_count 45 = .ok (.getfield 58, 3) := by decide +kernel
theorem dX10_count_48 : decode cX10_count 48 = .ok (.getfield 125, 3) := by decide +kernel
theorem dX10_count_51 : decode cX10_count 51 = .ok (.ireturn, 1) := by decide +kernel
theorem dX10_count_52 : decode cX10_count 52 = .ok (.aload_n 0, 1) := by decide +kernel
theorem dX10_count_53 : decode cX10_count 53 = .ok (.getfield 58, 3) := by decide +kernel
theorem dX10_count_56 : decode cX10_count 56 = .ok (.getfield 128, 3) := by decide +kernel
theorem dX10_count_59 : decode cX10_count 59 = .ok (.ireturn, 1) := by decide +kernel
theorem dX10_count_60 : decode cX10_count 60 = .ok (.aload_n 0, 1) := by decide +kernel
theorem dX10_count_61 : decode cX10_count 61 = .ok (.getfield 47, 3) := by decide +kernel
theorem dX10_count_64 : decode cX10_count 64 = .ok (.getfield 83, 3) := by decide +kernel
theorem dX10_count_67 : decode cX10_count 67 = .ok (.getfield 131, 3) := by decide +kernel
theorem dX10_count_70 : decode cX10_count 70 = .ok (.ireturn, 1) := by decide +kernel
theorem dX10_count_71 : decode cX10_count 71 = .ok (.aload_n 0, 1) := by decide +kernel
theorem dX10_count_72 : decode cX10_count 72 = .ok (.getfield 58, 3) := by decide +kernel
theorem dX10_count_75 : decode cX10_count 75 = .ok (.getfield 134, 3) := by decide +kernel
theorem dX10_count_78 : decode cX10_count 78 = .ok (.ireturn, 1) := by decide +kernel
theorem dX10_count_79 : decode cX10_count 79 = .ok (.aload_n 0, 1) := by decide +kernel
theorem dX10_count_80 : decode cX10_count 80 = .ok (.getfield 12, 3) := by decide +kernel
theorem dX10_count_83 : decode cX10_count 83 = .ok (.getfield 69, 3) := by decide +kernel
theorem dX10_count_86 : decode cX10_count 86 = .ok (.ireturn, 1) := by decide +kernel
theorem dX10_count_87 : decode cX10_count 87 = .ok (.aload_n 0, 1) := by decide +kernel
theorem dX10_count_88 : decode cX10_count 88 = .ok (.getfield 40, 3) := by decide +kernel
theorem dX10_count_91 : decode cX10_count 91 = .ok (.getfield 137, 3) := by decide +kernel
theorem dX10_count_94 : decode cX10_count 94 = .ok (.ireturn, 1) := by decide +kernel
theorem dX10_count_95 : decode cX10_count 95 = .ok (.aload_n 0, 1) := by decide +kernel
theorem dX10_count_96 : decode cX10_count 96 = .ok (.getfield 40, 3) := by decide +kernel
theorem dX10_count_99 : decode cX10_count 99 = .ok (.getfield 140, 3) := by decide +kernel
theorem dX10_count_102 : decode cX10_count 102 = .ok (.ireturn, 1) := by decide +kernel
theorem dX10_count_103 : decode cX10_count 103 = .ok (.sipush (-1002), 3) := by decide +kernel
theorem dX10_count_106 : decode cX10_count 106 = .ok (.ireturn, 1) := by decide +kernel
theorem dX10_person_0 : decode cX10_person 0 = .ok (.aload_n 0, 1) := by decide +kernel
theorem dX10_person_1 : decode cX10_person 1 = .ok (.iload_n 1, 1) := by decide +kernel
theorem dX10_person_2 : decode cX10_person 2 = .ok (.invokevirtual 143, 3) := by decide +kernel
theorem dX10_person_5 : decode cX10_person 5 = .ok (.ifCond .ne 7, 3) := by decide +kernel
theorem dX10_person_8 : decode cX10_person 8 = .ok (.sipush (-1001), 3) := by decide +kernel
theorem dX10_person_11 : decode cX10_person 11 = .ok (.ireturn, 1) := by decide +kernel
theorem dX10_person_12 : decode cX10_person 12 = .ok (.iload_n 2, 1) := by decide +kernel
theorem dX10_person_13 : decode cX10_person 13 = .ok (.tableswitch 76 0 3 #[31, 43, 52, 61], 31) := by decide +kernel
theorem dX10_person_44 : decode cX10_person 44 = .ok (.aload_n 0, 1) := by decide +kernel
theorem dX10_person_45 : decode cX10_person 45 = .ok (.getfield 58, 3) := by decide +kernel
theorem dX10_person_48 : decode cX10_person 48 = .ok (.getfield 147, 3) := by decide +kernel
theorem dX10_person_51 : decode cX10_person 51 = .ok (.iload_n 1, 1) := by decide +kernel
theorem dX10_person_52 : decode cX10_person 52 = .ok (.invokestatic 150, 3) := by decide +kernel
theorem dX10_person_55 : decode cX10_person 55 = .ok (.ireturn, 1) := by decide +kernel
theorem dX10_person_56 : decode cX10_person 56 = .ok (.aload_n 0, 1) := by decide +kernel
theorem dX10_person_57 : decode cX10_person 57 = .ok (.getfield 58, 3) := by decide +kernel
theorem dX10_person_60 : decode cX10_person 60 = .ok (.iload_n 1, 1) := by decide +kernel
theorem dX10_person_61 : decode cX10_person 61 = .ok (.invokevirtual 154, 3) := by decide +kernel
theorem dX10_person_64 : decode cX10_person 64 = .ok (.ireturn, 1) := by decide +kernel
theorem dX10_person_65 : decode cX10_person 65 = .ok (.aload_n 0, 1) := by decide +kernel
theorem dX10_person_66 : decode cX10_person 66 = .ok (.getfield 58, 3) := by decide +kernel
theorem dX10_person_69 : decode cX10_person 69 = .ok (.iload_n 1, 1) := by decide +kernel
theorem dX10_person_70 : decode cX10_person 70 = .ok (.invokevirtual 157, 3) := by decide +kernel
theorem dX10_person_73 : decode cX10_person 73 = .ok (.ireturn, 1) := by decide +kernel
theorem dX10_person_74 : decode cX10_person 74 = .ok (.aload_n 0, 1) := by decide +kernel
theorem dX10_person_75 : decode cX10_person 75 = .ok (.getfield 47, 3) := by decide +kernel
theorem dX10_person_78 : decode cX10_person 78 = .ok (.getfield 83, 3) := by decide +kernel
theorem dX10_person_81 : decode cX10_person 81 = .ok (.getfield 160, 3) := by decide +kernel
theorem dX10_person_84 : decode cX10_person 84 = .ok (.iload_n 1, 1) := by decide +kernel
theorem dX10_person_85 : decode cX10_person 85 = .ok (.invokestatic 150, 3) := by decide +kernel
theorem dX10_person_88 : decode cX10_person 88 = .ok (.ireturn, 1) := by decide +kernel
theorem dX10_person_89 : decode cX10_person 89 = .ok (.sipush (-1002), 3) := by decide +kernel
theorem dX10_person_92 : decode cX10_person 92 = .ok (.ireturn, 1) := by decide +kernel
theorem dX10_turn_0 : decode cX10_turn 0 = .ok (.aload_n 0, 1) := by decide +kernel
theorem dX10_turn_1 : decode cX10_turn 1 = .ok (.iload_n 1, 1) := by decide +kernel
theorem dX10_turn_2 : decode cX10_turn 2 = .ok (.invokevirtual 163, 3) := by decide +kernel
theorem dX10_turn_5 : decode cX10_turn 5 = .ok (.ifCond .ne 7, 3) := by decide +kernel
theorem dX10_turn_8 : decode cX10_turn 8 = .ok (.sipush (-1001), 3) := by decide +kernel
theorem dX10_turn_11 : decode cX10_turn 11 = .ok (.ireturn, 1) := by decide +kernel
theorem dX10_turn_12 : decode cX10_turn 12 = .ok (.iload_n 2, 1) := by decide +kernel
theorem dX10_turn_13 : decode cX10_turn 13 = .ok (.ifCond .ne 15, 3) := by decide +kernel
theorem dX10_turn_16 : decode cX10_turn 16 = .ok (.aload_n 0, 1) := by decide +kernel
theorem dX10_turn_17 : decode cX10_turn 17 = .ok (.getfield 58, 3) := by decide +kernel
theorem dX10_turn_20 : decode cX10_turn 20 = .ok (.getfield 166, 3) := by decide +kernel
theorem dX10_turn_23 : decode cX10_turn 23 = .ok (.iload_n 1, 1) := by decide +kernel
theorem dX10_turn_24 : decode cX10_turn 24 = .ok (.invokestatic 150, 3) := by decide +kernel
theorem dX10_turn_27 : decode cX10_turn 27 = .ok (.ireturn, 1) := by decide +kernel
theorem dX10_turn_28 : decode cX10_turn 28 = .ok (.iload_n 2, 1) := by decide +kernel
theorem dX10_turn_29 : decode cX10_turn 29 = .ok (.iconst 1, 1) := by decide +kernel
theorem dX10_turn_30 : decode cX10_turn 30 = .ok (.if_icmp .ne 15, 3) := by decide +kernel
theorem dX10_turn_33 : decode cX10_turn 33 = .ok (.aload_n 0, 1) := by decide +kernel
theorem dX10_turn_34 : decode cX10_turn 34 = .ok (.getfield 58, 3) := by decide +kernel
theorem dX10_turn_37 : decode cX10_turn 37 = .ok (.getfield 169, 3) := by decide +kernel
theorem dX10_turn_40 : decode cX10_turn 40 = .ok (.iload_n 1, 1) := by decide +kernel
theorem dX10_turn_41 : decode cX10_turn 41 = .ok (.invokestatic 150, 3) := by decide +kernel
theorem dX10_turn_44 : decode cX10_turn 44 = .ok (.ireturn, 1) := by decide +kernel
theorem dX10_turn_45 : decode cX10_turn 45 = .ok (.sipush (-1002), 3) := by decide +kernel
theorem dX10_turn_48 : decode cX10_turn 48 = .ok (.ireturn, 1) := by decide +kernel
theorem dX10_grudge_0 : decode cX10_grudge 0 = .ok (.iload_n 1, 1) := by decide +kernel
theorem dX10_grudge_1 : decode cX10_grudge 1 = .ok (.ifCond .lt 17, 3) := by decide +kernel
theorem dX10_grudge_4 : decode cX10_grudge 4 = .ok (.iload_n 1, 1) := by decide +kernel
theorem dX10_grudge_5 : decode cX10_grudge 5 = .ok (.aload_n 0, 1) := by decide +kernel
theorem dX10_grudge_6 : decode cX10_grudge 6 = .ok (.getfield 47, 3) := by decide +kernel
theorem dX10_grudge_9 : decode cX10_grudge 9 = .ok (.getfield 83, 3) := by decide +kernel
theorem dX10_grudge_12 : decode cX10_grudge 12 = .ok (.getfield 131, 3) := by decide +kernel
theorem dX10_grudge_15 : decode cX10_grudge 15 = .ok (.if_icmp .lt 7, 3) := by decide +kernel
theorem dX10_grudge_18 : decode cX10_grudge 18 = .ok (.sipush (-1001), 3) := by decide +kernel
theorem dX10_grudge_21 : decode cX10_grudge 21 = .ok (.ireturn, 1) := by decide +kernel
theorem dX10_grudge_22 : decode cX10_grudge 22 = .ok (.bipush 100, 2) := by decide +kernel
theorem dX10_grudge_24 : decode cX10_grudge 24 = .ok (.aload_n 0, 1) := by decide +kernel
theorem dX10_grudge_25 : decode cX10_grudge 25 = .ok (.getfield 47, 3) := by decide +kernel
theorem dX10_grudge_28 : decode cX10_grudge 28 = .ok (.getfield 83, 3) := by decide +kernel
theorem dX10_grudge_31 : decode cX10_grudge 31 = .ok (.getfield 172, 3) := by decide +kernel
theorem dX10_grudge_34 : decode cX10_grudge 34 = .ok (.iload_n 1, 1) := by decide +kernel
theorem dX10_grudge_35 : decode cX10_grudge 35 = .ok (.invokestatic 150, 3) := by decide +kernel
theorem dX10_grudge_38 : decode cX10_grudge 38 = .ok (.imul, 1) := by decide +kernel
theorem dX10_grudge_39 : decode cX10_grudge 39 = .ok (.aload_n 0, 1) := by decide +kernel
theorem dX10_grudge_40 : decode cX10_grudge 40 = .ok (.getfield 47, 3) := by decide +kernel
theorem dX10_grudge_43 : decode cX10_grudge 43 = .ok (.getfield 83, 3) := by decide +kernel
theorem dX10_grudge_46 : decode cX10_grudge 46 = .ok (.getfield 175, 3) := by decide +kernel
theorem dX10_grudge_49 : decode cX10_grudge 49 = .ok (.iload_n 1, 1) := by decide +kernel
theorem dX10_grudge_50 : decode cX10_grudge 50 = .ok (.invokestatic 150, 3) := by decide +kernel
theorem dX10_grudge_53 : decode cX10_grudge 53 = .ok (.iadd, 1) := by decide +kernel
theorem dX10_grudge_54 : decode cX10_grudge 54 = .ok (.ireturn, 1) := by decide +kernel
theorem dX10_law_0 : decode cX10_law 0 = .ok (.iload_n 1, 1) := by decide +kernel
theorem dX10_law_1 : decode cX10_law 1 = .ok (.ifCond .ne 31, 3) := by decide +kernel
theorem dX10_law_4 : decode cX10_law 4 = .ok (.iload_n 2, 1) := by decide +kernel
theorem dX10_law_5 : decode cX10_law 5 = .ok (.ifCond .lt 27, 3) := by decide +kernel
theorem dX10_law_8 : decode cX10_law 8 = .ok (.iload_n 2, 1) := by decide +kernel
theorem dX10_law_9 : decode cX10_law 9 = .ok (.iconst 4, 1) := by decide +kernel
theorem dX10_law_10 : decode cX10_law 10 = .ok (.if_icmp .ge 22, 3) := by decide +kernel
theorem dX10_law_13 : decode cX10_law 13 = .ok (.aload_n 0, 1) := by decide +kernel
theorem dX10_law_14 : decode cX10_law 14 = .ok (.getfield 47, 3) := by decide +kernel
theorem dX10_law_17 : decode cX10_law 17 = .ok (.getfield 178, 3) := by decide +kernel
theorem dX10_law_20 : decode cX10_law 20 = .ok (.istore_n 3, 1) := by decide +kernel
theorem dX10_law_21 : decode cX10_law 21 = .ok (.aload_n 0, 1) := by decide +kernel
theorem dX10_law_22 : decode cX10_law 22 = .ok (.getfield 47, 3) := by decide +kernel
theorem dX10_law_25 : decode cX10_law 25 = .ok (.iload_n 2, 1) := by decide +kernel
theorem dX10_law_26 : decode cX10_law 26 = .ok (.putfield 178, 3) := by decide +kernel
theorem dX10_law_29 : decode cX10_law 29 = .ok (.goto 48, 3) := by decide +kernel
theorem dX10_law_32 : decode cX10_law 32 = .ok (.iload_n 1, 1) := by decide +kernel
theorem dX10_law_33 : decode cX10_law 33 = .ok (.iconst 1, 1) := by decide +kernel
theorem dX10_law_34 : decode cX10_law 34 = .ok (.if_icmp .ne 39, 3) := by decide +kernel
theorem dX10_law_37 : decode cX10_law 37 = .ok (.iload_n 2, 1) := by decide +kernel
theorem dX10_law_38 : decode cX10_law 38 = .ok (.ifCond .eq 8, 3) := by decide +kernel
theorem dX10_law_41 : decode cX10_law 41 = .ok (.iload_n 2, 1) := by decide +kernel
theorem dX10_law_42 : decode cX10_law 42 = .ok (.iconst 1, 1) := by decide +kernel
theorem dX10_law_43 : decode cX10_law 43 = .ok (.if_icmp .ne 30, 3) := by decide +kernel
theorem dX10_law_46 : decode cX10_law 46 = .ok (.aload_n 0, 1) := by decide +kernel
theorem dX10_law_47 : decode cX10_law 47 = .ok (.getfield 47, 3) := by decide +kernel
theorem dX10_law_50 : decode cX10_law 50 = .ok (.getfield 181, 3) := by decide +kernel
theorem dX10_law_53 : decode cX10_law 53 = .ok (.istore_n 3, 1) := by decide +kernel
theorem dX10_law_54 : decode cX10_law 54 = .ok (.aload_n 0, 1) := by decide +kernel
theorem dX10_law_55 : decode cX10_law 55 = .ok (.getfield 47, 3) := by decide +kernel
theorem dX10_law_58 : decode cX10_law 58 = .ok (.iload_n 2, 1) := by decide +kernel
theorem dX10_law_59 : decode cX10_law 59 = .ok (.putfield 181, 3) := by decide +kernel
theorem dX10_law_62 : decode cX10_law 62 = .ok (.iload_n 2, 1) := by decide +kernel
theorem dX10_law_63 : decode cX10_law 63 = .ok (.ifCond .ne 14, 3) := by decide +kernel
theorem dX10_law_66 : decode cX10_law 66 = .ok (.aload_n 0, 1) := by decide +kernel
theorem dX10_law_67 : decode cX10_law 67 = .ok (.invokevirtual 184, 3) := by decide +kernel
theorem dX10_law_70 : decode cX10_law 70 = .ok (.goto 7, 3) := by decide +kernel
theorem dX10_law_73 : decode cX10_law 73 = .ok (.sipush (-1002), 3) := by decide +kernel
theorem dX10_law_76 : decode cX10_law 76 = .ok (.ireturn, 1) := by decide +kernel
theorem dX10_law_77 : decode cX10_law 77 = .ok (.aload_n 0, 1) := by decide +kernel
theorem dX10_law_78 : decode cX10_law 78 = .ok (.invokevirtual 122, 3) := by decide +kernel
theorem dX10_law_81 : decode cX10_law 81 = .ok (.iload_n 3, 1) := by decide +kernel
theorem dX10_law_82 : decode cX10_law 82 = .ok (.ireturn, 1) := by decide +kernel
theorem dX10_bear_0 : decode cX10_bear 0 = .ok (.aload_n 0, 1) := by decide +kernel
theorem dX10_bear_1 : decode cX10_bear 1 = .ok (.iload_n 1, 1) := by decide +kernel
theorem dX10_bear_2 : decode cX10_bear 2 = .ok (.invokevirtual 143, 3) := by decide +kernel
theorem dX10_bear_5 : decode cX10_bear 5 = .ok (.ifCond .eq 16, 3) := by decide +kernel
theorem dX10_bear_8 : decode cX10_bear 8 = .ok (.aload_n 0, 1) := by decide +kernel
theorem dX10_bear_9 : decode cX10_bear 9 = .ok (.iload_n 2, 1) := by decide +kernel
theorem dX10_bear_10 : decode cX10_bear 10 = .ok (.invokevirtual 143, 3) := by decide +kernel
theorem dX10_bear_13 : decode cX10_bear 13 = .ok (.ifCond .eq 8, 3) := by decide +kernel
theorem dX10_bear_16 : decode cX10_bear 16 = .ok (.iload_n 1, 1) := by decide +kernel
theorem dX10_bear_17 : decode cX10_bear 17 = .ok (.iload_n 2, 1) := by decide +kernel
theorem dX10_bear_18 : decode cX10_bear 18 = .ok (.if_icmp .ne 7, 3) := by decide +kernel
theorem dX10_bear_21 : decode cX10_bear 21 = .ok (.sipush (-1001), 3) := by decide +kernel
theorem dX10_bear_24 : decode cX10_bear 24 = .ok (.ireturn, 1) := by decide +kernel
theorem dX10_bear_25 : decode cX10_bear 25 = .ok (.aload_n 0, 1) := by decide +kernel
theorem dX10_bear_26 : decode cX10_bear 26 = .ok (.getfield 47, 3) := by decide +kernel
theorem dX10_bear_29 : decode cX10_bear 29 = .ok (.getfield 83, 3) := by decide +kernel
theorem dX10_bear_32 : decode cX10_bear 32 = .ok (.iload_n 1, 1) := by decide +kernel
theorem dX10_bear_33 : decode cX10_bear 33 = .ok (.iload_n 2, 1) := by decide +kernel
theorem dX10_bear_34 : decode cX10_bear 34 = .ok (.invokevirtual 187, 3) := by decide +kernel
theorem dX10_bear_37 : decode cX10_bear 37 = .ok (.iload_n 3, 1) := by decide +kernel
theorem dX10_bear_38 : decode cX10_bear 38 = .ok (.if_icmp .ne 7, 3) := by decide +kernel
theorem dX10_bear_41 : decode cX10_bear 41 = .ok (.sipush (-1003), 3) := by decide +kernel
theorem dX10_bear_44 : decode cX10_bear 44 = .ok (.ireturn, 1) := by decide +kernel
theorem dX10_bear_45 : decode cX10_bear 45 = .ok (.iload_n 3, 1) := by decide +kernel
theorem dX10_bear_46 : decode cX10_bear 46 = .ok (.ifCond .eq 18, 3) := by decide +kernel
theorem dX10_bear_49 : decode cX10_bear 49 = .ok (.aload_n 0, 1) := by decide +kernel
theorem dX10_bear_50 : decode cX10_bear 50 = .ok (.getfield 47, 3) := by decide +kernel
theorem dX10_bear_53 : decode cX10_bear 53 = .ok (.getfield 83, 3) := by decide +kernel
theorem dX10_bear_56 : decode cX10_bear 56 = .ok (.iload_n 1, 1) := by decide +kernel
theorem dX10_bear_57 : decode cX10_bear 57 = .ok (.iload_n 2, 1) := by decide +kernel
theorem dX10_bear_58 : decode cX10_bear 58 = .ok (.invokevirtual 191, 3) := by decide +kernel
theorem dX10_bear_61 : decode cX10_bear 61 = .ok (.goto 15, 3) := by decide +kernel
theorem dX10_bear_64 : decode cX10_bear 64 = .ok (.aload_n 0, 1) := by decide +kernel
theorem dX10_bear_65 : decode cX10_bear 65 = .ok (.getfield 47, 3) := by decide +kernel
theorem dX10_bear_68 : decode cX10_bear 68 = .ok (.getfield 83, 3) := by decide +kernel
theorem dX10_bear_71 : decode cX10_bear 71 = .ok (.iload_n 1, 1) := by decide +kernel
theorem dX10_bear_72 : decode cX10_bear 72 = .ok (.iload_n 2, 1) := by decide +kernel
theorem dX10_bear_73 : decode cX10_bear 73 = .ok (.invokevirtual 195, 3) := by decide +kernel
theorem dX10_bear_76 : decode cX10_bear 76 = .ok (.aload_n 0, 1) := by decide +kernel
theorem dX10_bear_77 : decode cX10_bear 77 = .ok (.invokevirtual 122, 3) := by decide +kernel
theorem dX10_bear_80 : decode cX10_bear 80 = .ok (.aload_n 0, 1) := by decide +kernel
theorem dX10_bear_81 : decode cX10_bear 81 = .ok (.getfield 47, 3) := by decide +kernel
theorem dX10_bear_84 : decode cX10_bear 84 = .ok (.getfield 83, 3) := by decide +kernel
theorem dX10_bear_87 : decode cX10_bear 87 = .ok (.getfield 131, 3) := by decide +kernel
theorem dX10_bear_90 : decode cX10_bear 90 = .ok (.ireturn, 1) := by decide +kernel
theorem dX10_quarrel_0 : decode cX10_quarrel 0 = .ok (.aload_n 0, 1) := by decide +kernel
theorem dX10_quarrel_1 : decode cX10_quarrel 1 = .ok (.iload_n 1, 1) := by decide +kernel
theorem dX10_quarrel_2 : decode cX10_quarrel 2 = .ok (.invokevirtual 198, 3) := by decide +kernel
theorem dX10_quarrel_5 : decode cX10_quarrel 5 = .ok (.ifCond .ne 7, 3) := by decide +kernel
theorem dX10_quarrel_8 : decode cX10_quarrel 8 = .ok (.sipush (-1001), 3) := by decide +kernel
theorem dX10_quarrel_11 : decode cX10_quarrel 11 = .ok (.ireturn, 1) := by decide +kernel
theorem dX10_quarrel_12 : decode cX10_quarrel 12 = .ok (.aload_n 0, 1) := by decide +kernel
theorem dX10_quarrel_13 : decode cX10_quarrel 13 = .ok (.getfield 47, 3) := by decide +kernel
theorem dX10_quarrel_16 : decode cX10_quarrel 16 = .ok (.getfield 94, 3) := by decide +kernel
theorem dX10_quarrel_19 : decode cX10_quarrel 19 = .ok (.iload_n 1, 1) := by decide +kernel
theorem dX10_quarrel_20 : decode cX10_quarrel 20 = .ok (.invokestatic 150, 3) := by decide +kernel
theorem dX10_quarrel_23 : decode cX10_quarrel 23 = .ok (.istore_n 3, 1) := by decide +kernel
theorem dX10_quarrel_24 : decode cX10_quarrel 24 = .ok (.iload_n 2, 1) := by decide +kernel
theorem dX10_quarrel_25 : decode cX10_quarrel 25 = .ok (.tableswitch 108 0 6 #[43, 53, 63, 67, 77, 87, 96], 43) := by decide +kernel
theorem dX10_quarrel_68 : decode cX10_quarrel 68 = .ok (.aload_n 0, 1) := by decide +kernel
theorem dX10_quarrel_69 : decode cX10_quarrel 69 = .ok (.getfield 19, 3) := by decide +kernel
theorem dX10_quarrel_72 : decode cX10_quarrel 72 = .ok (.iload_n 3, 1) := by decide +kernel
theorem dX10_quarrel_73 : decode cX10_quarrel 73 = .ok (.iconst 0, 1) := by decide +kernel
theorem dX10_quarrel_74 : decode cX10_quarrel 74 = .ok (.invokevirtual 201, 3) := by decide +kernel
theorem dX10_quarrel_77 : decode cX10_quarrel 77 = .ok (.ireturn, 1) := by decide +kernel
theorem dX10_quarrel_78 : decode cX10_quarrel 78 = .ok (.aload_n 0, 1) := by decide +kernel
theorem dX10_quarrel_79 : decode cX10_quarrel 79 = .ok (.getfield 19, 3) := by decide +kernel
theorem dX10_quarrel_82 : decode cX10_quarrel 82 = .ok (.iload_n 3, 1) := by decide +kernel
theorem dX10_quarrel_83 : decode cX10_quarrel 83 = .ok (.iconst 1, 1) := by decide +kernel
theorem dX10_quarrel_84 : decode cX10_quarrel 84 = .ok (.invokevirtual 201, 3) := by decide +kernel
theorem dX10_quarrel_87 : decode cX10_quarrel 87 = .ok (.ireturn, 1) := by decide +kernel
theorem dX10_quarrel_88 : decode cX10_quarrel 88 = .ok (.iload_n 3, 1) := by decide +kernel
theorem dX10_quarrel_89 : decode cX10_quarrel 89 = .ok (.iconst 1, 1) := by decide +kernel
theorem dX10_quarrel_90 : decode cX10_quarrel 90 = .ok (.iand, 1) := by decide +kernel
theorem dX10_quarrel_91 : decode cX10_quarrel 91 = .ok (.ireturn, 1) := by decide +kernel
theorem dX10_quarrel_92 : decode cX10_quarrel 92 = .ok (.aload_n 0, 1) := by decide +kernel
theorem dX10_quarrel_93 : decode cX10_quarrel 93 = .ok (.getfield 19, 3) := by decide +kernel
theorem dX10_quarrel_96 : decode cX10_quarrel 96 = .ok (.iload_n 3, 1) := by decide +kernel
theorem dX10_quarrel_97 : decode cX10_quarrel 97 = .ok (.iconst 0, 1) := by decide +kernel
theorem dX10_quarrel_98 : decode cX10_quarrel 98 = .ok (.invokevirtual 205, 3) := by decide +kernel
theorem dX10_quarrel_101 : decode cX10_quarrel 101 = .ok (.ireturn, 1) := by decide +kernel
theorem dX10_quarrel_102 : decode cX10_quarrel 102 = .ok (.aload_n 0, 1) := by decide +kernel
theorem dX10_quarrel_103 : decode cX10_quarrel 103 = .ok (.getfield 19, 3) := by decide +kernel
theorem dX10_quarrel_106 : decode cX10_quarrel 106 = .ok (.iload_n 3, 1) := by decide +kernel
theorem dX10_quarrel_107 : decode cX10_quarrel 107 = .ok (.iconst 1, 1) := by decide +kernel
theorem dX10_quarrel_108 : decode cX10_quarrel 108 = .ok (.invokevirtual 205, 3) := by decide +kernel
theorem dX10_quarrel_111 : decode cX10_quarrel 111 = .ok (.ireturn, 1) := by decide +kernel
theorem dX10_quarrel_112 : decode cX10_quarrel 112 = .ok (.aload_n 0, 1) := by decide +kernel
theorem dX10_quarrel_113 : decode cX10_quarrel 113 = .ok (.getfield 19, 3) := by decide +kernel
theorem dX10_quarrel_116 : decode cX10_quarrel 116 = .ok (.iload_n 3, 1) := by decide +kernel
theorem dX10_quarrel_117 : decode cX10_quarrel 117 = .ok (.invokevirtual 208, 3) := by decide +kernel
theorem dX10_quarrel_120 : decode cX10_quarrel 120 = .ok (.ireturn, 1) := by decide +kernel
theorem dX10_quarrel_121 : decode cX10_quarrel 121 = .ok (.aload_n 0, 1) := by decide +kernel
theorem dX10_quarrel_122 : decode cX10_quarrel 122 = .ok (.getfield 47, 3) := by decide +kernel
theorem dX10_quarrel_125 : decode cX10_quarrel 125 = .ok (.getfield 108, 3) := by decide +kernel
theorem dX10_quarrel_128 : decode cX10_quarrel 128 = .ok (.iload_n 1, 1) := by decide +kernel
theorem dX10_quarrel_129 : decode cX10_quarrel 129 = .ok (.invokestatic 150, 3) := by decide +kernel
theorem dX10_quarrel_132 : decode cX10_quarrel 132 = .ok (.ireturn, 1) := by decide +kernel
theorem dX10_quarrel_133 : decode cX10_quarrel 133 = .ok (.sipush (-1002), 3) := by decide +kernel
theorem dX10_quarrel_136 : decode cX10_quarrel 136 = .ok (.ireturn, 1) := by decide +kernel
theorem dX10_may_0 : decode cX10_may 0 = .ok (.aload_n 0, 1) := by decide +kernel
theorem dX10_may_1 : decode cX10_may 1 = .ok (.iload_n 1, 1) := by decide +kernel
theorem dX10_may_2 : decode cX10_may 2 = .ok (.invokevirtual 198, 3) := by decide +kernel
theorem dX10_may_5 : decode cX10_may 5 = .ok (.ifCond .ne 7, 3) := by decide +kernel
theorem dX10_may_8 : decode cX10_may 8 = .ok (.sipush (-1001), 3) := by decide +kernel
theorem dX10_may_11 : decode cX10_may 11 = .ok (.ireturn, 1) := by decide +kernel
theorem dX10_may_12 : decode cX10_may 12 = .ok (.aload_n 0, 1) := by decide +kernel
theorem dX10_may_13 : decode cX10_may 13 = .ok (.getfield 19, 3) := by decide +kernel
theorem dX10_may_16 : decode cX10_may 16 = .ok (.aload_n 0, 1) := by decide +kernel
theorem dX10_may_17 : decode cX10_may 17 = .ok (.getfield 47, 3) := by decide +kernel
theorem dX10_may_20 : decode cX10_may 20 = .ok (.getfield 94, 3) := by decide +kernel
theorem dX10_may_23 : decode cX10_may 23 = .ok (.iload_n 1, 1) := by decide +kernel
theorem dX10_may_24 : decode cX10_may 24 = .ok (.invokestatic 150, 3) := by decide +kernel
theorem dX10_may_27 : decode cX10_may 27 = .ok (.invokevirtual 211, 3) := by decide +kernel
theorem dX10_may_30 : decode cX10_may 30 = .ok (.ireturn, 1) := by decide +kernel
theorem dX10_hand_0 : decode cX10_hand 0 = .ok (.aload_n 0, 1) := by decide +kernel
theorem dX10_hand_1 : decode cX10_hand 1 = .ok (.iload_n 1, 1) := by decide +kernel
theorem dX10_hand_2 : decode cX10_hand 2 = .ok (.invokevirtual 198, 3) := by decide +kernel
theorem dX10_hand_5 : decode cX10_hand 5 = .ok (.ifCond .eq 16, 3) := by decide +kernel
theorem dX10_hand_8 : decode cX10_hand 8 = .ok (.iload_n 2, 1) := by decide +kernel
theorem dX10_hand_9 : decode cX10_hand 9 = .ok (.iconst (-1), 1) := by decide +kernel
theorem dX10_hand_10 : decode cX10_hand 10 = .ok (.if_icmp .eq 15, 3) := by decide +kernel
theorem dX10_hand_13 : decode cX10_hand 13 = .ok (.aload_n 0, 1) := by decide +kernel
theorem dX10_hand_14 : decode cX10_hand 14 = .ok (.iload_n 2, 1) := by decide +kernel
theorem dX10_hand_15 : decode cX10_hand 15 = .ok (.invokevirtual 143, 3) := by decide +kernel
theorem dX10_hand_18 : decode cX10_hand 18 = .ok (.ifCond .ne 7, 3) := by decide +kernel
theorem dX10_hand_21 : decode cX10_hand 21 = .ok (.sipush (-1001), 3) := by decide +kernel
theorem dX10_hand_24 : decode cX10_hand 24 = .ok (.ireturn, 1) := by decide +kernel
theorem dX10_hand_25 : decode cX10_hand 25 = .ok (.aload_n 0, 1) := by decide +kernel
theorem dX10_hand_26 : decode cX10_hand 26 = .ok (.getfield 47, 3) := by decide +kernel
theorem dX10_hand_29 : decode cX10_hand 29 = .ok (.getfield 94, 3) := by decide +kernel
theorem dX10_hand_32 : decode cX10_hand 32 = .ok (.iload_n 1, 1) := by decide +kernel
theorem dX10_hand_33 : decode cX10_hand 33 = .ok (.invokestatic 150, 3) := by decide +kernel
theorem dX10_hand_36 : decode cX10_hand 36 = .ok (.istore_n 3, 1) := by decide +kernel
theorem dX10_hand_37 : decode cX10_hand 37 = .ok (.aload_n 0, 1) := by decide +kernel
theorem dX10_hand_38 : decode cX10_hand 38 = .ok (.getfield 19, 3) := by decide +kernel
theorem dX10_hand_41 : decode cX10_hand 41 = .ok (.iload_n 3, 1) := by decide +kernel
theorem dX10_hand_42 : decode cX10_hand 42 = .ok (.invokevirtual 208, 3) := by decide +kernel
theorem dX10_hand_45 : decode cX10_hand 45 = .ok (.ifCond .eq 7, 3) := by decide +kernel
theorem dX10_hand_48 : decode cX10_hand 48 = .ok (.sipush (-1003), 3) := by decide +kernel
theorem dX10_hand_51 : decode cX10_hand 51 = .ok (.ireturn, 1) := by decide +kernel
theorem dX10_hand_52 : decode cX10_hand 52 = .ok (.iload_n 2, 1) := by decide +kernel
theorem dX10_hand_53 : decode cX10_hand 53 = .ok (.iconst (-1), 1) := by decide +kernel
theorem dX10_hand_54 : decode cX10_hand 54 = .ok (.if_icmp .ne 9, 3) := by decide +kernel
theorem dX10_hand_57 : decode cX10_hand 57 = .ok (.aload_n 0, 1) := by decide +kernel
theorem dX10_hand_58 : decode cX10_hand 58 = .ok (.iload_n 1, 1) := by decide +kernel
theorem dX10_hand_59 : decode cX10_hand 59 = .ok (.invokevirtual 214, 3) := by decide +kernel
theorem dX10_hand_62 : decode cX10_hand 62 = .ok (.ireturn, 1) := by decide +kernel
theorem dX10_hand_63 : decode cX10_hand 63 = .ok (.aload_n 0, 1) := by decide +kernel
theorem dX10_hand_64 : decode cX10_hand 64 = .ok (.getfield 19, 3) := by decide +kernel
theorem dX10_hand_67 : decode cX10_hand 67 = .ok (.iload_n 3, 1) := by decide +kernel
theorem dX10_hand_68 : decode cX10_hand 68 = .ok (.invokevirtual 211, 3) := by decide +kernel
theorem dX10_hand_71 : decode cX10_hand 71 = .ok (.iload_n 2, 1) := by decide +kernel
theorem dX10_hand_72 : decode cX10_hand 72 = .ok (.ishr, 1) := by decide +kernel
theorem dX10_hand_73 : decode cX10_hand 73 = .ok (.iconst 1, 1) := by decide +kernel
theorem dX10_hand_74 : decode cX10_hand 74 = .ok (.iand, 1) := by decide +kernel
theorem dX10_hand_75 : decode cX10_hand 75 = .ok (.ifCond .ne 7, 3) := by decide +kernel
theorem dX10_hand_78 : decode cX10_hand 78 = .ok (.sipush (-1003), 3) := by decide +kernel
theorem dX10_hand_81 : decode cX10_hand 81 = .ok (.ireturn, 1) := by decide +kernel
theorem dX10_hand_82 : decode cX10_hand 82 = .ok (.aload_n 0, 1) := by decide +kernel
theorem dX10_hand_83 : decode cX10_hand 83 = .ok (.iload_n 1, 1) := by decide +kernel
theorem dX10_hand_84 : decode cX10_hand 84 = .ok (.iload_n 2, 1) := by decide +kernel
theorem dX10_hand_85 : decode cX10_hand 85 = .ok (.invokevirtual 217, 3) := by decide +kernel
theorem dX10_hand_88 : decode cX10_hand 88 = .ok (.iload_n 2, 1) := by decide +kernel
theorem dX10_hand_89 : decode cX10_hand 89 = .ok (.ireturn, 1) := by decide +kernel
theorem dX10_begin_0 : decode cX10_begin 0 = .ok (.aload_n 0, 1) := by decide +kernel
theorem dX10_begin_1 : decode cX10_begin 1 = .ok (.iload_n 1, 1) := by decide +kernel
theorem dX10_begin_2 : decode cX10_begin 2 = .ok (.invokevirtual 198, 3) := by decide +kernel
theorem dX10_begin_5 : decode cX10_begin 5 = .ok (.ifCond .ne 7, 3) := by decide +kernel
theorem dX10_begin_8 : decode cX10_begin 8 = .ok (.sipush (-1001), 3) := by decide +kernel
theorem dX10_begin_11 : decode cX10_begin 11 = .ok (.ireturn, 1) := by decide +kernel
theorem dX10_begin_12 : decode cX10_begin 12 = .ok (.aload_n 0, 1) := by decide +kernel
theorem dX10_begin_13 : decode cX10_begin 13 = .ok (.getfield 47, 3) := by decide +kernel
theorem dX10_begin_16 : decode cX10_begin 16 = .ok (.getfield 108, 3) := by decide +kernel
theorem dX10_begin_19 : decode cX10_begin 19 = .ok (.iload_n 1, 1) := by decide +kernel
theorem dX10_begin_20 : decode cX10_begin 20 = .ok (.invokestatic 150, 3) := by decide +kernel
theorem dX10_begin_23 : decode cX10_begin 23 = .ok (.istore_n 2, 1) := by decide +kernel
theorem dX10_begin_24 : decode cX10_begin 24 = .ok (.aload_n 0, 1) := by decide +kernel
theorem dX10_begin_25 : decode cX10_begin 25 = .ok (.getfield 47, 3) := by decide +kernel
theorem dX10_begin_28 : decode cX10_begin 28 = .ok (.getfield 94, 3) := by decide +kernel
theorem dX10_begin_31 : decode cX10_begin 31 = .ok (.iload_n 1, 1) := by decide +kernel
theorem dX10_begin_32 : decode cX10_begin 32 = .ok (.aload_n 0, 1) := by decide +kernel
theorem dX10_begin_33 : decode cX10_begin 33 = .ok (.iload_n 1, 1) := by decide +kernel
theorem dX10_begin_34 : decode cX10_begin 34 = .ok (.invokevirtual 98, 3) := by decide +kernel
theorem dX10_begin_37 : decode cX10_begin 37 = .ok (.invokestatic 102, 3) := by decide +kernel
theorem dX10_begin_40 : decode cX10_begin 40 = .ok (.aload_n 0, 1) := by decide +kernel
theorem dX10_begin_41 : decode cX10_begin 41 = .ok (.getfield 47, 3) := by decide +kernel
theorem dX10_begin_44 : decode cX10_begin 44 = .ok (.getfield 108, 3) := by decide +kernel
theorem dX10_begin_47 : decode cX10_begin 47 = .ok (.iload_n 1, 1) := by decide +kernel
theorem dX10_begin_48 : decode cX10_begin 48 = .ok (.iconst 0, 1) := by decide +kernel
theorem dX10_begin_49 : decode cX10_begin 49 = .ok (.invokestatic 102, 3) := by decide +kernel
theorem dX10_begin_52 : decode cX10_begin 52 = .ok (.iload_n 2, 1) := by decide +kernel
theorem dX10_begin_53 : decode cX10_begin 53 = .ok (.ireturn, 1) := by decide +kernel
theorem dX10_drift_0 : decode cX10_drift 0 = .ok (.aload_n 0, 1) := by decide +kernel
theorem dX10_drift_1 : decode cX10_drift 1 = .ok (.iload_n 1, 1) := by decide +kernel
theorem dX10_drift_2 : decode cX10_drift 2 = .ok (.invokevirtual 198, 3) := by decide +kernel
theorem dX10_drift_5 : decode cX10_drift 5 = .ok (.ifCond .ne 7, 3) := by decide +kernel
theorem dX10_drift_8 : decode cX10_drift 8 = .ok (.sipush (-1001), 3) := by decide +kernel
theorem dX10_drift_11 : decode cX10_drift 11 = .ok (.ireturn, 1) := by decide +kernel
theorem dX10_drift_12 : decode cX10_drift 12 = .ok (.iload_n 2, 1) := by decide +kernel
theorem dX10_drift_13 : decode cX10_drift 13 = .ok (.iconst 1, 1) := by decide +kernel
theorem dX10_drift_14 : decode cX10_drift 14 = .ok (.if_icmp .lt 9, 3) := by decide +kernel
theorem dX10_drift_17 : decode cX10_drift 17 = .ok (.iload_n 2, 1) := by decide +kernel
theorem dX10_drift_18 : decode cX10_drift 18 = .ok (.bipush 99, 2) := by decide +kernel
theorem dX10_drift_20 : decode cX10_drift 20 = .ok (.if_icmp .le 7, 3) := by decide +kernel
theorem dX10_drift_23 : decode cX10_drift 23 = .ok (.sipush (-1002), 3) := by decide +kernel
theorem dX10_drift_26 : decode cX10_drift 26 = .ok (.ireturn, 1) := by decide +kernel
theorem dX10_drift_27 : decode cX10_drift 27 = .ok (.iconst 0, 1) := by decide +kernel
theorem dX10_drift_28 : decode cX10_drift 28 = .ok (.istore_n 3, 1) := by decide +kernel
theorem dX10_drift_29 : decode cX10_drift 29 = .ok (.iload_n 3, 1) := by decide +kernel
theorem dX10_drift_30 : decode cX10_drift 30 = .ok (.iload_n 2, 1) := by decide +kernel
theorem dX10_drift_31 : decode cX10_drift 31 = .ok (.if_icmp .ge 36, 3) := by decide +kernel
theorem dX10_drift_34 : decode cX10_drift 34 = .ok (.aload_n 0, 1) := by decide +kernel
theorem dX10_drift_35 : decode cX10_drift 35 = .ok (.getfield 19, 3) := by decide +kernel
theorem dX10_drift_38 : decode cX10_drift 38 = .ok (.aload_n 0, 1) := by decide +kernel
theorem dX10_drift_39 : decode cX10_drift 39 = .ok (.getfield 47, 3) := by decide +kernel
theorem dX10_drift_42 : decode cX10_drift 42 = .ok (.getfield 94, 3) := by decide +kernel
theorem dX10_drift_45 : decode cX10_drift 45 = .ok (.iload_n 1, 1) := by decide +kernel
theorem dX10_drift_46 : decode cX10_drift 46 = .ok (.invokestatic 150, 3) := by decide +kernel
theorem dX10_drift_49 : decode cX10_drift 49 = .ok (.invokevirtual 208, 3) := by decide +kernel
theorem dX10_drift_52 : decode cX10_drift 52 = .ok (.ifCond .ne 15, 3) := by decide +kernel
theorem dX10_drift_55 : decode cX10_drift 55 = .ok (.aload_n 0, 1) := by decide +kernel
theorem dX10_drift_56 : decode cX10_drift 56 = .ok (.iload_n 1, 1) := by decide +kernel
theorem dX10_drift_57 : decode cX10_drift 57 = .ok (.invokevirtual 214, 3) := by decide +kernel
theorem dX10_drift_60 : decode cX10_drift 60 = .ok (.pop, 1) := by decide +kernel
theorem dX10_drift_61 : decode cX10_drift 61 = .ok (.iinc 3 1, 3) := by decide +kernel
theorem dX10_drift_64 : decode cX10_drift 64 = .ok (.goto (-35), 3) := by decide +kernel
theorem dX10_drift_67 : decode cX10_drift 67 = .ok (.aload_n 0, 1) := by decide +kernel
theorem dX10_drift_68 : decode cX10_drift 68 = .ok (.getfield 19, 3) := by decide +kernel
theorem dX10_drift_71 : decode cX10_drift 71 = .ok (.aload_n 0, 1) := by decide +kernel
theorem dX10_drift_72 : decode cX10_drift 72 = .ok (.getfield 47, 3) := by decide +kernel
theorem dX10_drift_75 : decode cX10_drift 75 = .ok (.getfield 94, 3) := by decide +kernel
theorem dX10_drift_78 : decode cX10_drift 78 = .ok (.iload_n 1, 1) := by decide +kernel
theorem dX10_drift_79 : decode cX10_drift 79 = .ok (.invokestatic 150, 3) := by decide +kernel
theorem dX10_drift_82 : decode cX10_drift 82 = .ok (.invokevirtual 208, 3) := by decide +kernel
theorem dX10_drift_85 : decode cX10_drift 85 = .ok (.ireturn, 1) := by decide +kernel
theorem dX10_comes_0 : decode cX10_comes 0 = .ok (.aload_n 0, 1) := by decide +kernel
theorem dX10_comes_1 : decode cX10_comes 1 = .ok (.iload_n 1, 1) := by decide +kernel
theorem dX10_comes_2 : decode cX10_comes 2 = .ok (.invokevirtual 198, 3) := by decide +kernel
theorem dX10_comes_5 : decode cX10_comes 5 = .ok (.ifCond .ne 7, 3) := by decide +kernel
theorem dX10_comes_8 : decode cX10_comes 8 = .ok (.sipush (-1001), 3) := by decide +kernel
theorem dX10_comes_11 : decode cX10_comes 11 = .ok (.ireturn, 1) := by decide +kernel
theorem dX10_comes_12 : decode cX10_comes 12 = .ok (.iload_n 2, 1) := by decide +kernel
theorem dX10_comes_13 : decode cX10_comes 13 = .ok (.ifCond .lt 8, 3) := by decide +kernel
theorem dX10_comes_16 : decode cX10_comes 16 = .ok (.iload_n 2, 1) := by decide +kernel
theorem dX10_comes_17 : decode cX10_comes 17 = .ok (.iconst 4, 1) := by decide +kernel
theorem dX10_comes_18 : decode cX10_comes 18 = .ok (.if_icmp .le 7, 3) := by decide +kernel
theorem dX10_comes_21 : decode cX10_comes 21 = .ok (.sipush (-1002), 3) := by decide +kernel
theorem dX10_comes_24 : decode cX10_comes 24 = .ok (.ireturn, 1) := by decide +kernel
theorem dX10_comes_25 : decode cX10_comes 25 = .ok (.aload_n 0, 1) := by decide +kernel
theorem dX10_comes_26 : decode cX10_comes 26 = .ok (.getfield 19, 3) := by decide +kernel
theorem dX10_comes_29 : decode cX10_comes 29 = .ok (.aload_n 0, 1) := by decide +kernel
theorem dX10_comes_30 : decode cX10_comes 30 = .ok (.getfield 47, 3) := by decide +kernel
theorem dX10_comes_33 : decode cX10_comes 33 = .ok (.getfield 94, 3) := by decide +kernel
theorem dX10_comes_36 : decode cX10_comes 36 = .ok (.iload_n 1, 1) := by decide +kernel
theorem dX10_comes_37 : decode cX10_comes 37 = .ok (.invokestatic 150, 3) := by decide +kernel
theorem dX10_comes_40 : decode cX10_comes 40 = .ok (.iconst (-1), 1) := by decide +kernel
theorem dX10_comes_41 : decode cX10_comes 41 = .ok (.iconst 1, 1) := by decide +kernel
theorem dX10_comes_42 : decode cX10_comes 42 = .ok (.invokevirtual 220, 3) := by decide +kernel
theorem dX10_comes_45 : decode cX10_comes 45 = .ok (.pop, 1) := by decide +kernel
theorem dX10_comes_46 : decode cX10_comes 46 = .ok (.iload_n 2, 1) := by decide +kernel
theorem dX10_comes_47 : decode cX10_comes 47 = .ok (.tableswitch 84 0 3 #[29, 37, 45, 61], 29) := by decide +kernel
theorem dX10_comes_76 : decode cX10_comes 76 = .ok (.aload_n 0, 1) := by decide +kernel
theorem dX10_comes_77 : decode cX10_comes 77 = .ok (.getfield 19, 3) := by decide +kernel
theorem dX10_comes_80 : decode cX10_comes 80 = .ok (.getfield 224, 3) := by decide +kernel
theorem dX10_comes_83 : decode cX10_comes 83 = .ok (.ireturn, 1) := by decide +kernel
theorem dX10_comes_84 : decode cX10_comes 84 = .ok (.aload_n 0, 1) := by decide +kernel
theorem dX10_comes_85 : decode cX10_comes 85 = .ok (.getfield 19, 3) := by decide +kernel
theorem dX10_comes_88 : decode cX10_comes 88 = .ok (.invokevirtual 227, 3) := by decide +kernel
theorem dX10_comes_91 : decode cX10_comes 91 = .ok (.ireturn, 1) := by decide +kernel
theorem dX10_comes_92 : decode cX10_comes 92 = .ok (.aload_n 0, 1) := by decide +kernel
theorem dX10_comes_93 : decode cX10_comes 93 = .ok (.getfield 19, 3) := by decide +kernel
theorem dX10_comes_96 : decode cX10_comes 96 = .ok (.getfield 231, 3) := by decide +kernel
theorem dX10_comes_99 : decode cX10_comes 99 = .ok (.ifCond .eq 7, 3) := by decide +kernel
theorem dX10_comes_102 : decode cX10_comes 102 = .ok (.iconst 1, 1) := by decide +kernel
theorem dX10_comes_103 : decode cX10_comes 103 = .ok (.goto 4, 3) := by decide +kernel
theorem dX10_comes_106 : decode cX10_comes 106 = .ok (.iconst 0, 1) := by decide +kernel
theorem dX10_comes_107 : decode cX10_comes 107 = .ok (.ireturn, 1) := by decide +kernel
theorem dX10_comes_108 : decode cX10_comes 108 = .ok (.aload_n 0, 1) := by decide +kernel
theorem dX10_comes_109 : decode cX10_comes 109 = .ok (.getfield 19, 3) := by decide +kernel
theorem dX10_comes_112 : decode cX10_comes 112 = .ok (.getfield 234, 3) := by decide +kernel
theorem dX10_comes_115 : decode cX10_comes 115 = .ok (.aload_n 0, 1) := by decide +kernel
theorem dX10_comes_116 : decode cX10_comes 116 = .ok (.getfield 19, 3) := by decide +kernel
theorem dX10_comes_119 : decode cX10_comes 119 = .ok (.getfield 224, 3) := by decide +kernel
theorem dX10_comes_122 : decode cX10_comes 122 = .ok (.if_icmp .ge 7, 3) := by decide +kernel
theorem dX10_comes_125 : decode cX10_comes 125 = .ok (.iconst 1, 1) := by decide +kernel
theorem dX10_comes_126 : decode cX10_comes 126 = .ok (.goto 4, 3) := by decide +kernel
theorem dX10_comes_129 : decode cX10_comes 129 = .ok (.iconst 0, 1) := by decide +kernel
theorem dX10_comes_130 : decode cX10_comes 130 = .ok (.ireturn, 1) := by decide +kernel
theorem dX10_comes_131 : decode cX10_comes 131 = .ok (.aload_n 0, 1) := by decide +kernel
theorem dX10_comes_132 : decode cX10_comes 132 = .ok (.getfield 19, 3) := by decide +kernel
theorem dX10_comes_135 : decode cX10_comes 135 = .ok (.invokevirtual 237, 3) := by decide +kernel
theorem dX10_comes_138 : decode cX10_comes 138 = .ok (.ireturn, 1) := by decide +kernel
theorem dX10_end_0 : decode cX10_end 0 = .ok (.aload_n 0, 1) := by decide +kernel
theorem dX10_end_1 : decode cX10_end 1 = .ok (.iload_n 1, 1) := by decide +kernel
theorem dX10_end_2 : decode cX10_end 2 = .ok (.invokevirtual 198, 3) := by decide +kernel
theorem dX10_end_5 : decode cX10_end 5 = .ok (.ifCond .ne 7, 3) := by decide +kernel
theorem dX10_end_8 : decode cX10_end 8 = .ok (.sipush (-1001), 3) := by decide +kernel
theorem dX10_end_11 : decode cX10_end 11 = .ok (.ireturn, 1) := by decide +kernel
theorem dX10_end_12 : decode cX10_end 12 = .ok (.aload_n 0, 1) := by decide +kernel
theorem dX10_end_13 : decode cX10_end 13 = .ok (.getfield 19, 3) := by decide +kernel
theorem dX10_end_16 : decode cX10_end 16 = .ok (.aload_n 0, 1) := by decide +kernel
theorem dX10_end_17 : decode cX10_end 17 = .ok (.getfield 47, 3) := by decide +kernel
theorem dX10_end_20 : decode cX10_end 20 = .ok (.getfield 94, 3) := by decide +kernel
theorem dX10_end_23 : decode cX10_end 23 = .ok (.iload_n 1, 1) := by decide +kernel
theorem dX10_end_24 : decode cX10_end 24 = .ok (.invokestatic 150, 3) := by decide +kernel
theorem dX10_end_27 : decode cX10_end 27 = .ok (.iconst (-1), 1) := by decide +kernel
theorem dX10_end_28 : decode cX10_end 28 = .ok (.iconst 0, 1) := by decide +kernel
theorem dX10_end_29 : decode cX10_end 29 = .ok (.invokevirtual 220, 3) := by decide +kernel
theorem dX10_end_32 : decode cX10_end 32 = .ok (.pop, 1) := by decide +kernel
theorem dX10_end_33 : decode cX10_end 33 = .ok (.aload_n 0, 1) := by decide +kernel
theorem dX10_end_34 : decode cX10_end 34 = .ok (.getfield 19, 3) := by decide +kernel
theorem dX10_end_37 : decode cX10_end 37 = .ok (.iload_n 2, 1) := by decide +kernel
theorem dX10_end_38 : decode cX10_end 38 = .ok (.invokevirtual 240, 3) := by decide +kernel
theorem dX10_end_41 : decode cX10_end 41 = .ok (.ireturn, 1) := by decide +kernel
theorem dX10_forces_0 : decode cX10_forces 0 = .ok (.aload_n 0, 1) := by decide +kernel
theorem dX10_forces_1 : decode cX10_forces 1 = .ok (.iload_n 1, 1) := by decide +kernel
theorem dX10_forces_2 : decode cX10_forces 2 = .ok (.invokevirtual 198, 3) := by decide +kernel
theorem dX10_forces_5 : decode cX10_forces 5 = .ok (.ifCond .ne 7, 3) := by decide +kernel
theorem dX10_forces_8 : decode cX10_forces 8 = .ok (.sipush (-1001), 3) := by decide +kernel
theorem dX10_forces_11 : decode cX10_forces 11 = .ok (.ireturn, 1) := by decide +kernel
theorem dX10_forces_12 : decode cX10_forces 12 = .ok (.iload_n 2, 1) := by decide +kernel
theorem dX10_forces_13 : decode cX10_forces 13 = .ok (.invokestatic 243, 3) := by decide +kernel
theorem dX10_forces_16 : decode cX10_forces 16 = .ok (.ifCond .ne 7, 3) := by decide +kernel
theorem dX10_forces_19 : decode cX10_forces 19 = .ok (.sipush (-1002), 3) := by decide +kernel
theorem dX10_forces_22 : decode cX10_forces 22 = .ok (.ireturn, 1) := by decide +kernel
theorem dX10_forces_23 : decode cX10_forces 23 = .ok (.aload_n 0, 1) := by decide +kernel
theorem dX10_forces_24 : decode cX10_forces 24 = .ok (.getfield 19, 3) := by decide +kernel
theorem dX10_forces_27 : decode cX10_forces 27 = .ok (.aload_n 0, 1) := by decide +kernel
theorem dX10_forces_28 : decode cX10_forces 28 = .ok (.getfield 47, 3) := by decide +kernel
theorem dX10_forces_31 : decode cX10_forces 31 = .ok (.getfield 94, 3) := by decide +kernel
theorem dX10_forces_34 : decode cX10_forces 34 = .ok (.iload_n 1, 1) := by decide +kernel
theorem dX10_forces_35 : decode cX10_forces 35 = .ok (.invokestatic 150, 3) := by decide +kernel
theorem dX10_forces_38 : decode cX10_forces 38 = .ok (.iload_n 2, 1) := by decide +kernel
theorem dX10_forces_39 : decode cX10_forces 39 = .ok (.iconst 0, 1) := by decide +kernel
theorem dX10_forces_40 : decode cX10_forces 40 = .ok (.invokevirtual 220, 3) := by decide +kernel
theorem dX10_forces_43 : decode cX10_forces 43 = .ok (.ireturn, 1) := by decide +kernel
theorem dX10_best_0 : decode cX10_best 0 = .ok (.aload_n 0, 1) := by decide +kernel
theorem dX10_best_1 : decode cX10_best 1 = .ok (.iload_n 1, 1) := by decide +kernel
theorem dX10_best_2 : decode cX10_best 2 = .ok (.invokevirtual 198, 3) := by decide +kernel
theorem dX10_best_5 : decode cX10_best 5 = .ok (.ifCond .ne 7, 3) := by decide +kernel
theorem dX10_best_8 : decode cX10_best 8 = .ok (.sipush (-1001), 3) := by decide +kernel
theorem dX10_best_11 : decode cX10_best 11 = .ok (.ireturn, 1) := by decide +kernel
theorem dX10_best_12 : decode cX10_best 12 = .ok (.iload_n 2, 1) := by decide +kernel
theorem dX10_best_13 : decode cX10_best 13 = .ok (.invokestatic 243, 3) := by decide +kernel
theorem dX10_best_16 : decode cX10_best 16 = .ok (.ifCond .ne 7, 3) := by decide +kernel
theorem dX10_best_19 : decode cX10_best 19 = .ok (.sipush (-1002), 3) := by decide +kernel
theorem dX10_best_22 : decode cX10_best 22 = .ok (.ireturn, 1) := by decide +kernel
theorem dX10_best_23 : decode cX10_best 23 = .ok (.aload_n 0, 1) := by decide +kernel
theorem dX10_best_24 : decode cX10_best 24 = .ok (.getfield 19, 3) := by decide +kernel
theorem dX10_best_27 : decode cX10_best 27 = .ok (.aload_n 0, 1) := by decide +kernel
theorem dX10_best_28 : decode cX10_best 28 = .ok (.getfield 47, 3) := by decide +kernel
theorem dX10_best_31 : decode cX10_best 31 = .ok (.getfield 94, 3) := by decide +kernel
theorem dX10_best_34 : decode cX10_best 34 = .ok (.iload_n 1, 1) := by decide +kernel
theorem dX10_best_35 : decode cX10_best 35 = .ok (.invokestatic 150, 3) := by decide +kernel
theorem dX10_best_38 : decode cX10_best 38 = .ok (.iload_n 2, 1) := by decide +kernel
theorem dX10_best_39 : decode cX10_best 39 = .ok (.invokevirtual 246, 3) := by decide +kernel
theorem dX10_best_42 : decode cX10_best 42 = .ok (.ireturn, 1) := by decide +kernel
theorem dX10_sure_0 : decode cX10_sure 0 = .ok (.aload_n 0, 1) := by decide +kernel
theorem dX10_sure_1 : decode cX10_sure 1 = .ok (.iload_n 1, 1) := by decide +kernel
theorem dX10_sure_2 : decode cX10_sure 2 = .ok (.invokevirtual 198, 3) := by decide +kernel
theorem dX10_sure_5 : decode cX10_sure 5 = .ok (.ifCond .ne 7, 3) := by decide +kernel
theorem dX10_sure_8 : decode cX10_sure 8 = .ok (.sipush (-1001), 3) := by decide +kernel
theorem dX10_sure_11 : decode cX10_sure 11 = .ok (.ireturn, 1) := by decide +kernel
theorem dX10_sure_12 : decode cX10_sure 12 = .ok (.aload_n 0, 1) := by decide +kernel
theorem dX10_sure_13 : decode cX10_sure 13 = .ok (.getfield 19, 3) := by decide +kernel
theorem dX10_sure_16 : decode cX10_sure 16 = .ok (.aload_n 0, 1) := by decide +kernel
theorem dX10_sure_17 : decode cX10_sure 17 = .ok (.getfield 47, 3) := by decide +kernel
theorem dX10_sure_20 : decode cX10_sure 20 = .ok (.getfield 94, 3) := by decide +kernel
theorem dX10_sure_23 : decode cX10_sure 23 = .ok (.iload_n 1, 1) := by decide +kernel
theorem dX10_sure_24 : decode cX10_sure 24 = .ok (.invokestatic 150, 3) := by decide +kernel
theorem dX10_sure_27 : decode cX10_sure 27 = .ok (.iconst (-1), 1) := by decide +kernel
theorem dX10_sure_28 : decode cX10_sure 28 = .ok (.iconst 0, 1) := by decide +kernel
theorem dX10_sure_29 : decode cX10_sure 29 = .ok (.invokevirtual 220, 3) := by decide +kernel
theorem dX10_sure_32 : decode cX10_sure 32 = .ok (.ireturn, 1) := by decide +kernel
theorem dX10_aside_0 : decode cX10_aside 0 = .ok (.aload_n 0, 1) := by decide +kernel
theorem dX10_aside_1 : decode cX10_aside 1 = .ok (.iload_n 1, 1) := by decide +kernel
theorem dX10_aside_2 : decode cX10_aside 2 = .ok (.invokevirtual 198, 3) := by decide +kernel
theorem dX10_aside_5 : decode cX10_aside 5 = .ok (.ifCond .ne 7, 3) := by decide +kernel
theorem dX10_aside_8 : decode cX10_aside 8 = .ok (.sipush (-1001), 3) := by decide +kernel
theorem dX10_aside_11 : decode cX10_aside 11 = .ok (.ireturn, 1) := by decide +kernel
theorem dX10_aside_12 : decode cX10_aside 12 = .ok (.iload_n 2, 1) := by decide +kernel
theorem dX10_aside_13 : decode cX10_aside 13 = .ok (.invokestatic 243, 3) := by decide +kernel
theorem dX10_aside_16 : decode cX10_aside 16 = .ok (.ifCond .ne 7, 3) := by decide +kernel
theorem dX10_aside_19 : decode cX10_aside 19 = .ok (.sipush (-1002), 3) := by decide +kernel
theorem dX10_aside_22 : decode cX10_aside 22 = .ok (.ireturn, 1) := by decide +kernel
theorem dX10_aside_23 : decode cX10_aside 23 = .ok (.aload_n 0, 1) := by decide +kernel
theorem dX10_aside_24 : decode cX10_aside 24 = .ok (.getfield 47, 3) := by decide +kernel
theorem dX10_aside_27 : decode cX10_aside 27 = .ok (.getfield 83, 3) := by decide +kernel
theorem dX10_aside_30 : decode cX10_aside 30 = .ok (.getfield 131, 3) := by decide +kernel
theorem dX10_aside_33 : decode cX10_aside 33 = .ok (.bipush 12, 2) := by decide +kernel
theorem dX10_aside_35 : decode cX10_aside 35 = .ok (.if_icmp .le 7, 3) := by decide +kernel
theorem dX10_aside_38 : decode cX10_aside 38 = .ok (.sipush (-1003), 3) := by decide +kernel
theorem dX10_aside_41 : decode cX10_aside 41 = .ok (.ireturn, 1) := by decide +kernel
theorem dX10_aside_42 : decode cX10_aside 42 = .ok (.aload_n 0, 1) := by decide +kernel
theorem dX10_aside_43 : decode cX10_aside 43 = .ok (.aload_n 0, 1) := by decide +kernel
theorem dX10_aside_44 : decode cX10_aside 44 = .ok (.getfield 47, 3) := by decide +kernel
theorem dX10_aside_47 : decode cX10_aside 47 = .ok (.getfield 94, 3) := by decide +kernel
theorem dX10_aside_50 : decode cX10_aside 50 = .ok (.iload_n 1, 1) := by decide +kernel
theorem dX10_aside_51 : decode cX10_aside 51 = .ok (.invokestatic 150, 3) := by decide +kernel
theorem dX10_aside_54 : decode cX10_aside 54 = .ok (.iload_n 2, 1) := by decide +kernel
theorem dX10_aside_55 : decode cX10_aside 55 = .ok (.invokevirtual 249, 3) := by decide +kernel
theorem dX10_aside_58 : decode cX10_aside 58 = .ok (.ireturn, 1) := by decide +kernel
theorem dX10_fresh_0 : decode cX10_fresh 0 = .ok (.aload_n 0, 1) := by decide +kernel
theorem dX10_fresh_1 : decode cX10_fresh 1 = .ok (.iload_n 1, 1) := by decide +kernel
theorem dX10_fresh_2 : decode cX10_fresh 2 = .ok (.invokevirtual 198, 3) := by decide +kernel
theorem dX10_fresh_5 : decode cX10_fresh 5 = .ok (.ifCond .ne 7, 3) := by decide +kernel
theorem dX10_fresh_8 : decode cX10_fresh 8 = .ok (.sipush (-1001), 3) := by decide +kernel
theorem dX10_fresh_11 : decode cX10_fresh 11 = .ok (.ireturn, 1) := by decide +kernel
theorem dX10_fresh_12 : decode cX10_fresh 12 = .ok (.iload_n 2, 1) := by decide +kernel
theorem dX10_fresh_13 : decode cX10_fresh 13 = .ok (.invokestatic 243, 3) := by decide +kernel
theorem dX10_fresh_16 : decode cX10_fresh 16 = .ok (.ifCond .eq 12, 3) := by decide +kernel
theorem dX10_fresh_19 : decode cX10_fresh 19 = .ok (.iload_n 3, 1) := by decide +kernel
theorem dX10_fresh_20 : decode cX10_fresh 20 = .ok (.ifCond .lt 8, 3) := by decide +kernel
theorem dX10_fresh_23 : decode cX10_fresh 23 = .ok (.iload_n 3, 1) := by decide +kernel
theorem dX10_fresh_24 : decode cX10_fresh 24 = .ok (.iconst 2, 1) := by decide +kernel
theorem dX10_fresh_25 : decode cX10_fresh 25 = .ok (.if_icmp .le 7, 3) := by decide +kernel
theorem dX10_fresh_28 : decode cX10_fresh 28 = .ok (.sipush (-1002), 3) := by decide +kernel
theorem dX10_fresh_31 : decode cX10_fresh 31 = .ok (.ireturn, 1) := by decide +kernel
theorem dX10_fresh_32 : decode cX10_fresh 32 = .ok (.aload_n 0, 1) := by decide +kernel
theorem dX10_fresh_33 : decode cX10_fresh 33 = .ok (.getfield 33, 3) := by decide +kernel
theorem dX10_fresh_36 : decode cX10_fresh 36 = .ok (.aload_n 0, 1) := by decide +kernel
theorem dX10_fresh_37 : decode cX10_fresh 37 = .ok (.getfield 19, 3) := by decide +kernel
theorem dX10_fresh_40 : decode cX10_fresh 40 = .ok (.aload_n 0, 1) := by decide +kernel
theorem dX10_fresh_41 : decode cX10_fresh 41 = .ok (.getfield 47, 3) := by decide +kernel
theorem dX10_fresh_44 : decode cX10_fresh 44 = .ok (.getfield 94, 3) := by decide +kernel
theorem dX10_fresh_47 : decode cX10_fresh 47 = .ok (.iload_n 1, 1) := by decide +kernel
theorem dX10_fresh_48 : decode cX10_fresh 48 = .ok (.invokestatic 150, 3) := by decide +kernel
theorem dX10_fresh_51 : decode cX10_fresh 51 = .ok (.iload_n 2, 1) := by decide +kernel
theorem dX10_fresh_52 : decode cX10_fresh 52 = .ok (.invokevirtual 252, 3) := by decide +kernel
theorem dX10_fresh_55 : decode cX10_fresh 55 = .ok (.iload_n 3, 1) := by decide +kernel
theorem dX10_fresh_56 : decode cX10_fresh 56 = .ok (.ifCond .ne 11, 3) := by decide +kernel
theorem dX10_fresh_59 : decode cX10_fresh 59 = .ok (.aload_n 0, 1) := by decide +kernel
theorem dX10_fresh_60 : decode cX10_fresh 60 = .ok (.getfield 33, 3) := by decide +kernel
theorem dX10_fresh_63 : decode cX10_fresh 63 = .ok (.getfield 256, 3) := by decide +kernel
theorem dX10_fresh_66 : decode cX10_fresh 66 = .ok (.ireturn, 1) := by decide +kernel
theorem dX10_fresh_67 : decode cX10_fresh 67 = .ok (.aload_n 0, 1) := by decide +kernel
theorem dX10_fresh_68 : decode cX10_fresh 68 = .ok (.getfield 33, 3) := by decide +kernel
theorem dX10_fresh_71 : decode cX10_fresh 71 = .ok (.iload_n 3, 1) := by decide +kernel
theorem dX10_fresh_72 : decode cX10_fresh 72 = .ok (.invokevirtual 259, 3) := by decide +kernel
theorem dX10_fresh_75 : decode cX10_fresh 75 = .ok (.ireturn, 1) := by decide +kernel
theorem dX10_most_0 : decode cX10_most 0 = .ok (.iload_n 1, 1) := by decide +kernel
theorem dX10_most_1 : decode cX10_most 1 = .ok (.ifCond .eq 12, 3) := by decide +kernel
theorem dX10_most_4 : decode cX10_most 4 = .ok (.iload_n 1, 1) := by decide +kernel
theorem dX10_most_5 : decode cX10_most 5 = .ok (.iconst 1, 1) := by decide +kernel
theorem dX10_most_6 : decode cX10_most 6 = .ok (.if_icmp .eq 7, 3) := by decide +kernel
theorem dX10_most_9 : decode cX10_most 9 = .ok (.sipush (-1002), 3) := by decide +kernel
theorem dX10_most_12 : decode cX10_most 12 = .ok (.ireturn, 1) := by decide +kernel
theorem dX10_most_13 : decode cX10_most 13 = .ok (.aload_n 0, 1) := by decide +kernel
theorem dX10_most_14 : decode cX10_most 14 = .ok (.getfield 58, 3) := by decide +kernel
theorem dX10_most_17 : decode cX10_most 17 = .ok (.getfield 128, 3) := by decide +kernel
theorem dX10_most_20 : decode cX10_most 20 = .ok (.bipush 8, 2) := by decide +kernel
theorem dX10_most_22 : decode cX10_most 22 = .ok (.if_icmp .le 7, 3) := by decide +kernel
theorem dX10_most_25 : decode cX10_most 25 = .ok (.sipush (-1003), 3) := by decide +kernel
theorem dX10_most_28 : decode cX10_most 28 = .ok (.ireturn, 1) := by decide +kernel
theorem dX10_most_29 : decode cX10_most 29 = .ok (.aload_n 0, 1) := by decide +kernel
theorem dX10_most_30 : decode cX10_most 30 = .ok (.getfield 26, 3) := by decide +kernel
theorem dX10_most_33 : decode cX10_most 33 = .ok (.aload_n 0, 1) := by decide +kernel
theorem dX10_most_34 : decode cX10_most 34 = .ok (.getfield 19, 3) := by decide +kernel
theorem dX10_most_37 : decode cX10_most 37 = .ok (.aload_n 0, 1) := by decide +kernel
theorem dX10_most_38 : decode cX10_most 38 = .ok (.getfield 58, 3) := by decide +kernel
theorem dX10_most_41 : decode cX10_most 41 = .ok (.iconst 0, 1) := by decide +kernel
theorem dX10_most_42 : decode cX10_most 42 = .ok (.invokevirtual 262, 3) := by decide +kernel
theorem dX10_most_45 : decode cX10_most 45 = .ok (.istore_n 2, 1) := by decide +kernel
theorem dX10_most_46 : decode cX10_most 46 = .ok (.iload_n 1, 1) := by decide +kernel
theorem dX10_most_47 : decode cX10_most 47 = .ok (.ifCond .ne 10, 3) := by decide +kernel
theorem dX10_most_50 : decode cX10_most 50 = .ok (.iload_n 2, 1) := by decide +kernel
theorem dX10_most_51 : decode cX10_most 51 = .ok (.invokestatic 266, 3) := by decide +kernel
theorem dX10_most_54 : decode cX10_most 54 = .ok (.goto 4, 3) := by decide +kernel
theorem dX10_most_57 : decode cX10_most 57 = .ok (.iload_n 2, 1) := by decide +kernel
theorem dX10_most_58 : decode cX10_most 58 = .ok (.ireturn, 1) := by decide +kernel
theorem dX10_worth_0 : decode cX10_worth 0 = .ok (.aload_n 0, 1) := by decide +kernel
theorem dX10_worth_1 : decode cX10_worth 1 = .ok (.iload_n 1, 1) := by decide +kernel
theorem dX10_worth_2 : decode cX10_worth 2 = .ok (.invokevirtual 163, 3) := by decide +kernel
theorem dX10_worth_5 : decode cX10_worth 5 = .ok (.ifCond .ne 7, 3) := by decide +kernel
theorem dX10_worth_8 : decode cX10_worth 8 = .ok (.sipush (-1001), 3) := by decide +kernel
theorem dX10_worth_11 : decode cX10_worth 11 = .ok (.ireturn, 1) := by decide +kernel
theorem dX10_worth_12 : decode cX10_worth 12 = .ok (.aload_n 0, 1) := by decide +kernel
theorem dX10_worth_13 : decode cX10_worth 13 = .ok (.getfield 58, 3) := by decide +kernel
theorem dX10_worth_16 : decode cX10_worth 16 = .ok (.getfield 128, 3) := by decide +kernel
theorem dX10_worth_19 : decode cX10_worth 19 = .ok (.bipush 8, 2) := by decide +kernel
theorem dX10_worth_21 : decode cX10_worth 21 = .ok (.if_icmp .le 7, 3) := by decide +kernel
theorem dX10_worth_24 : decode cX10_worth 24 = .ok (.sipush (-1003), 3) := by decide +kernel
theorem dX10_worth_27 : decode cX10_worth 27 = .ok (.ireturn, 1) := by decide +kernel
theorem dX10_worth_28 : decode cX10_worth 28 = .ok (.aload_n 0, 1) := by decide +kernel
theorem dX10_worth_29 : decode cX10_worth 29 = .ok (.getfield 26, 3) := by decide +kernel
theorem dX10_worth_32 : decode cX10_worth 32 = .ok (.aload_n 0, 1) := by decide +kernel
theorem dX10_worth_33 : decode cX10_worth 33 = .ok (.getfield 19, 3) := by decide +kernel
theorem dX10_worth_36 : decode cX10_worth 36 = .ok (.aload_n 0, 1) := by decide +kernel
theorem dX10_worth_37 : decode cX10_worth 37 = .ok (.getfield 58, 3) := by decide +kernel
theorem dX10_worth_40 : decode cX10_worth 40 = .ok (.iconst 0, 1) := by decide +kernel
theorem dX10_worth_41 : decode cX10_worth 41 = .ok (.invokevirtual 262, 3) := by decide +kernel
theorem dX10_worth_44 : decode cX10_worth 44 = .ok (.invokestatic 266, 3) := by decide +kernel
theorem dX10_worth_47 : decode cX10_worth 47 = .ok (.istore_n 2, 1) := by decide +kernel
theorem dX10_worth_48 : decode cX10_worth 48 = .ok (.iload_n 2, 1) := by decide +kernel
theorem dX10_worth_49 : decode cX10_worth 49 = .ok (.aload_n 0, 1) := by decide +kernel
theorem dX10_worth_50 : decode cX10_worth 50 = .ok (.getfield 26, 3) := by decide +kernel
theorem dX10_worth_53 : decode cX10_worth 53 = .ok (.aload_n 0, 1) := by decide +kernel
theorem dX10_worth_54 : decode cX10_worth 54 = .ok (.getfield 19, 3) := by decide +kernel
theorem dX10_worth_57 : decode cX10_worth 57 = .ok (.aload_n 0, 1) := by decide +kernel
theorem dX10_worth_58 : decode cX10_worth 58 = .ok (.getfield 58, 3) := by decide +kernel
theorem dX10_worth_61 : decode cX10_worth 61 = .ok (.iconst 1, 1) := by decide +kernel
theorem dX10_worth_62 : decode cX10_worth 62 = .ok (.iload_n 1, 1) := by decide +kernel
theorem dX10_worth_63 : decode cX10_worth 63 = .ok (.ishl, 1) := by decide +kernel
theorem dX10_worth_64 : decode cX10_worth 64 = .ok (.invokevirtual 262, 3) := by decide +kernel
theorem dX10_worth_67 : decode cX10_worth 67 = .ok (.invokestatic 266, 3) := by decide +kernel
theorem dX10_worth_70 : decode cX10_worth 70 = .ok (.isub, 1) := by decide +kernel
theorem dX10_worth_71 : decode cX10_worth 71 = .ok (.ireturn, 1) := by decide +kernel
theorem dX10_log_0 : decode cX10_log 0 = .ok (.aload_n 0, 1) := by decide +kernel
theorem dX10_log_1 : decode cX10_log 1 = .ok (.iload_n 1, 1) := by decide +kernel
theorem dX10_log_2 : decode cX10_log 2 = .ok (.invokevirtual 143, 3) := by decide +kernel
theorem dX10_log_5 : decode cX10_log 5 = .ok (.ifCond .eq 11, 3) := by decide +kernel
theorem dX10_log_8 : decode cX10_log 8 = .ok (.aload_n 0, 1) := by decide +kernel
theorem dX10_log_9 : decode cX10_log 9 = .ok (.iload_n 2, 1) := by decide +kernel
theorem dX10_log_10 : decode cX10_log 10 = .ok (.invokevirtual 143, 3) := by decide +kernel
theorem dX10_log_13 : decode cX10_log 13 = .ok (.ifCond .ne 7, 3) := by decide +kernel
theorem dX10_log_16 : decode cX10_log 16 = .ok (.sipush (-1001), 3) := by decide +kernel
theorem dX10_log_19 : decode cX10_log 19 = .ok (.ireturn, 1) := by decide +kernel
theorem dX10_log_20 : decode cX10_log 20 = .ok (.aload_n 0, 1) := by decide +kernel
theorem dX10_log_21 : decode cX10_log 21 = .ok (.getfield 40, 3) := by decide +kernel
theorem dX10_log_24 : decode cX10_log 24 = .ok (.getfield 137, 3) := by decide +kernel
theorem dX10_log_27 : decode cX10_log 27 = .ok (.bipush 40, 2) := by decide +kernel
theorem dX10_log_29 : decode cX10_log 29 = .ok (.if_icmp .lt 7, 3) := by decide +kernel
theorem dX10_log_32 : decode cX10_log 32 = .ok (.sipush (-1004), 3) := by decide +kernel
theorem dX10_log_35 : decode cX10_log 35 = .ok (.ireturn, 1) := by decide +kernel
theorem dX10_log_36 : decode cX10_log 36 = .ok (.aload_n 0, 1) := by decide +kernel
theorem dX10_log_37 : decode cX10_log 37 = .ok (.getfield 40, 3) := by decide +kernel
theorem dX10_log_40 : decode cX10_log 40 = .ok (.iload_n 1, 1) := by decide +kernel
theorem dX10_log_41 : decode cX10_log 41 = .ok (.iload_n 2, 1) := by decide +kernel
theorem dX10_log_42 : decode cX10_log 42 = .ok (.invokevirtual 271, 3) := by decide +kernel
theorem dX10_log_45 : decode cX10_log 45 = .ok (.aload_n 0, 1) := by decide +kernel
theorem dX10_log_46 : decode cX10_log 46 = .ok (.getfield 40, 3) := by decide +kernel
theorem dX10_log_49 : decode cX10_log 49 = .ok (.getfield 137, 3) := by decide +kernel
theorem dX10_log_52 : decode cX10_log 52 = .ok (.ireturn, 1) := by decide +kernel
theorem dX10_clear_0 : decode cX10_clear 0 = .ok (.aload_n 0, 1) := by decide +kernel
theorem dX10_clear_1 : decode cX10_clear 1 = .ok (.getfield 40, 3) := by decide +kernel
theorem dX10_clear_4 : decode cX10_clear 4 = .ok (.getfield 137, 3) := by decide +kernel
theorem dX10_clear_7 : decode cX10_clear 7 = .ok (.aload_n 0, 1) := by decide +kernel
theorem dX10_clear_8 : decode cX10_clear 8 = .ok (.getfield 40, 3) := by decide +kernel
theorem dX10_clear_11 : decode cX10_clear 11 = .ok (.getfield 140, 3) := by decide +kernel
theorem dX10_clear_14 : decode cX10_clear 14 = .ok (.iadd, 1) := by decide +kernel
theorem dX10_clear_15 : decode cX10_clear 15 = .ok (.istore_n 1, 1) := by decide +kernel
theorem dX10_clear_16 : decode cX10_clear 16 = .ok (.aload_n 0, 1) := by decide +kernel
theorem dX10_clear_17 : decode cX10_clear 17 = .ok (.getfield 40, 3) := by decide +kernel
theorem dX10_clear_20 : decode cX10_clear 20 = .ok (.invokevirtual 111, 3) := by decide +kernel
theorem dX10_clear_23 : decode cX10_clear 23 = .ok (.iload_n 1, 1) := by decide +kernel
theorem dX10_clear_24 : decode cX10_clear 24 = .ok (.ireturn, 1) := by decide +kernel
theorem dX10_judge_0 : decode cX10_judge 0 = .ok (.iload_n 1, 1) := by decide +kernel
theorem dX10_judge_1 : decode cX10_judge 1 = .ok (.ifCond .lt 8, 3) := by decide +kernel
theorem dX10_judge_4 : decode cX10_judge 4 = .ok (.iload_n 1, 1) := by decide +kernel
theorem dX10_judge_5 : decode cX10_judge 5 = .ok (.iconst 2, 1) := by decide +kernel
theorem dX10_judge_6 : decode cX10_judge 6 = .ok (.if_icmp .le 7, 3) := by decide +kernel
theorem dX10_judge_9 : decode cX10_judge 9 = .ok (.sipush (-1002), 3) := by decide +kernel
theorem dX10_judge_12 : decode cX10_judge 12 = .ok (.ireturn, 1) := by decide +kernel
theorem dX10_judge_13 : decode cX10_judge 13 = .ok (.aload_n 0, 1) := by decide +kernel
theorem dX10_judge_14 : decode cX10_judge 14 = .ok (.getfield 58, 3) := by decide +kernel
theorem dX10_judge_17 : decode cX10_judge 17 = .ok (.getfield 134, 3) := by decide +kernel
theorem dX10_judge_20 : decode cX10_judge 20 = .ok (.ifCond .ne 7, 3) := by decide +kernel
theorem dX10_judge_23 : decode cX10_judge 23 = .ok (.sipush (-1003), 3) := by decide +kernel
theorem dX10_judge_26 : decode cX10_judge 26 = .ok (.ireturn, 1) := by decide +kernel
theorem dX10_judge_27 : decode cX10_judge 27 = .ok (.aload_n 0, 1) := by decide +kernel
theorem dX10_judge_28 : decode cX10_judge 28 = .ok (.iconst 0, 1) := by decide +kernel
theorem dX10_judge_29 : decode cX10_judge 29 = .ok (.invokevirtual 98, 3) := by decide +kernel
theorem dX10_judge_32 : decode cX10_judge 32 = .ok (.istore_n 2, 1) := by decide +kernel
theorem dX10_judge_33 : decode cX10_judge 33 = .ok (.iconst (-1), 1) := by decide +kernel
theorem dX10_judge_34 : decode cX10_judge 34 = .ok (.istore_n 3, 1) := by decide +kernel
theorem dX10_judge_35 : decode cX10_judge 35 = .ok (.iconst 0, 1) := by decide +kernel
theorem dX10_judge_36 : decode cX10_judge 36 = .ok (.istore 4, 2) := by decide +kernel
theorem dX10_judge_38 : decode cX10_judge 38 = .ok (.iload 4, 2) := by decide +kernel
theorem dX10_judge_40 : decode cX10_judge 40 = .ok (.aload_n 0, 1) := by decide +kernel
theorem dX10_judge_41 : decode cX10_judge 41 = .ok (.getfield 40, 3) := by decide +kernel
theorem dX10_judge_44 : decode cX10_judge 44 = .ok (.getfield 137, 3) := by decide +kernel
theorem dX10_judge_47 : decode cX10_judge 47 = .ok (.if_icmp .ge 63, 3) := by decide +kernel
theorem dX10_judge_50 : decode cX10_judge 50 = .ok (.iload_n 3, 1) := by decide +kernel
theorem dX10_judge_51 : decode cX10_judge 51 = .ok (.iconst (-1), 1) := by decide +kernel
theorem dX10_judge_52 : decode cX10_judge 52 = .ok (.if_icmp .ne 58, 3) := by decide +kernel
theorem dX10_judge_55 : decode cX10_judge 55 = .ok (.aload_n 0, 1) := by decide +kernel
theorem dX10_judge_56 : decode cX10_judge 56 = .ok (.getfield 19, 3) := by decide +kernel
theorem dX10_judge_59 : decode cX10_judge 59 = .ok (.iload_n 2, 1) := by decide +kernel
theorem dX10_judge_60 : decode cX10_judge 60 = .ok (.aload_n 0, 1) := by decide +kernel
theorem dX10_judge_61 : decode cX10_judge 61 = .ok (.getfield 40, 3) := by decide +kernel
theorem dX10_judge_64 : decode cX10_judge 64 = .ok (.getfield 274, 3) := by decide +kernel
theorem dX10_judge_67 : decode cX10_judge 67 = .ok (.iload 4, 2) := by decide +kernel
theorem dX10_judge_69 : decode cX10_judge 69 = .ok (.invokestatic 150, 3) := by decide +kernel
theorem dX10_judge_72 : decode cX10_judge 72 = .ok (.aload_n 0, 1) := by decide +kernel
theorem dX10_judge_73 : decode cX10_judge 73 = .ok (.getfield 40, 3) := by decide +kernel
theorem dX10_judge_76 : decode cX10_judge 76 = .ok (.getfield 277, 3) := by decide +kernel
theorem dX10_judge_79 : decode cX10_judge 79 = .ok (.iload 4, 2) := by decide +kernel
theorem dX10_judge_81 : decode cX10_judge 81 = .ok (.invokestatic 150, 3) := by decide +kernel
theorem dX10_judge_84 : decode cX10_judge 84 = .ok (.invokevirtual 280, 3) := by decide +kernel
theorem dX10_judge_87 : decode cX10_judge 87 = .ok (.istore 5, 2) := by decide +kernel
theorem dX10_judge_89 : decode cX10_judge 89 = .ok (.iload 5, 2) := by decide +kernel
theorem dX10_judge_91 : decode cX10_judge 91 = .ok (.iconst (-1), 1) := by decide +kernel
theorem dX10_judge_92 : decode cX10_judge 92 = .ok (.if_icmp .ne 9, 3) := by decide +kernel
theorem dX10_judge_95 : decode cX10_judge 95 = .ok (.iload 4, 2) := by decide +kernel
theorem dX10_judge_97 : decode cX10_judge 97 = .ok (.istore_n 3, 1) := by decide +kernel
theorem dX10_judge_98 : decode cX10_judge 98 = .ok (.goto 6, 3) := by decide +kernel
theorem dX10_judge_101 : decode cX10_judge 101 = .ok (.iload 5, 2) := by decide +kernel
theorem dX10_judge_103 : decode cX10_judge 103 = .ok (.istore_n 2, 1) := by decide +kernel
theorem dX10_judge_104 : decode cX10_judge 104 = .ok (.iinc 4 1, 3) := by decide +kernel
theorem dX10_judge_107 : decode cX10_judge 107 = .ok (.goto (-69), 3) := by decide +kernel
theorem dX10_judge_110 : decode cX10_judge 110 = .ok (.iload_n 1, 1) := by decide +kernel
theorem dX10_judge_111 : decode cX10_judge 111 = .ok (.ifCond .ne 5, 3) := by decide +kernel
theorem dX10_judge_114 : decode cX10_judge 114 = .ok (.iload_n 3, 1) := by decide +kernel
theorem dX10_judge_115 : decode cX10_judge 115 = .ok (.ireturn, 1) := by decide +kernel
theorem dX10_judge_116 : decode cX10_judge 116 = .ok (.iload_n 1, 1) := by decide +kernel
theorem dX10_judge_117 : decode cX10_judge 117 = .ok (.iconst 1, 1) := by decide +kernel
theorem dX10_judge_118 : decode cX10_judge 118 = .ok (.if_icmp .ne 28, 3) := by decide +kernel
theorem dX10_judge_121 : decode cX10_judge 121 = .ok (.bipush 100, 2) := by decide +kernel
theorem dX10_judge_123 : decode cX10_judge 123 = .ok (.aload_n 0, 1) := by decide +kernel
theorem dX10_judge_124 : decode cX10_judge 124 = .ok (.getfield 19, 3) := by decide +kernel
theorem dX10_judge_127 : decode cX10_judge 127 = .ok (.iload_n 2, 1) := by decide +kernel
theorem dX10_judge_128 : decode cX10_judge 128 = .ok (.iconst 0, 1) := by decide +kernel
theorem dX10_judge_129 : decode cX10_judge 129 = .ok (.invokevirtual 201, 3) := by decide +kernel
theorem dX10_judge_132 : decode cX10_judge 132 = .ok (.imul, 1) := by decide +kernel
theorem dX10_judge_133 : decode cX10_judge 133 = .ok (.aload_n 0, 1) := by decide +kernel
theorem dX10_judge_134 : decode cX10_judge 134 = .ok (.getfield 19, 3) := by decide +kernel
theorem dX10_judge_137 : decode cX10_judge 137 = .ok (.iload_n 2, 1) := by decide +kernel
theorem dX10_judge_138 : decode cX10_judge 138 = .ok (.iconst 1, 1) := by decide +kernel
theorem dX10_judge_139 : decode cX10_judge 139 = .ok (.invokevirtual 201, 3) := by decide +kernel
theorem dX10_judge_142 : decode cX10_judge 142 = .ok (.iadd, 1) := by decide +kernel
theorem dX10_judge_143 : decode cX10_judge 143 = .ok (.goto 11, 3) := by decide +kernel
theorem dX10_judge_146 : decode cX10_judge 146 = .ok (.aload_n 0, 1) := by decide +kernel
theorem dX10_judge_147 : decode cX10_judge 147 = .ok (.getfield 19, 3) := by decide +kernel
theorem dX10_judge_150 : decode cX10_judge 150 = .ok (.iload_n 2, 1) := by decide +kernel
theorem dX10_judge_151 : decode cX10_judge 151 = .ok (.invokevirtual 208, 3) := by decide +kernel
theorem dX10_judge_154 : decode cX10_judge 154 = .ok (.ireturn, 1) := by decide +kernel
theorem dX10_seen_0 : decode cX10_seen 0 = .ok (.aload_n 0, 1) := by decide +kernel
theorem dX10_seen_1 : decode cX10_seen 1 = .ok (.iload_n 2, 1) := by decide +kernel
theorem dX10_seen_2 : decode cX10_seen 2 = .ok (.invokevirtual 143, 3) := by decide +kernel
theorem dX10_seen_5 : decode cX10_seen 5 = .ok (.ifCond .ne 7, 3) := by decide +kernel
theorem dX10_seen_8 : decode cX10_seen 8 = .ok (.sipush (-1001), 3) := by decide +kernel
theorem dX10_seen_11 : decode cX10_seen 11 = .ok (.ireturn, 1) := by decide +kernel
theorem dX10_seen_12 : decode cX10_seen 12 = .ok (.iload_n 1, 1) := by decide +kernel
theorem dX10_seen_13 : decode cX10_seen 13 = .ok (.ifCond .lt 9, 3) := by decide +kernel
theorem dX10_seen_16 : decode cX10_seen 16 = .ok (.iload_n 1, 1) := by decide +kernel
theorem dX10_seen_17 : decode cX10_seen 17 = .ok (.bipush 40, 2) := by decide +kernel
theorem dX10_seen_19 : decode cX10_seen 19 = .ok (.if_icmp .le 7, 3) := by decide +kernel
theorem dX10_seen_22 : decode cX10_seen 22 = .ok (.sipush (-1002), 3) := by decide +kernel
theorem dX10_seen_25 : decode cX10_seen 25 = .ok (.ireturn, 1) := by decide +kernel
theorem dX10_seen_26 : decode cX10_seen 26 = .ok (.aload_n 0, 1) := by decide +kernel
theorem dX10_seen_27 : decode cX10_seen 27 = .ok (.getfield 40, 3) := by decide +kernel
theorem dX10_seen_30 : decode cX10_seen 30 = .ok (.getfield 140, 3) := by decide +kernel
theorem dX10_seen_33 : decode cX10_seen 33 = .ok (.bipush 20, 2) := by decide +kernel
theorem dX10_seen_35 : decode cX10_seen 35 = .ok (.if_icmp .lt 7, 3) := by decide +kernel
theorem dX10_seen_38 : decode cX10_seen 38 = .ok (.sipush (-1004), 3) := by decide +kernel
theorem dX10_seen_41 : decode cX10_seen 41 = .ok (.ireturn, 1) := by decide +kernel
theorem dX10_seen_42 : decode cX10_seen 42 = .ok (.aload_n 0, 1) := by decide +kernel
theorem dX10_seen_43 : decode cX10_seen 43 = .ok (.getfield 40, 3) := by decide +kernel
theorem dX10_seen_46 : decode cX10_seen 46 = .ok (.iload_n 1, 1) := by decide +kernel
theorem dX10_seen_47 : decode cX10_seen 47 = .ok (.iload_n 2, 1) := by decide +kernel
theorem dX10_seen_48 : decode cX10_seen 48 = .ok (.iload_n 3, 1) := by decide +kernel
theorem dX10_seen_49 : decode cX10_seen 49 = .ok (.invokevirtual 284, 3) := by decide +kernel
theorem dX10_seen_52 : decode cX10_seen 52 = .ok (.aload_n 0, 1) := by decide +kernel
theorem dX10_seen_53 : decode cX10_seen 53 = .ok (.getfield 40, 3) := by decide +kernel
theorem dX10_seen_56 : decode cX10_seen 56 = .ok (.getfield 140, 3) := by decide +kernel
theorem dX10_seen_59 : decode cX10_seen 59 = .ok (.ireturn, 1) := by decide +kernel
theorem dX10_have_0 : decode cX10_have 0 = .ok (.iload_n 1, 1) := by decide +kernel
theorem dX10_have_1 : decode cX10_have 1 = .ok (.ifCond .lt 9, 3) := by decide +kernel
theorem dX10_have_4 : decode cX10_have 4 = .ok (.iload_n 1, 1) := by decide +kernel
theorem dX10_have_5 : decode cX10_have 5 = .ok (.bipush 40, 2) := by decide +kernel
theorem dX10_have_7 : decode cX10_have 7 = .ok (.if_icmp .le 7, 3) := by decide +kernel
theorem dX10_have_10 : decode cX10_have 10 = .ok (.sipush (-1002), 3) := by decide +kernel
theorem dX10_have_13 : decode cX10_have 13 = .ok (.ireturn, 1) := by decide +kernel
theorem dX10_have_14 : decode cX10_have 14 = .ok (.aload_n 0, 1) := by decide +kernel
theorem dX10_have_15 : decode cX10_have 15 = .ok (.getfield 58, 3) := by decide +kernel
theorem dX10_have_18 : decode cX10_have 18 = .ok (.getfield 134, 3) := by decide +kernel
theorem dX10_have_21 : decode cX10_have 21 = .ok (.ifCond .ne 7, 3) := by decide +kernel
theorem dX10_have_24 : decode cX10_have 24 = .ok (.sipush (-1003), 3) := by decide +kernel
theorem dX10_have_27 : decode cX10_have 27 = .ok (.ireturn, 1) := by decide +kernel
theorem dX10_have_28 : decode cX10_have 28 = .ok (.aload_n 0, 1) := by decide +kernel
theorem dX10_have_29 : decode cX10_have 29 = .ok (.getfield 19, 3) := by decide +kernel
theorem dX10_have_32 : decode cX10_have 32 = .ok (.aload_n 0, 1) := by decide +kernel
theorem dX10_have_33 : decode cX10_have 33 = .ok (.iconst 0, 1) := by decide +kernel
theorem dX10_have_34 : decode cX10_have 34 = .ok (.invokevirtual 98, 3) := by decide +kernel
theorem dX10_have_37 : decode cX10_have 37 = .ok (.iload_n 1, 1) := by decide +kernel
theorem dX10_have_38 : decode cX10_have 38 = .ok (.aload_n 0, 1) := by decide +kernel
theorem dX10_have_39 : decode cX10_have 39 = .ok (.getfield 40, 3) := by decide +kernel
theorem dX10_have_42 : decode cX10_have 42 = .ok (.invokevirtual 288, 3) := by decide +kernel
theorem dX10_have_45 : decode cX10_have 45 = .ok (.ireturn, 1) := by decide +kernel
theorem dX10_seed_0 : decode cX10_seed 0 = .ok (.iload_n 1, 1) := by decide +kernel
theorem dX10_seed_1 : decode cX10_seed 1 = .ok (.ifCond .ge 7, 3) := by decide +kernel
theorem dX10_seed_4 : decode cX10_seed 4 = .ok (.sipush (-1002), 3) := by decide +kernel
theorem dX10_seed_7 : decode cX10_seed 7 = .ok (.ireturn, 1) := by decide +kernel
theorem dX10_seed_8 : decode cX10_seed 8 = .ok (.aload_n 0, 1) := by decide +kernel
theorem dX10_seed_9 : decode cX10_seed 9 = .ok (.getfield 47, 3) := by decide +kernel
theorem dX10_seed_12 : decode cX10_seed 12 = .ok (.getfield 292, 3) := by decide +kernel
theorem dX10_seed_15 : decode cX10_seed 15 = .ok (.istore_n 2, 1) := by decide +kernel
theorem dX10_seed_16 : decode cX10_seed 16 = .ok (.aload_n 0, 1) := by decide +kernel
theorem dX10_seed_17 : decode cX10_seed 17 = .ok (.getfield 47, 3) := by decide +kernel
theorem dX10_seed_20 : decode cX10_seed 20 = .ok (.iload_n 1, 1) := by decide +kernel
theorem dX10_seed_21 : decode cX10_seed 21 = .ok (.putfield 292, 3) := by decide +kernel
theorem dX10_seed_24 : decode cX10_seed 24 = .ok (.iload_n 2, 1) := by decide +kernel
theorem dX10_seed_25 : decode cX10_seed 25 = .ok (.ireturn, 1) := by decide +kernel
theorem dX10_keep_0 : decode cX10_keep 0 = .ok (.aload_n 0, 1) := by decide +kernel
theorem dX10_keep_1 : decode cX10_keep 1 = .ok (.iload_n 1, 1) := by decide +kernel
theorem dX10_keep_2 : decode cX10_keep 2 = .ok (.invokevirtual 114, 3) := by decide +kernel
theorem dX10_keep_5 : decode cX10_keep 5 = .ok (.astore_n 2, 1) := by decide +kernel
theorem dX10_keep_6 : decode cX10_keep 6 = .ok (.aload_n 2, 1) := by decide +kernel
theorem dX10_keep_7 : decode cX10_keep 7 = .ok (.ifnonnull 7, 3) := by decide +kernel
theorem dX10_keep_10 : decode cX10_keep 10 = .ok (.sipush (-1001), 3) := by decide +kernel
theorem dX10_keep_13 : decode cX10_keep 13 = .ok (.ireturn, 1) := by decide +kernel
theorem dX10_keep_14 : decode cX10_keep 14 = .ok (.aload_n 2, 1) := by decide +kernel
theorem dX10_keep_15 : decode cX10_keep 15 = .ok (.aload_n 0, 1) := by decide +kernel
theorem dX10_keep_16 : decode cX10_keep 16 = .ok (.getfield 47, 3) := by decide +kernel
theorem dX10_keep_19 : decode cX10_keep 19 = .ok (.invokevirtual 295, 3) := by decide +kernel
theorem dX10_keep_22 : decode cX10_keep 22 = .ok (.aload_n 2, 1) := by decide +kernel
theorem dX10_keep_23 : decode cX10_keep 23 = .ok (.iconst 1, 1) := by decide +kernel
theorem dX10_keep_24 : decode cX10_keep 24 = .ok (.putfield 118, 3) := by decide +kernel
theorem dX10_keep_27 : decode cX10_keep 27 = .ok (.iconst 1, 1) := by decide +kernel
theorem dX10_keep_28 : decode cX10_keep 28 = .ok (.ireturn, 1) := by decide +kernel
theorem dX10_goBack_0 : decode cX10_goBack 0 = .ok (.aload_n 0, 1) := by decide +kernel
theorem dX10_goBack_1 : decode cX10_goBack 1 = .ok (.iload_n 1, 1) := by decide +kernel
theorem dX10_goBack_2 : decode cX10_goBack 2 = .ok (.invokevirtual 114, 3) := by decide +kernel
theorem dX10_goBack_5 : decode cX10_goBack 5 = .ok (.astore_n 2, 1) := by decide +kernel
theorem dX10_goBack_6 : decode cX10_goBack 6 = .ok (.aload_n 2, 1) := by decide +kernel
theorem dX10_goBack_7 : decode cX10_goBack 7 = .ok (.ifnonnull 7, 3) := by decide +kernel
theorem dX10_goBack_10 : decode cX10_goBack 10 = .ok (.sipush (-1001), 3) := by decide +kernel
theorem dX10_goBack_13 : decode cX10_goBack 13 = .ok (.ireturn, 1) := by decide +kernel
theorem dX10_goBack_14 : decode cX10_goBack 14 = .ok (.aload_n 2, 1) := by decide +kernel
theorem dX10_goBack_15 : decode cX10_goBack 15 = .ok (.getfield 118, 3) := by decide +kernel
theorem dX10_goBack_18 : decode cX10_goBack 18 = .ok (.ifCond .ne 7, 3) := by decide +kernel
theorem dX10_goBack_21 : decode cX10_goBack 21 = .ok (.sipush (-1003), 3) := by decide +kernel
theorem dX10_goBack_24 : decode cX10_goBack 24 = .ok (.ireturn, 1) := by decide +kernel
theorem dX10_goBack_25 : decode cX10_goBack 25 = .ok (.aload_n 0, 1) := by decide +kernel
theorem dX10_goBack_26 : decode cX10_goBack 26 = .ok (.getfield 47, 3) := by decide +kernel
theorem dX10_goBack_29 : decode cX10_goBack 29 = .ok (.aload_n 2, 1) := by decide +kernel
theorem dX10_goBack_30 : decode cX10_goBack 30 = .ok (.invokevirtual 295, 3) := by decide +kernel
theorem dX10_goBack_33 : decode cX10_goBack 33 = .ok (.aload_n 0, 1) := by decide +kernel
theorem dX10_goBack_34 : decode cX10_goBack 34 = .ok (.invokevirtual 122, 3) := by decide +kernel
theorem dX10_goBack_37 : decode cX10_goBack 37 = .ok (.iconst 1, 1) := by decide +kernel
theorem dX10_goBack_38 : decode cX10_goBack 38 = .ok (.ireturn, 1) := by decide +kernel
theorem dX10_isPerson_0 : decode cX10_isPerson 0 = .ok (.iload_n 1, 1) := by decide +kernel
theorem dX10_isPerson_1 : decode cX10_isPerson 1 = .ok (.ifCond .lt 18, 3) := by decide +kernel
theorem dX10_isPerson_4 : decode cX10_isPerson 4 = .ok (.iload_n 1, 1) := by decide +kernel
theorem dX10_isPerson_5 : decode cX10_isPerson 5 = .ok (.aload_n 0, 1) := by decide +kernel
theorem dX10_isPerson_6 : decode cX10_isPerson 6 = .ok (.getfield 58, 3) := by decide +kernel
theorem dX10_isPerson_9 : decode cX10_isPerson 9 = .ok (.getfield 125, 3) := by decide +kernel
theorem dX10_isPerson_12 : decode cX10_isPerson 12 = .ok (.if_icmp .ge 7, 3) := by decide +kernel
theorem dX10_isPerson_15 : decode cX10_isPerson 15 = .ok (.iconst 1, 1) := by decide +kernel
theorem dX10_isPerson_16 : decode cX10_isPerson 16 = .ok (.goto 4, 3) := by decide +kernel
theorem dX10_isPerson_19 : decode cX10_isPerson 19 = .ok (.iconst 0, 1) := by decide +kernel
theorem dX10_isPerson_20 : decode cX10_isPerson 20 = .ok (.ireturn, 1) := by decide +kernel
theorem dX10_isTurn_0 : decode cX10_isTurn 0 = .ok (.iload_n 1, 1) := by decide +kernel
theorem dX10_isTurn_1 : decode cX10_isTurn 1 = .ok (.ifCond .lt 18, 3) := by decide +kernel
theorem dX10_isTurn_4 : decode cX10_isTurn 4 = .ok (.iload_n 1, 1) := by decide +kernel
theorem dX10_isTurn_5 : decode cX10_isTurn 5 = .ok (.aload_n 0, 1) := by decide +kernel
theorem dX10_isTurn_6 : decode cX10_isTurn 6 = .ok (.getfield 58, 3) := by decide +kernel
theorem dX10_isTurn_9 : decode cX10_isTurn 9 = .ok (.getfield 128, 3) := by decide +kernel
theorem dX10_isTurn_12 : decode cX10_isTurn 12 = .ok (.if_icmp .ge 7, 3) := by decide +kernel
theorem dX10_isTurn_15 : decode cX10_isTurn 15 = .ok (.iconst 1, 1) := by decide +kernel
theorem dX10_isTurn_16 : decode cX10_isTurn 16 = .ok (.goto 4, 3) := by decide +kernel
theorem dX10_isTurn_19 : decode cX10_isTurn 19 = .ok (.iconst 0, 1) := by decide +kernel
theorem dX10_isTurn_20 : decode cX10_isTurn 20 = .ok (.ireturn, 1) := by decide +kernel
theorem dX10_isQuarrel_0 : decode cX10_isQuarrel 0 = .ok (.iload_n 1, 1) := by decide +kernel
theorem dX10_isQuarrel_1 : decode cX10_isQuarrel 1 = .ok (.ifCond .lt 18, 3) := by decide +kernel
theorem dX10_isQuarrel_4 : decode cX10_isQuarrel 4 = .ok (.iload_n 1, 1) := by decide +kernel
theorem dX10_isQuarrel_5 : decode cX10_isQuarrel 5 = .ok (.aload_n 0, 1) := by decide +kernel
theorem dX10_isQuarrel_6 : decode cX10_isQuarrel 6 = .ok (.getfield 58, 3) := by decide +kernel
theorem dX10_isQuarrel_9 : decode cX10_isQuarrel 9 = .ok (.getfield 134, 3) := by decide +kernel
theorem dX10_isQuarrel_12 : decode cX10_isQuarrel 12 = .ok (.if_icmp .ge 7, 3) := by decide +kernel
theorem dX10_isQuarrel_15 : decode cX10_isQuarrel 15 = .ok (.iconst 1, 1) := by decide +kernel
theorem dX10_isQuarrel_16 : decode cX10_isQuarrel 16 = .ok (.goto 4, 3) := by decide +kernel
theorem dX10_isQuarrel_19 : decode cX10_isQuarrel 19 = .ok (.iconst 0, 1) := by decide +kernel
theorem dX10_isQuarrel_20 : decode cX10_isQuarrel 20 = .ok (.ireturn, 1) := by decide +kernel
theorem dX10_isSide_0 : decode cX10_isSide 0 = .ok (.iload_n 0, 1) := by decide +kernel
theorem dX10_isSide_1 : decode cX10_isSide 1 = .ok (.ifCond .eq 8, 3) := by decide +kernel
theorem dX10_isSide_4 : decode cX10_isSide 4 = .ok (.iload_n 0, 1) := by decide +kernel
theorem dX10_isSide_5 : decode cX10_isSide 5 = .ok (.iconst 1, 1) := by decide +kernel
theorem dX10_isSide_6 : decode cX10_isSide 6 = .ok (.if_icmp .ne 7, 3) := by decide +kernel
theorem dX10_isSide_9 : decode cX10_isSide 9 = .ok (.iconst 1, 1) := by decide +kernel
theorem dX10_isSide_10 : decode cX10_isSide 10 = .ok (.goto 4, 3) := by decide +kernel
theorem dX10_isSide_13 : decode cX10_isSide 13 = .ok (.iconst 0, 1) := by decide +kernel
theorem dX10_isSide_14 : decode cX10_isSide 14 = .ok (.ireturn, 1) := by decide +kernel
theorem dX10_imageAt_0 : decode cX10_imageAt 0 = .ok (.aload_n 0, 1) := by decide +kernel
theorem dX10_imageAt_1 : decode cX10_imageAt 1 = .ok (.getfield 51, 3) := by decide +kernel
theorem dX10_imageAt_4 : decode cX10_imageAt 4 = .ok (.ifnull 25, 3) := by decide +kernel
theorem dX10_imageAt_7 : decode cX10_imageAt 7 = .ok (.iload_n 1, 1) := by decide +kernel
theorem dX10_imageAt_8 : decode cX10_imageAt 8 = .ok (.ifCond .lt 21, 3) := by decide +kernel
theorem dX10_imageAt_11 : decode cX10_imageAt 11 = .ok (.iload_n 1, 1) := by decide +kernel
theorem dX10_imageAt_12 : decode cX10_imageAt 12 = .ok (.aload_n 0, 1) := by decide +kernel
theorem dX10_imageAt_13 : decode cX10_imageAt 13 = .ok (.getfield 51, 3) := by decide +kernel
theorem dX10_imageAt_16 : decode cX10_imageAt 16 = .ok (.arraylength, 1) := by decide +kernel
theorem dX10_imageAt_17 : decode cX10_imageAt 17 = .ok (.if_icmp .ge 12, 3) := by decide +kernel
theorem dX10_imageAt_20 : decode cX10_imageAt 20 = .ok (.aload_n 0, 1) := by decide +kernel
theorem dX10_imageAt_21 : decode cX10_imageAt 21 = .ok (.getfield 51, 3) := by decide +kernel
theorem dX10_imageAt_24 : decode cX10_imageAt 24 = .ok (.iload_n 1, 1) := by decide +kernel
theorem dX10_imageAt_25 : decode cX10_imageAt 25 = .ok (.aaload, 1) := by decide +kernel
theorem dX10_imageAt_26 : decode cX10_imageAt 26 = .ok (.goto 4, 3) := by decide +kernel
theorem dX10_imageAt_29 : decode cX10_imageAt 29 = .ok (.aconst_null, 1) := by decide +kernel
theorem dX10_imageAt_30 : decode cX10_imageAt 30 = .ok (.areturn, 1) := by decide +kernel
theorem dX10_toldHow_0 : decode cX10_toldHow 0 = .ok (.aload_n 0, 1) := by decide +kernel
theorem dX10_toldHow_1 : decode cX10_toldHow 1 = .ok (.getfield 58, 3) := by decide +kernel
theorem dX10_toldHow_4 : decode cX10_toldHow 4 = .ok (.getfield 298, 3) := by decide +kernel
theorem dX10_toldHow_7 : decode cX10_toldHow 7 = .ok (.iload_n 1, 1) := by decide +kernel
theorem dX10_toldHow_8 : decode cX10_toldHow 8 = .ok (.invokestatic 150, 3) := by decide +kernel
theorem dX10_toldHow_11 : decode cX10_toldHow 11 = .ok (.aload_n 0, 1) := by decide +kernel
theorem dX10_toldHow_12 : decode cX10_toldHow 12 = .ok (.getfield 58, 3) := by decide +kernel
theorem dX10_toldHow_15 : decode cX10_toldHow 15 = .ok (.getfield 301, 3) := by decide +kernel
theorem dX10_toldHow_18 : decode cX10_toldHow 18 = .ok (.iload_n 1, 1) := by decide +kernel
theorem dX10_toldHow_19 : decode cX10_toldHow 19 = .ok (.invokestatic 150, 3) := by decide +kernel
theorem dX10_toldHow_22 : decode cX10_toldHow 22 = .ok (.iconst 0, 1) := by decide +kernel
theorem dX10_toldHow_23 : decode cX10_toldHow 23 = .ok (.invokestatic 304, 3) := by decide +kernel
theorem dX10_toldHow_26 : decode cX10_toldHow 26 = .ok (.ireturn, 1) := by decide +kernel
theorem dX10_settle_0 : decode cX10_settle 0 = .ok (.aload_n 0, 1) := by decide +kernel
theorem dX10_settle_1 : decode cX10_settle 1 = .ok (.getfield 19, 3) := by decide +kernel
theorem dX10_settle_4 : decode cX10_settle 4 = .ok (.getfield 307, 3) := by decide +kernel
theorem dX10_settle_7 : decode cX10_settle 7 = .ok (.aload_n 0, 1) := by decide +kernel
theorem dX10_settle_8 : decode cX10_settle 8 = .ok (.getfield 58, 3) := by decide +kernel
theorem dX10_settle_11 : decode cX10_settle 11 = .ok (.aload_n 0, 1) := by decide +kernel
theorem dX10_settle_12 : decode cX10_settle 12 = .ok (.getfield 47, 3) := by decide +kernel
theorem dX10_settle_15 : decode cX10_settle 15 = .ok (.getfield 178, 3) := by decide +kernel
theorem dX10_settle_18 : decode cX10_settle 18 = .ok (.aload_n 0, 1) := by decide +kernel
theorem dX10_settle_19 : decode cX10_settle 19 = .ok (.getfield 47, 3) := by decide +kernel
theorem dX10_settle_22 : decode cX10_settle 22 = .ok (.getfield 181, 3) := by decide +kernel
theorem dX10_settle_25 : decode cX10_settle 25 = .ok (.ifCond .eq 7, 3) := by decide +kernel
theorem dX10_settle_28 : decode cX10_settle 28 = .ok (.iconst 1, 1) := by decide +kernel
theorem dX10_settle_29 : decode cX10_settle 29 = .ok (.goto 4, 3) := by decide +kernel
theorem dX10_settle_32 : decode cX10_settle 32 = .ok (.iconst 0, 1) := by decide +kernel
theorem dX10_settle_33 : decode cX10_settle 33 = .ok (.invokevirtual 311, 3) := by decide +kernel
theorem dX10_settle_36 : decode cX10_settle 36 = .ok (.aload_n 0, 1) := by decide +kernel
theorem dX10_settle_37 : decode cX10_settle 37 = .ok (.getfield 19, 3) := by decide +kernel
theorem dX10_settle_40 : decode cX10_settle 40 = .ok (.aload_n 0, 1) := by decide +kernel
theorem dX10_settle_41 : decode cX10_settle 41 = .ok (.getfield 47, 3) := by decide +kernel
theorem dX10_settle_44 : decode cX10_settle 44 = .ok (.getfield 83, 3) := by decide +kernel
theorem dX10_settle_47 : decode cX10_settle 47 = .ok (.invokevirtual 317, 3) := by decide +kernel
theorem dX10_settle_50 : decode cX10_settle 50 = .ok (.return_, 1) := by decide +kernel
theorem dX10_forgetFromWhom_0 : decode cX10_forgetFromWhom 0 = .ok (.iconst 0, 1) := by decide +kernel
theorem dX10_forgetFromWhom_1 : decode cX10_forgetFromWhom 1 = .ok (.istore_n 1, 1) := by decide +kernel
theorem dX10_forgetFromWhom_2 : decode cX10_forgetFromWhom 2 = .ok (.iload_n 1, 1) := by decide +kernel
theorem dX10_forgetFromWhom_3 : decode cX10_forgetFromWhom 3 = .ok (.aload_n 0, 1) := by decide +kernel
theorem dX10_forgetFromWhom_4 : decode cX10_forgetFromWhom 4 = .ok (.getfield 58, 3) := by decide +kernel
theorem dX10_forgetFromWhom_7 : decode cX10_forgetFromWhom 7 = .ok (.getfield 134, 3) := by decide +kernel
theorem dX10_forgetFromWhom_10 : decode cX10_forgetFromWhom 10 = .ok (.if_icmp .ge 56, 3) := by decide +kernel
theorem dX10_forgetFromWhom_13 : decode cX10_forgetFromWhom 13 = .ok (.aload_n 0, 1) := by decide +kernel
theorem dX10_forgetFromWhom_14 : decode cX10_forgetFromWhom 14 = .ok (.getfield 47, 3) := by decide +kernel
theorem dX10_forgetFromWhom_17 : decode cX10_forgetFromWhom 17 = .ok (.getfield 94, 3) := by decide +kernel
theorem dX10_forgetFromWhom_20 : decode cX10_forgetFromWhom 20 = .ok (.iload_n 1, 1) := by decide +kernel
theorem dX10_forgetFromWhom_21 : decode cX10_forgetFromWhom 21 = .ok (.invokestatic 150, 3) := by decide +kernel
theorem dX10_forgetFromWhom_24 : decode cX10_forgetFromWhom 24 = .ok (.istore_n 2, 1) := by decide +kernel
theorem dX10_forgetFromWhom_25 : decode cX10_forgetFromWhom 25 = .ok (.aload_n 0, 1) := by decide +kernel
theorem dX10_forgetFromWhom_26 : decode cX10_forgetFromWhom 26 = .ok (.getfield 47, 3) := by decide +kernel
theorem dX10_forgetFromWhom_29 : decode cX10_forgetFromWhom 29 = .ok (.getfield 94, 3) := by decide +kernel
theorem dX10_forgetFromWhom_32 : decode cX10_forgetFromWhom 32 = .ok (.iload_n 1, 1) := by decide +kernel
theorem dX10_forgetFromWhom_33 : decode cX10_forgetFromWhom 33 = .ok (.aload_n 0, 1) := by decide +kernel
theorem dX10_forgetFromWhom_34 : decode cX10_forgetFromWhom 34 = .ok (.getfield 19, 3) := by decide +kernel
theorem dX10_forgetFromWhom_37 : decode cX10_forgetFromWhom 37 = .ok (.iload_n 2, 1) := by decide +kernel
theorem dX10_forgetFromWhom_38 : decode cX10_forgetFromWhom 38 = .ok (.iconst 0, 1) := by decide +kernel
theorem dX10_forgetFromWhom_39 : decode cX10_forgetFromWhom 39 = .ok (.invokevirtual 201, 3) := by decide +kernel
theorem dX10_forgetFromWhom_42 : decode cX10_forgetFromWhom 42 = .ok (.aload_n 0, 1) := by decide +kernel
theorem dX10_forgetFromWhom_43 : decode cX10_forgetFromWhom 43 = .ok (.getfield 19, 3) := by decide +kernel
theorem dX10_forgetFromWhom_46 : decode cX10_forgetFromWhom 46 = .ok (.iload_n 2, 1) := by decide +kernel
theorem dX10_forgetFromWhom_47 : decode cX10_forgetFromWhom 47 = .ok (.iconst 1, 1) := by decide +kernel
theorem dX10_forgetFromWhom_48 : decode cX10_forgetFromWhom 48 = .ok (.invokevirtual 201, 3) := by decide +kernel
theorem dX10_forgetFromWhom_51 : decode cX10_forgetFromWhom 51 = .ok (.iload_n 2, 1) := by decide +kernel
theorem dX10_forgetFromWhom_52 : decode cX10_forgetFromWhom 52 = .ok (.iconst 1, 1) := by decide +kernel
theorem dX10_forgetFromWhom_53 : decode cX10_forgetFromWhom 53 = .ok (.iand, 1) := by decide +kernel
theorem dX10_forgetFromWhom_54 : decode cX10_forgetFromWhom 54 = .ok (.invokestatic 304, 3) := by decide +kernel
theorem dX10_forgetFromWhom_57 : decode cX10_forgetFromWhom 57 = .ok (.invokestatic 102, 3) := by decide +kernel
theorem dX10_forgetFromWhom_60 : decode cX10_forgetFromWhom 60 = .ok (.iinc 1 1, 3) := by decide +kernel
theorem dX10_forgetFromWhom_63 : decode cX10_forgetFromWhom 63 = .ok (.goto (-61), 3) := by decide +kernel
theorem dX10_forgetFromWhom_66 : decode cX10_forgetFromWhom 66 = .ok (.return_, 1) := by decide +kernel
theorem dX10_handTo_0 : decode cX10_handTo 0 = .ok (.aload_n 0, 1) := by decide +kernel
theorem dX10_handTo_1 : decode cX10_handTo 1 = .ok (.getfield 47, 3) := by decide +kernel
theorem dX10_handTo_4 : decode cX10_handTo 4 = .ok (.getfield 94, 3) := by decide +kernel
theorem dX10_handTo_7 : decode cX10_handTo 7 = .ok (.iload_n 1, 1) := by decide +kernel
theorem dX10_handTo_8 : decode cX10_handTo 8 = .ok (.invokestatic 150, 3) := by decide +kernel
theorem dX10_handTo_11 : decode cX10_handTo 11 = .ok (.istore_n 3, 1) := by decide +kernel
theorem dX10_handTo_12 : decode cX10_handTo 12 = .ok (.aload_n 0, 1) := by decide +kernel
theorem dX10_handTo_13 : decode cX10_handTo 13 = .ok (.iload_n 1, 1) := by decide +kernel
theorem dX10_handTo_14 : decode cX10_handTo 14 = .ok (.aload_n 0, 1) := by decide +kernel
theorem dX10_handTo_15 : decode cX10_handTo 15 = .ok (.getfield 19, 3) := by decide +kernel
theorem dX10_handTo_18 : decode cX10_handTo 18 = .ok (.iload_n 3, 1) := by decide +kernel
theorem dX10_handTo_19 : decode cX10_handTo 19 = .ok (.aload_n 0, 1) := by decide +kernel
theorem dX10_handTo_20 : decode cX10_handTo 20 = .ok (.getfield 19, 3) := by decide +kernel
theorem dX10_handTo_23 : decode cX10_handTo 23 = .ok (.iload_n 3, 1) := by decide +kernel
theorem dX10_handTo_24 : decode cX10_handTo 24 = .ok (.iload_n 2, 1) := by decide +kernel
theorem dX10_handTo_25 : decode cX10_handTo 25 = .ok (.invokevirtual 320, 3) := by decide +kernel
theorem dX10_handTo_28 : decode cX10_handTo 28 = .ok (.invokevirtual 323, 3) := by decide +kernel
theorem dX10_handTo_31 : decode cX10_handTo 31 = .ok (.invokevirtual 326, 3) := by decide +kernel
theorem dX10_handTo_34 : decode cX10_handTo 34 = .ok (.return_, 1) := by decide +kernel
theorem dX10_handByDraw_0 : decode cX10_handByDraw 0 = .ok (.aload_n 0, 1) := by decide +kernel
theorem dX10_handByDraw_1 : decode cX10_handByDraw 1 = .ok (.getfield 47, 3) := by decide +kernel
theorem dX10_handByDraw_4 : decode cX10_handByDraw 4 = .ok (.getfield 94, 3) := by decide +kernel
theorem dX10_handByDraw_7 : decode cX10_handByDraw 7 = .ok (.iload_n 1, 1) := by decide +kernel
theorem dX10_handByDraw_8 : decode cX10_handByDraw 8 = .ok (.invokestatic 150, 3) := by decide +kernel
theorem dX10_handByDraw_11 : decode cX10_handByDraw 11 = .ok (.istore_n 2, 1) := by decide +kernel
theorem dX10_handByDraw_12 : decode cX10_handByDraw 12 = .ok (.aload_n 0, 1) := by decide +kernel
theorem dX10_handByDraw_13 : decode cX10_handByDraw 13 = .ok (.getfield 19, 3) := by decide +kernel
theorem dX10_handByDraw_16 : decode cX10_handByDraw 16 = .ok (.iload_n 2, 1) := by decide +kernel
theorem dX10_handByDraw_17 : decode cX10_handByDraw 17 = .ok (.invokevirtual 211, 3) := by decide +kernel
theorem dX10_handByDraw_20 : decode cX10_handByDraw 20 = .ok (.istore_n 3, 1) := by decide +kernel
theorem dX10_handByDraw_21 : decode cX10_handByDraw 21 = .ok (.iload_n 3, 1) := by decide +kernel
theorem dX10_handByDraw_22 : decode cX10_handByDraw 22 = .ok (.ifCond .ne 13, 3) := by decide +kernel
theorem dX10_handByDraw_25 : decode cX10_handByDraw 25 = .ok (.aload_n 0, 1) := by decide +kernel
theorem dX10_handByDraw_26 : decode cX10_handByDraw 26 = .ok (.iload_n 1, 1) := by decide +kernel
theorem dX10_handByDraw_27 : decode cX10_handByDraw 27 = .ok (.iload_n 2, 1) := by decide +kernel
theorem dX10_handByDraw_28 : decode cX10_handByDraw 28 = .ok (.iconst 1, 1) := by decide +kernel
theorem dX10_handByDraw_29 : decode cX10_handByDraw 29 = .ok (.ixor, 1) := by decide +kernel
theorem dX10_handByDraw_30 : decode cX10_handByDraw 30 = .ok (.invokevirtual 326, 3) := by decide +kernel
theorem dX10_handByDraw_33 : decode cX10_handByDraw 33 = .ok (.iconst (-1), 1) := by decide +kernel
theorem dX10_handByDraw_34 : decode cX10_handByDraw 34 = .ok (.ireturn, 1) := by decide +kernel
theorem dX10_handByDraw_35 : decode cX10_handByDraw 35 = .ok (.iload_n 3, 1) := by decide +kernel
theorem dX10_handByDraw_36 : decode cX10_handByDraw 36 = .ok (.aload_n 0, 1) := by decide +kernel
theorem dX10_handByDraw_37 : decode cX10_handByDraw 37 = .ok (.iload_n 3, 1) := by decide +kernel
theorem dX10_handByDraw_38 : decode cX10_handByDraw 38 = .ok (.invokestatic 266, 3) := by decide +kernel
theorem dX10_handByDraw_41 : decode cX10_handByDraw 41 = .ok (.invokevirtual 329, 3) := by decide +kernel
theorem dX10_handByDraw_44 : decode cX10_handByDraw 44 = .ok (.invokestatic 332, 3) := by decide +kernel
theorem dX10_handByDraw_47 : decode cX10_handByDraw 47 = .ok (.istore 4, 2) := by decide +kernel
theorem dX10_handByDraw_49 : decode cX10_handByDraw 49 = .ok (.aload_n 0, 1) := by decide +kernel
theorem dX10_handByDraw_50 : decode cX10_handByDraw 50 = .ok (.iload_n 1, 1) := by decide +kernel
theorem dX10_handByDraw_51 : decode cX10_handByDraw 51 = .ok (.iload 4, 2) := by decide +kernel
theorem dX10_handByDraw_53 : decode cX10_handByDraw 53 = .ok (.invokevirtual 217, 3) := by decide +kernel
theorem dX10_handByDraw_56 : decode cX10_handByDraw 56 = .ok (.iload 4, 2) := by decide +kernel
theorem dX10_handByDraw_58 : decode cX10_handByDraw 58 = .ok (.ireturn, 1) := by decide +kernel
theorem dX10_setHow_0 : decode cX10_setHow 0 = .ok (.aload_n 0, 1) := by decide +kernel
theorem dX10_setHow_1 : decode cX10_setHow 1 = .ok (.getfield 47, 3) := by decide +kernel
theorem dX10_setHow_4 : decode cX10_setHow 4 = .ok (.getfield 94, 3) := by decide +kernel
theorem dX10_setHow_7 : decode cX10_setHow 7 = .ok (.iload_n 1, 1) := by decide +kernel
theorem dX10_setHow_8 : decode cX10_setHow 8 = .ok (.iload_n 2, 1) := by decide +kernel
theorem dX10_setHow_9 : decode cX10_setHow 9 = .ok (.invokestatic 102, 3) := by decide +kernel
theorem dX10_setHow_12 : decode cX10_setHow 12 = .ok (.aload_n 0, 1) := by decide +kernel
theorem dX10_setHow_13 : decode cX10_setHow 13 = .ok (.getfield 47, 3) := by decide +kernel
theorem dX10_setHow_16 : decode cX10_setHow 16 = .ok (.getfield 108, 3) := by decide +kernel
theorem dX10_setHow_19 : decode cX10_setHow 19 = .ok (.iload_n 1, 1) := by decide +kernel
theorem dX10_setHow_20 : decode cX10_setHow 20 = .ok (.aload_n 0, 1) := by decide +kernel
theorem dX10_setHow_21 : decode cX10_setHow 21 = .ok (.getfield 47, 3) := by decide +kernel
theorem dX10_setHow_24 : decode cX10_setHow 24 = .ok (.getfield 108, 3) := by decide +kernel
theorem dX10_setHow_27 : decode cX10_setHow 27 = .ok (.iload_n 1, 1) := by decide +kernel
theorem dX10_setHow_28 : decode cX10_setHow 28 = .ok (.invokestatic 150, 3) := by decide +kernel
theorem dX10_setHow_31 : decode cX10_setHow 31 = .ok (.iconst 1, 1) := by decide +kernel
theorem dX10_setHow_32 : decode cX10_setHow 32 = .ok (.iadd, 1) := by decide +kernel
theorem dX10_setHow_33 : decode cX10_setHow 33 = .ok (.invokestatic 102, 3) := by decide +kernel
theorem dX10_setHow_36 : decode cX10_setHow 36 = .ok (.return_, 1) := by decide +kernel
theorem dX10_draw_0 : decode cX10_draw 0 = .ok (.aload_n 0, 1) := by decide +kernel
theorem dX10_draw_1 : decode cX10_draw 1 = .ok (.getfield 47, 3) := by decide +kernel
theorem dX10_draw_4 : decode cX10_draw 4 = .ok (.aload_n 0, 1) := by decide +kernel
theorem dX10_draw_5 : decode cX10_draw 5 = .ok (.getfield 47, 3) := by decide +kernel
theorem dX10_draw_8 : decode cX10_draw 8 = .ok (.getfield 292, 3) := by decide +kernel
theorem dX10_draw_11 : decode cX10_draw 11 = .ok (.i2l, 1) := by decide +kernel
theorem dX10_draw_12 : decode cX10_draw 12 = .ok (.ldc2_w 335, 3) := by decide +kernel
theorem dX10_draw_15 : decode cX10_draw 15 = .ok (.lmul, 1) := by decide +kernel
theorem dX10_draw_16 : decode cX10_draw 16 = .ok (.ldc2_w 337, 3) := by decide +kernel
theorem dX10_draw_19 : decode cX10_draw 19 = .ok (.ladd, 1) := by decide +kernel
theorem dX10_draw_20 : decode cX10_draw 20 = .ok (.ldc2_w 339, 3) := by decide +kernel
theorem dX10_draw_23 : decode cX10_draw 23 = .ok (.land, 1) := by decide +kernel
theorem dX10_draw_24 : decode cX10_draw 24 = .ok (.l2i, 1) := by decide +kernel
theorem dX10_draw_25 : decode cX10_draw 25 = .ok (.putfield 292, 3) := by decide +kernel
theorem dX10_draw_28 : decode cX10_draw 28 = .ok (.iload_n 1, 1) := by decide +kernel
theorem dX10_draw_29 : decode cX10_draw 29 = .ok (.ifCond .le 19, 3) := by decide +kernel
theorem dX10_draw_32 : decode cX10_draw 32 = .ok (.aload_n 0, 1) := by decide +kernel
theorem dX10_draw_33 : decode cX10_draw 33 = .ok (.getfield 47, 3) := by decide +kernel
theorem dX10_draw_36 : decode cX10_draw 36 = .ok (.getfield 292, 3) := by decide +kernel
theorem dX10_draw_39 : decode cX10_draw 39 = .ok (.ldc_w 341, 3) := by decide +kernel
theorem dX10_draw_42 : decode cX10_draw 42 = .ok (.idiv, 1) := by decide +kernel
theorem dX10_draw_43 : decode cX10_draw 43 = .ok (.iload_n 1, 1) := by decide +kernel
theorem dX10_draw_44 : decode cX10_draw 44 = .ok (.irem, 1) := by decide +kernel
theorem dX10_draw_45 : decode cX10_draw 45 = .ok (.goto 4, 3) := by decide +kernel
theorem dX10_draw_48 : decode cX10_draw 48 = .ok (.iconst 0, 1) := by decide +kernel
theorem dX10_draw_49 : decode cX10_draw 49 = .ok (.ireturn, 1) := by decide +kernel
theorem dX10_fewestLaidAside_0 : decode cX10_fewestLaidAside 0 = .ok (.aload_n 0, 1) := by decide +kernel
theorem dX10_fewestLaidAside_1 : decode cX10_fewestLaidAside 1 = .ok (.getfield 19, 3) := by decide +kernel
theorem dX10_fewestLaidAside_4 : decode cX10_fewestLaidAside 4 = .ok (.iload_n 1, 1) := by decide +kernel
theorem dX10_fewestLaidAside_5 : decode cX10_fewestLaidAside 5 = .ok (.iload_n 2, 1) := by decide +kernel
theorem dX10_fewestLaidAside_6 : decode cX10_fewestLaidAside 6 = .ok (.iconst 0, 1) := by decide +kernel
theorem dX10_fewestLaidAside_7 : decode cX10_fewestLaidAside 7 = .ok (.invokevirtual 220, 3) := by decide +kernel
theorem dX10_fewestLaidAside_10 : decode cX10_fewestLaidAside 10 = .ok (.iconst (-1), 1) := by decide +kernel
theorem dX10_fewestLaidAside_11 : decode cX10_fewestLaidAside 11 = .ok (.if_icmp .eq 5, 3) := by decide +kernel
theorem dX10_fewestLaidAside_14 : decode cX10_fewestLaidAside 14 = .ok (.iconst 0, 1) := by decide +kernel
theorem dX10_fewestLaidAside_15 : decode cX10_fewestLaidAside 15 = .ok (.ireturn, 1) := by decide +kernel
theorem dX10_fewestLaidAside_16 : decode cX10_fewestLaidAside 16 = .ok (.iconst 0, 1) := by decide +kernel
theorem dX10_fewestLaidAside_17 : decode cX10_fewestLaidAside 17 = .ok (.istore_n 3, 1) := by decide +kernel
theorem dX10_fewestLaidAside_18 : decode cX10_fewestLaidAside 18 = .ok (.iload_n 3, 1) := by decide +kernel
theorem dX10_fewestLaidAside_19 : decode cX10_fewestLaidAside 19 = .ok (.aload_n 0, 1) := by decide +kernel
theorem dX10_fewestLaidAside_20 : decode cX10_fewestLaidAside 20 = .ok (.getfield 47, 3) := by decide +kernel
theorem dX10_fewestLaidAside_23 : decode cX10_fewestLaidAside 23 = .ok (.getfield 83, 3) := by decide +kernel
theorem dX10_fewestLaidAside_26 : decode cX10_fewestLaidAside 26 = .ok (.getfield 131, 3) := by decide +kernel
theorem dX10_fewestLaidAside_29 : decode cX10_fewestLaidAside 29 = .ok (.if_icmp .ge 91, 3) := by decide +kernel
theorem dX10_fewestLaidAside_32 : decode cX10_fewestLaidAside 32 = .ok (.iload_n 3, 1) := by decide +kernel
theorem dX10_fewestLaidAside_33 : decode cX10_fewestLaidAside 33 = .ok (.bipush 12, 2) := by decide +kernel
theorem dX10_fewestLaidAside_35 : decode cX10_fewestLaidAside 35 = .ok (.if_icmp .ge 85, 3) := by decide +kernel
theorem dX10_fewestLaidAside_38 : decode cX10_fewestLaidAside 38 = .ok (.aload_n 0, 1) := by decide +kernel
theorem dX10_fewestLaidAside_39 : decode cX10_fewestLaidAside 39 = .ok (.getfield 47, 3) := by decide +kernel
theorem dX10_fewestLaidAside_42 : decode cX10_fewestLaidAside 42 = .ok (.getfield 83, 3) := by decide +kernel
theorem dX10_fewestLaidAside_45 : decode cX10_fewestLaidAside 45 = .ok (.getfield 172, 3) := by decide +kernel
theorem dX10_fewestLaidAside_48 : decode cX10_fewestLaidAside 48 = .ok (.iload_n 3, 1) := by decide +kernel
theorem dX10_fewestLaidAside_49 : decode cX10_fewestLaidAside 49 = .ok (.invokestatic 150, 3) := by decide +kernel
theorem dX10_fewestLaidAside_52 : decode cX10_fewestLaidAside 52 = .ok (.istore 4, 2) := by decide +kernel
theorem dX10_fewestLaidAside_54 : decode cX10_fewestLaidAside 54 = .ok (.aload_n 0, 1) := by decide +kernel
theorem dX10_fewestLaidAside_55 : decode cX10_fewestLaidAside 55 = .ok (.getfield 47, 3) := by decide +kernel
theorem dX10_fewestLaidAside_58 : decode cX10_fewestLaidAside 58 = .ok (.getfield 83, 3) := by decide +kernel
theorem dX10_fewestLaidAside_61 : decode cX10_fewestLaidAside 61 = .ok (.getfield 175, 3) := by decide +kernel
theorem dX10_fewestLaidAside_64 : decode cX10_fewestLaidAside 64 = .ok (.iload_n 3, 1) := by decide +kernel
theorem dX10_fewestLaidAside_65 : decode cX10_fewestLaidAside 65 = .ok (.invokestatic 150, 3) := by decide +kernel
theorem dX10_fewestLaidAside_68 : decode cX10_fewestLaidAside 68 = .ok (.istore 5, 2) := by decide +kernel
theorem dX10_fewestLaidAside_70 : decode cX10_fewestLaidAside 70 = .ok (.aload_n 0, 1) := by decide +kernel
theorem dX10_fewestLaidAside_71 : decode cX10_fewestLaidAside 71 = .ok (.getfield 19, 3) := by decide +kernel
theorem dX10_fewestLaidAside_74 : decode cX10_fewestLaidAside 74 = .ok (.iload 4, 2) := by decide +kernel
theorem dX10_fewestLaidAside_76 : decode cX10_fewestLaidAside 76 = .ok (.iload 5, 2) := by decide +kernel
theorem dX10_fewestLaidAside_78 : decode cX10_fewestLaidAside 78 = .ok (.invokevirtual 342, 3) := by decide +kernel
theorem dX10_fewestLaidAside_81 : decode cX10_fewestLaidAside 81 = .ok (.aload_n 0, 1) := by decide +kernel
theorem dX10_fewestLaidAside_82 : decode cX10_fewestLaidAside 82 = .ok (.getfield 19, 3) := by decide +kernel
theorem dX10_fewestLaidAside_85 : decode cX10_fewestLaidAside 85 = .ok (.iload_n 1, 1) := by decide +kernel
theorem dX10_fewestLaidAside_86 : decode cX10_fewestLaidAside 86 = .ok (.iload_n 2, 1) := by decide +kernel
theorem dX10_fewestLaidAside_87 : decode cX10_fewestLaidAside 87 = .ok (.iconst 0, 1) := by decide +kernel
theorem dX10_fewestLaidAside_88 : decode cX10_fewestLaidAside 88 = .ok (.invokevirtual 220, 3) := by decide +kernel
theorem dX10_fewestLaidAside_91 : decode cX10_fewestLaidAside 91 = .ok (.istore 6, 2) := by decide +kernel
theorem dX10_fewestLaidAside_93 : decode cX10_fewestLaidAside 93 = .ok (.aload_n 0, 1) := by decide +kernel
theorem dX10_fewestLaidAside_94 : decode cX10_fewestLaidAside 94 = .ok (.getfield 19, 3) := by decide +kernel
theorem dX10_fewestLaidAside_97 : decode cX10_fewestLaidAside 97 = .ok (.iload 4, 2) := by decide +kernel
theorem dX10_fewestLaidAside_99 : decode cX10_fewestLaidAside 99 = .ok (.iload 5, 2) := by decide +kernel
theorem dX10_fewestLaidAside_101 : decode cX10_fewestLaidAside 101 = .ok (.invokevirtual 342, 3) := by decide +kernel
theorem dX10_fewestLaidAside_104 : decode cX10_fewestLaidAside 104 = .ok (.iload 6, 2) := by decide +kernel
theorem dX10_fewestLaidAside_106 : decode cX10_fewestLaidAside 106 = .ok (.iconst (-1), 1) := by decide +kernel
theorem dX10_fewestLaidAside_107 : decode cX10_fewestLaidAside 107 = .ok (.if_icmp .eq 7, 3) := by decide +kernel
theorem dX10_fewestLaidAside_110 : decode cX10_fewestLaidAside 110 = .ok (.iconst 1, 1) := by decide +kernel
theorem dX10_fewestLaidAside_111 : decode cX10_fewestLaidAside 111 = .ok (.iload_n 3, 1) := by decide +kernel
theorem dX10_fewestLaidAside_112 : decode cX10_fewestLaidAside 112 = .ok (.ishl, 1) := by decide +kernel
theorem dX10_fewestLaidAside_113 : decode cX10_fewestLaidAside 113 = .ok (.ireturn, 1) := by decide +kernel
theorem dX10_fewestLaidAside_114 : decode cX10_fewestLaidAside 114 = .ok (.iinc 3 1, 3) := by decide +kernel
theorem dX10_fewestLaidAside_117 : decode cX10_fewestLaidAside 117 = .ok (.goto (-99), 3) := by decide +kernel
theorem dX10_fewestLaidAside_120 : decode cX10_fewestLaidAside 120 = .ok (.iconst (-1), 1) := by decide +kernel
theorem dX10_fewestLaidAside_121 : decode cX10_fewestLaidAside 121 = .ok (.ireturn, 1) := by decide +kernel
