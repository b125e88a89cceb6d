theorem dX0_init_0 : decode cX0_init 0 = .ok (.aload_n 0, 1) := by decide +kernel
theorem dX0_init_1 : decode cX0_init 1 = .ok (.invokespecial 3, 3) := by decide +kernel
theorem dX0_init_4 : decode cX0_init 4 = .ok (.return_, 1) := by decide +kernel
theorem dX0_begin_0 : decode cX0_begin 0 = .ok (.aload_n 0, 1) := by decide +kernel
theorem dX0_begin_1 : decode cX0_begin 1 = .ok (.iload_n 1, 1) := by decide +kernel
theorem dX0_begin_2 : decode cX0_begin 2 = .ok (.putfield 9, 3) := by decide +kernel
theorem dX0_begin_5 : decode cX0_begin 5 = .ok (.aload_n 0, 1) := by decide +kernel
theorem dX0_begin_6 : decode cX0_begin 6 = .ok (.iload_n 2, 1) := by decide +kernel
theorem dX0_begin_7 : decode cX0_begin 7 = .ok (.putfield 15, 3) := by decide +kernel
theorem dX0_begin_10 : decode cX0_begin 10 = .ok (.aload_n 0, 1) := by decide +kernel
theorem dX0_begin_11 : decode cX0_begin 11 = .ok (.iload_n 3, 1) := by decide +kernel
theorem dX0_begin_12 : decode cX0_begin 12 = .ok (.putfield 18, 3) := by decide +kernel
theorem dX0_begin_15 : decode cX0_begin 15 = .ok (.aload_n 0, 1) := by decide +kernel
theorem dX0_begin_16 : decode cX0_begin 16 = .ok (.invokevirtual 21, 3) := by decide +kernel
theorem dX0_begin_19 : decode cX0_begin 19 = .ok (.return_, 1) := by decide +kernel
theorem dX0_renew_0 : decode cX0_renew 0 = .ok (.aload_n 0, 1) := by decide +kernel
theorem dX0_renew_1 : decode cX0_renew 1 = .ok (.iconst 0, 1) := by decide +kernel
theorem dX0_renew_2 : decode cX0_renew 2 = .ok (.putfield 24, 3) := by decide +kernel
theorem dX0_renew_5 : decode cX0_renew 5 = .ok (.aload_n 0, 1) := by decide +kernel
theorem dX0_renew_6 : decode cX0_renew 6 = .ok (.iconst 0, 1) := by decide +kernel
theorem dX0_renew_7 : decode cX0_renew 7 = .ok (.putfield 27, 3) := by decide +kernel
theorem dX0_renew_10 : decode cX0_renew 10 = .ok (.aload_n 0, 1) := by decide +kernel
theorem dX0_renew_11 : decode cX0_renew 11 = .ok (.iconst 0, 1) := by decide +kernel
theorem dX0_renew_12 : decode cX0_renew 12 = .ok (.putfield 30, 3) := by decide +kernel
theorem dX0_renew_15 : decode cX0_renew 15 = .ok (.aload_n 0, 1) := by decide +kernel
theorem dX0_renew_16 : decode cX0_renew 16 = .ok (.aload_n 0, 1) := by decide +kernel
theorem dX0_renew_17 : decode cX0_renew 17 = .ok (.getfield 18, 3) := by decide +kernel
theorem dX0_renew_20 : decode cX0_renew 20 = .ok (.putfield 33, 3) := by decide +kernel
theorem dX0_renew_23 : decode cX0_renew 23 = .ok (.return_, 1) := by decide +kernel
theorem dX0_become_0 : decode cX0_become 0 = .ok (.aload_n 0, 1) := by decide +kernel
theorem dX0_become_1 : decode cX0_become 1 = .ok (.aload_n 1, 1) := by decide +kernel
theorem dX0_become_2 : decode cX0_become 2 = .ok (.getfield 9, 3) := by decide +kernel
theorem dX0_become_5 : decode cX0_become 5 = .ok (.putfield 9, 3) := by decide +kernel
theorem dX0_become_8 : decode cX0_become 8 = .ok (.aload_n 0, 1) := by decide +kernel
theorem dX0_become_9 : decode cX0_become 9 = .ok (.aload_n 1, 1) := by decide +kernel
theorem dX0_become_10 : decode cX0_become 10 = .ok (.getfield 15, 3) := by decide +kernel
theorem dX0_become_13 : decode cX0_become 13 = .ok (.putfield 15, 3) := by decide +kernel
theorem dX0_become_16 : decode cX0_become 16 = .ok (.aload_n 0, 1) := by decide +kernel
theorem dX0_become_17 : decode cX0_become 17 = .ok (.aload_n 1, 1) := by decide +kernel
theorem dX0_become_18 : decode cX0_become 18 = .ok (.getfield 18, 3) := by decide +kernel
theorem dX0_become_21 : decode cX0_become 21 = .ok (.putfield 18, 3) := by decide +kernel
theorem dX0_become_24 : decode cX0_become 24 = .ok (.aload_n 0, 1) := by decide +kernel
theorem dX0_become_25 : decode cX0_become 25 = .ok (.aload_n 1, 1) := by decide +kernel
theorem dX0_become_26 : decode cX0_become 26 = .ok (.getfield 24, 3) := by decide +kernel
theorem dX0_become_29 : decode cX0_become 29 = .ok (.putfield 24, 3) := by decide +kernel
theorem dX0_become_32 : decode cX0_become 32 = .ok (.aload_n 0, 1) := by decide +kernel
theorem dX0_become_33 : decode cX0_become 33 = .ok (.aload_n 1, 1) := by decide +kernel
theorem dX0_become_34 : decode cX0_become 34 = .ok (.getfield 27, 3) := by decide +kernel
theorem dX0_become_37 : decode cX0_become 37 = .ok (.putfield 27, 3) := by decide +kernel
theorem dX0_become_40 : decode cX0_become 40 = .ok (.aload_n 0, 1) := by decide +kernel
theorem dX0_become_41 : decode cX0_become 41 = .ok (.aload_n 1, 1) := by decide +kernel
theorem dX0_become_42 : decode cX0_become 42 = .ok (.getfield 30, 3) := by decide +kernel
theorem dX0_become_45 : decode cX0_become 45 = .ok (.putfield 30, 3) := by decide +kernel
theorem dX0_become_48 : decode cX0_become 48 = .ok (.aload_n 0, 1) := by decide +kernel
theorem dX0_become_49 : decode cX0_become 49 = .ok (.aload_n 1, 1) := by decide +kernel
theorem dX0_become_50 : decode cX0_become 50 = .ok (.getfield 33, 3) := by decide +kernel
theorem dX0_become_53 : decode cX0_become 53 = .ok (.putfield 33, 3) := by decide +kernel
theorem dX0_become_56 : decode cX0_become 56 = .ok (.return_, 1) := by decide +kernel
theorem dX0_isOf_0 : decode cX0_isOf 0 = .ok (.iload_n 1, 1) := by decide +kernel
theorem dX0_isOf_1 : decode cX0_isOf 1 = .ok (.tableswitch 73 0 2 #[27, 29, 51], 27) := by decide +kernel
theorem dX0_isOf_28 : decode cX0_isOf 28 = .ok (.iconst 1, 1) := by decide +kernel
theorem dX0_isOf_29 : decode cX0_isOf 29 = .ok (.ireturn, 1) := by decide +kernel
theorem dX0_isOf_30 : decode cX0_isOf 30 = .ok (.aload_n 0, 1) := by decide +kernel
theorem dX0_isOf_31 : decode cX0_isOf 31 = .ok (.getfield 9, 3) := by decide +kernel
theorem dX0_isOf_34 : decode cX0_isOf 34 = .ok (.iconst 1, 1) := by decide +kernel
theorem dX0_isOf_35 : decode cX0_isOf 35 = .ok (.if_icmp .eq 11, 3) := by decide +kernel
theorem dX0_isOf_38 : decode cX0_isOf 38 = .ok (.aload_n 0, 1) := by decide +kernel
theorem dX0_isOf_39 : decode cX0_isOf 39 = .ok (.getfield 9, 3) := by decide +kernel
theorem dX0_isOf_42 : decode cX0_isOf 42 = .ok (.iconst 4, 1) := by decide +kernel
theorem dX0_isOf_43 : decode cX0_isOf 43 = .ok (.if_icmp .ne 7, 3) := by decide +kernel
theorem dX0_isOf_46 : decode cX0_isOf 46 = .ok (.iconst 1, 1) := by decide +kernel
theorem dX0_isOf_47 : decode cX0_isOf 47 = .ok (.goto 4, 3) := by decide +kernel
theorem dX0_isOf_50 : decode cX0_isOf 50 = .ok (.iconst 0, 1) := by decide +kernel
theorem dX0_isOf_51 : decode cX0_isOf 51 = .ok (.ireturn, 1) := by decide +kernel
theorem dX0_isOf_52 : decode cX0_isOf 52 = .ok (.aload_n 0, 1) := by decide +kernel
theorem dX0_isOf_53 : decode cX0_isOf 53 = .ok (.getfield 9, 3) := by decide +kernel
theorem dX0_isOf_56 : decode cX0_isOf 56 = .ok (.iconst 2, 1) := by decide +kernel
theorem dX0_isOf_57 : decode cX0_isOf 57 = .ok (.if_icmp .eq 11, 3) := by decide +kernel
theorem dX0_isOf_60 : decode cX0_isOf 60 = .ok (.aload_n 0, 1) := by decide +kernel
theorem dX0_isOf_61 : decode cX0_isOf 61 = .ok (.getfield 9, 3) := by decide +kernel
theorem dX0_isOf_64 : decode cX0_isOf 64 = .ok (.iconst 5, 1) := by decide +kernel
theorem dX0_isOf_65 : decode cX0_isOf 65 = .ok (.if_icmp .ne 7, 3) := by decide +kernel
theorem dX0_isOf_68 : decode cX0_isOf 68 = .ok (.iconst 1, 1) := by decide +kernel
theorem dX0_isOf_69 : decode cX0_isOf 69 = .ok (.goto 4, 3) := by decide +kernel
theorem dX0_isOf_72 : decode cX0_isOf 72 = .ok (.iconst 0, 1) := by decide +kernel
theorem dX0_isOf_73 : decode cX0_isOf 73 = .ok (.ireturn, 1) := by decide +kernel
theorem dX0_isOf_74 : decode cX0_isOf 74 = .ok (.aload_n 0, 1) := by decide +kernel
theorem dX0_isOf_75 : decode cX0_isOf 75 = .ok (.getfield 9, 3) := by decide +kernel
theorem dX0_isOf_78 : decode cX0_isOf 78 = .ok (.iload_n 1, 1) := by decide +kernel
theorem dX0_isOf_79 : decode cX0_isOf 79 = .ok (.if_icmp .ne 7, 3) := by decide +kernel
theorem dX0_isOf_82 : decode cX0_isOf 82 = .ok (.iconst 1, 1) := by decide +kernel
theorem dX0_isOf_83 : decode cX0_isOf 83 = .ok (.goto 4, 3) := by decide +kernel
theorem dX0_isOf_86 : decode cX0_isOf 86 = .ok (.iconst 0, 1) := by decide +kernel
theorem dX0_isOf_87 : decode cX0_isOf 87 = .ok (.ireturn, 1) := by decide +kernel
theorem dX0_callsIn_0 : decode cX0_callsIn 0 = .ok (.aload_n 0, 1) := by decide +kernel
theorem dX0_callsIn_1 : decode cX0_callsIn 1 = .ok (.getfield 24, 3) := by decide +kernel
theorem dX0_callsIn_4 : decode cX0_callsIn 4 = .ok (.iconst 1, 1) := by decide +kernel
theorem dX0_callsIn_5 : decode cX0_callsIn 5 = .ok (.if_icmp .eq 21, 3) := by decide +kernel
theorem dX0_callsIn_8 : decode cX0_callsIn 8 = .ok (.aload_n 0, 1) := by decide +kernel
theorem dX0_callsIn_9 : decode cX0_callsIn 9 = .ok (.getfield 9, 3) := by decide +kernel
theorem dX0_callsIn_12 : decode cX0_callsIn 12 = .ok (.iconst 4, 1) := by decide +kernel
theorem dX0_callsIn_13 : decode cX0_callsIn 13 = .ok (.if_icmp .ne 9, 3) := by decide +kernel
theorem dX0_callsIn_16 : decode cX0_callsIn 16 = .ok (.iload_n 1, 1) := by decide +kernel
theorem dX0_callsIn_17 : decode cX0_callsIn 17 = .ok (.iconst 2, 1) := by decide +kernel
theorem dX0_callsIn_18 : decode cX0_callsIn 18 = .ok (.irem, 1) := by decide +kernel
theorem dX0_callsIn_19 : decode cX0_callsIn 19 = .ok (.ifCond .ne 7, 3) := by decide +kernel
theorem dX0_callsIn_22 : decode cX0_callsIn 22 = .ok (.iconst 1, 1) := by decide +kernel
theorem dX0_callsIn_23 : decode cX0_callsIn 23 = .ok (.goto 4, 3) := by decide +kernel
theorem dX0_callsIn_26 : decode cX0_callsIn 26 = .ok (.iconst 0, 1) := by decide +kernel
theorem dX0_callsIn_27 : decode cX0_callsIn 27 = .ok (.ireturn, 1) := by decide +kernel
theorem dX0_takeAnswer_0 : decode cX0_takeAnswer 0 = .ok (.aload_n 0, 1) := by decide +kernel
theorem dX0_takeAnswer_1 : decode cX0_takeAnswer 1 = .ok (.getfield 24, 3) := by decide +kernel
theorem dX0_takeAnswer_4 : decode cX0_takeAnswer 4 = .ok (.ifCond .ne 28, 3) := by decide +kernel
theorem dX0_takeAnswer_7 : decode cX0_takeAnswer 7 = .ok (.aload_n 0, 1) := by decide +kernel
theorem dX0_takeAnswer_8 : decode cX0_takeAnswer 8 = .ok (.iconst 1, 1) := by decide +kernel
theorem dX0_takeAnswer_9 : decode cX0_takeAnswer 9 = .ok (.invokevirtual 36, 3) := by decide +kernel
theorem dX0_takeAnswer_12 : decode cX0_takeAnswer 12 = .ok (.ifCond .eq 20, 3) := by decide +kernel
theorem dX0_takeAnswer_15 : decode cX0_takeAnswer 15 = .ok (.aload_n 0, 1) := by decide +kernel
theorem dX0_takeAnswer_16 : decode cX0_takeAnswer 16 = .ok (.iconst 0, 1) := by decide +kernel
theorem dX0_takeAnswer_17 : decode cX0_takeAnswer 17 = .ok (.aload_n 0, 1) := by decide +kernel
theorem dX0_takeAnswer_18 : decode cX0_takeAnswer 18 = .ok (.getfield 27, 3) := by decide +kernel
theorem dX0_takeAnswer_21 : decode cX0_takeAnswer 21 = .ok (.iconst 1, 1) := by decide +kernel
theorem dX0_takeAnswer_22 : decode cX0_takeAnswer 22 = .ok (.isub, 1) := by decide +kernel
theorem dX0_takeAnswer_23 : decode cX0_takeAnswer 23 = .ok (.invokestatic 40, 3) := by decide +kernel
theorem dX0_takeAnswer_26 : decode cX0_takeAnswer 26 = .ok (.putfield 27, 3) := by decide +kernel
theorem dX0_takeAnswer_29 : decode cX0_takeAnswer 29 = .ok (.goto 13, 3) := by decide +kernel
theorem dX0_takeAnswer_32 : decode cX0_takeAnswer 32 = .ok (.aload_n 0, 1) := by decide +kernel
theorem dX0_takeAnswer_33 : decode cX0_takeAnswer 33 = .ok (.iconst 0, 1) := by decide +kernel
theorem dX0_takeAnswer_34 : decode cX0_takeAnswer 34 = .ok (.putfield 24, 3) := by decide +kernel
theorem dX0_takeAnswer_37 : decode cX0_takeAnswer 37 = .ok (.aload_n 0, 1) := by decide +kernel
theorem dX0_takeAnswer_38 : decode cX0_takeAnswer 38 = .ok (.iconst 0, 1) := by decide +kernel
theorem dX0_takeAnswer_39 : decode cX0_takeAnswer 39 = .ok (.putfield 27, 3) := by decide +kernel
theorem dX0_takeAnswer_42 : decode cX0_takeAnswer 42 = .ok (.return_, 1) := by decide +kernel
theorem dX0_takeFault_0 : decode cX0_takeFault 0 = .ok (.aload_n 0, 1) := by decide +kernel
theorem dX0_takeFault_1 : decode cX0_takeFault 1 = .ok (.getfield 24, 3) := by decide +kernel
theorem dX0_takeFault_4 : decode cX0_takeFault 4 = .ok (.ifCond .ne 25, 3) := by decide +kernel
theorem dX0_takeFault_7 : decode cX0_takeFault 7 = .ok (.aload_n 0, 1) := by decide +kernel
theorem dX0_takeFault_8 : decode cX0_takeFault 8 = .ok (.dup, 1) := by decide +kernel
theorem dX0_takeFault_9 : decode cX0_takeFault 9 = .ok (.getfield 27, 3) := by decide +kernel
theorem dX0_takeFault_12 : decode cX0_takeFault 12 = .ok (.iconst 1, 1) := by decide +kernel
theorem dX0_takeFault_13 : decode cX0_takeFault 13 = .ok (.iadd, 1) := by decide +kernel
theorem dX0_takeFault_14 : decode cX0_takeFault 14 = .ok (.putfield 27, 3) := by decide +kernel
theorem dX0_takeFault_17 : decode cX0_takeFault 17 = .ok (.aload_n 0, 1) := by decide +kernel
theorem dX0_takeFault_18 : decode cX0_takeFault 18 = .ok (.getfield 27, 3) := by decide +kernel
theorem dX0_takeFault_21 : decode cX0_takeFault 21 = .ok (.aload_n 0, 1) := by decide +kernel
theorem dX0_takeFault_22 : decode cX0_takeFault 22 = .ok (.getfield 15, 3) := by decide +kernel
theorem dX0_takeFault_25 : decode cX0_takeFault 25 = .ok (.if_icmp .ge 4, 3) := by decide +kernel
theorem dX0_takeFault_28 : decode cX0_takeFault 28 = .ok (.return_, 1) := by decide +kernel
theorem dX0_takeFault_29 : decode cX0_takeFault 29 = .ok (.aload_n 0, 1) := by decide +kernel
theorem dX0_takeFault_30 : decode cX0_takeFault 30 = .ok (.getfield 9, 3) := by decide +kernel
theorem dX0_takeFault_33 : decode cX0_takeFault 33 = .ok (.iconst 5, 1) := by decide +kernel
theorem dX0_takeFault_34 : decode cX0_takeFault 34 = .ok (.if_icmp .ne 20, 3) := by decide +kernel
theorem dX0_takeFault_37 : decode cX0_takeFault 37 = .ok (.iload_n 1, 1) := by decide +kernel
theorem dX0_takeFault_38 : decode cX0_takeFault 38 = .ok (.iconst 4, 1) := by decide +kernel
theorem dX0_takeFault_39 : decode cX0_takeFault 39 = .ok (.irem, 1) := by decide +kernel
theorem dX0_takeFault_40 : decode cX0_takeFault 40 = .ok (.ifCond .ne 14, 3) := by decide +kernel
theorem dX0_takeFault_43 : decode cX0_takeFault 43 = .ok (.aload_n 0, 1) := by decide +kernel
theorem dX0_takeFault_44 : decode cX0_takeFault 44 = .ok (.aload_n 0, 1) := by decide +kernel
theorem dX0_takeFault_45 : decode cX0_takeFault 45 = .ok (.getfield 15, 3) := by decide +kernel
theorem dX0_takeFault_48 : decode cX0_takeFault 48 = .ok (.iconst 1, 1) := by decide +kernel
theorem dX0_takeFault_49 : decode cX0_takeFault 49 = .ok (.isub, 1) := by decide +kernel
theorem dX0_takeFault_50 : decode cX0_takeFault 50 = .ok (.putfield 27, 3) := by decide +kernel
theorem dX0_takeFault_53 : decode cX0_takeFault 53 = .ok (.return_, 1) := by decide +kernel
theorem dX0_takeFault_54 : decode cX0_takeFault 54 = .ok (.aload_n 0, 1) := by decide +kernel
theorem dX0_takeFault_55 : decode cX0_takeFault 55 = .ok (.iconst 1, 1) := by decide +kernel
theorem dX0_takeFault_56 : decode cX0_takeFault 56 = .ok (.putfield 24, 3) := by decide +kernel
theorem dX0_takeFault_59 : decode cX0_takeFault 59 = .ok (.aload_n 0, 1) := by decide +kernel
theorem dX0_takeFault_60 : decode cX0_takeFault 60 = .ok (.aload_n 0, 1) := by decide +kernel
theorem dX0_takeFault_61 : decode cX0_takeFault 61 = .ok (.getfield 33, 3) := by decide +kernel
theorem dX0_takeFault_64 : decode cX0_takeFault 64 = .ok (.putfield 30, 3) := by decide +kernel
theorem dX0_takeFault_67 : decode cX0_takeFault 67 = .ok (.aload_n 0, 1) := by decide +kernel
theorem dX0_takeFault_68 : decode cX0_takeFault 68 = .ok (.iconst 0, 1) := by decide +kernel
theorem dX0_takeFault_69 : decode cX0_takeFault 69 = .ok (.putfield 27, 3) := by decide +kernel
theorem dX0_takeFault_72 : decode cX0_takeFault 72 = .ok (.aload_n 0, 1) := by decide +kernel
theorem dX0_takeFault_73 : decode cX0_takeFault 73 = .ok (.iconst 2, 1) := by decide +kernel
theorem dX0_takeFault_74 : decode cX0_takeFault 74 = .ok (.invokevirtual 36, 3) := by decide +kernel
theorem dX0_takeFault_77 : decode cX0_takeFault 77 = .ok (.ifCond .eq 18, 3) := by decide +kernel
theorem dX0_takeFault_80 : decode cX0_takeFault 80 = .ok (.aload_n 0, 1) := by decide +kernel
theorem dX0_takeFault_81 : decode cX0_takeFault 81 = .ok (.bipush 40, 2) := by decide +kernel
theorem dX0_takeFault_83 : decode cX0_takeFault 83 = .ok (.iconst 2, 1) := by decide +kernel
theorem dX0_takeFault_84 : decode cX0_takeFault 84 = .ok (.aload_n 0, 1) := by decide +kernel
theorem dX0_takeFault_85 : decode cX0_takeFault 85 = .ok (.getfield 33, 3) := by decide +kernel
theorem dX0_takeFault_88 : decode cX0_takeFault 88 = .ok (.imul, 1) := by decide +kernel
theorem dX0_takeFault_89 : decode cX0_takeFault 89 = .ok (.invokestatic 46, 3) := by decide +kernel
theorem dX0_takeFault_92 : decode cX0_takeFault 92 = .ok (.putfield 33, 3) := by decide +kernel
theorem dX0_takeFault_95 : decode cX0_takeFault 95 = .ok (.return_, 1) := by decide +kernel
theorem dX0_restOneStep_0 : decode cX0_restOneStep 0 = .ok (.aload_n 0, 1) := by decide +kernel
theorem dX0_restOneStep_1 : decode cX0_restOneStep 1 = .ok (.dup, 1) := by decide +kernel
theorem dX0_restOneStep_2 : decode cX0_restOneStep 2 = .ok (.getfield 30, 3) := by decide +kernel
theorem dX0_restOneStep_5 : decode cX0_restOneStep 5 = .ok (.iconst 1, 1) := by decide +kernel
theorem dX0_restOneStep_6 : decode cX0_restOneStep 6 = .ok (.isub, 1) := by decide +kernel
theorem dX0_restOneStep_7 : decode cX0_restOneStep 7 = .ok (.putfield 30, 3) := by decide +kernel
theorem dX0_restOneStep_10 : decode cX0_restOneStep 10 = .ok (.aload_n 0, 1) := by decide +kernel
theorem dX0_restOneStep_11 : decode cX0_restOneStep 11 = .ok (.getfield 30, 3) := by decide +kernel
theorem dX0_restOneStep_14 : decode cX0_restOneStep 14 = .ok (.ifCond .gt 7, 3) := by decide +kernel
theorem dX0_restOneStep_17 : decode cX0_restOneStep 17 = .ok (.aload_n 0, 1) := by decide +kernel
theorem dX0_restOneStep_18 : decode cX0_restOneStep 18 = .ok (.invokevirtual 49, 3) := by decide +kernel
theorem dX0_restOneStep_21 : decode cX0_restOneStep 21 = .ok (.return_, 1) := by decide +kernel
theorem dX0_wake_0 : decode cX0_wake 0 = .ok (.aload_n 0, 1) := by decide +kernel
theorem dX0_wake_1 : decode cX0_wake 1 = .ok (.iconst 0, 1) := by decide +kernel
theorem dX0_wake_2 : decode cX0_wake 2 = .ok (.putfield 30, 3) := by decide +kernel
theorem dX0_wake_5 : decode cX0_wake 5 = .ok (.aload_n 0, 1) := by decide +kernel
theorem dX0_wake_6 : decode cX0_wake 6 = .ok (.getfield 9, 3) := by decide +kernel
theorem dX0_wake_9 : decode cX0_wake 9 = .ok (.iconst 3, 1) := by decide +kernel
theorem dX0_wake_10 : decode cX0_wake 10 = .ok (.if_icmp .ne 21, 3) := by decide +kernel
theorem dX0_wake_13 : decode cX0_wake 13 = .ok (.aload_n 0, 1) := by decide +kernel
theorem dX0_wake_14 : decode cX0_wake 14 = .ok (.iconst 0, 1) := by decide +kernel
theorem dX0_wake_15 : decode cX0_wake 15 = .ok (.putfield 24, 3) := by decide +kernel
theorem dX0_wake_18 : decode cX0_wake 18 = .ok (.aload_n 0, 1) := by decide +kernel
theorem dX0_wake_19 : decode cX0_wake 19 = .ok (.aload_n 0, 1) := by decide +kernel
theorem dX0_wake_20 : decode cX0_wake 20 = .ok (.getfield 15, 3) := by decide +kernel
theorem dX0_wake_23 : decode cX0_wake 23 = .ok (.iconst 1, 1) := by decide +kernel
theorem dX0_wake_24 : decode cX0_wake 24 = .ok (.isub, 1) := by decide +kernel
theorem dX0_wake_25 : decode cX0_wake 25 = .ok (.putfield 27, 3) := by decide +kernel
theorem dX0_wake_28 : decode cX0_wake 28 = .ok (.goto 8, 3) := by decide +kernel
theorem dX0_wake_31 : decode cX0_wake 31 = .ok (.aload_n 0, 1) := by decide +kernel
theorem dX0_wake_32 : decode cX0_wake 32 = .ok (.iconst 2, 1) := by decide +kernel
theorem dX0_wake_33 : decode cX0_wake 33 = .ok (.putfield 24, 3) := by decide +kernel
theorem dX0_wake_36 : decode cX0_wake 36 = .ok (.return_, 1) := by decide +kernel
theorem dX0_tell_0 : decode cX0_tell 0 = .ok (.iload_n 1, 1) := by decide +kernel
theorem dX0_tell_1 : decode cX0_tell 1 = .ok (.tableswitch 78 0 6 #[43, 48, 53, 58, 63, 68, 73], 43) := by decide +kernel
theorem dX0_tell_44 : decode cX0_tell 44 = .ok (.aload_n 0, 1) := by decide +kernel
theorem dX0_tell_45 : decode cX0_tell 45 = .ok (.getfield 9, 3) := by decide +kernel
theorem dX0_tell_48 : decode cX0_tell 48 = .ok (.ireturn, 1) := by decide +kernel
theorem dX0_tell_49 : decode cX0_tell 49 = .ok (.aload_n 0, 1) := by decide +kernel
theorem dX0_tell_50 : decode cX0_tell 50 = .ok (.getfield 15, 3) := by decide +kernel
theorem dX0_tell_53 : decode cX0_tell 53 = .ok (.ireturn, 1) := by decide +kernel
theorem dX0_tell_54 : decode cX0_tell 54 = .ok (.aload_n 0, 1) := by decide +kernel
theorem dX0_tell_55 : decode cX0_tell 55 = .ok (.getfield 18, 3) := by decide +kernel
theorem dX0_tell_58 : decode cX0_tell 58 = .ok (.ireturn, 1) := by decide +kernel
theorem dX0_tell_59 : decode cX0_tell 59 = .ok (.aload_n 0, 1) := by decide +kernel
theorem dX0_tell_60 : decode cX0_tell 60 = .ok (.getfield 24, 3) := by decide +kernel
theorem dX0_tell_63 : decode cX0_tell 63 = .ok (.ireturn, 1) := by decide +kernel
theorem dX0_tell_64 : decode cX0_tell 64 = .ok (.aload_n 0, 1) := by decide +kernel
theorem dX0_tell_65 : decode cX0_tell 65 = .ok (.getfield 27, 3) := by decide +kernel
theorem dX0_tell_68 : decode cX0_tell 68 = .ok (.ireturn, 1) := by decide +kernel
theorem dX0_tell_69 : decode cX0_tell 69 = .ok (.aload_n 0, 1) := by decide +kernel
theorem dX0_tell_70 : decode cX0_tell 70 = .ok (.getfield 30, 3) := by decide +kernel
theorem dX0_tell_73 : decode cX0_tell 73 = .ok (.ireturn, 1) := by decide +kernel
theorem dX0_tell_74 : decode cX0_tell 74 = .ok (.aload_n 0, 1) := by decide +kernel
theorem dX0_tell_75 : decode cX0_tell 75 = .ok (.getfield 33, 3) := by decide +kernel
theorem dX0_tell_78 : decode cX0_tell 78 = .ok (.ireturn, 1) := by decide +kernel
theorem dX0_tell_79 : decode cX0_tell 79 = .ok (.iconst 0, 1) := by decide +kernel
theorem dX0_tell_80 : decode cX0_tell 80 = .ok (.ireturn, 1) := by decide +kernel
theorem dX0_markOf_0 : decode cX0_markOf 0 = .ok (.iload_n 1, 1) := by decide +kernel
theorem dX0_markOf_1 : decode cX0_markOf 1 = .ok (.tableswitch 84 1 5 #[35, 46, 56, 63, 77], 35) := by decide +kernel
theorem dX0_markOf_36 : decode cX0_markOf 36 = .ok (.iconst 0, 1) := by decide +kernel
theorem dX0_markOf_37 : decode cX0_markOf 37 = .ok (.aload_n 0, 1) := by decide +kernel
theorem dX0_markOf_38 : decode cX0_markOf 38 = .ok (.getfield 27, 3) := by decide +kernel
theorem dX0_markOf_41 : decode cX0_markOf 41 = .ok (.iconst 1, 1) := by decide +kernel
theorem dX0_markOf_42 : decode cX0_markOf 42 = .ok (.isub, 1) := by decide +kernel
theorem dX0_markOf_43 : decode cX0_markOf 43 = .ok (.invokestatic 40, 3) := by decide +kernel
theorem dX0_markOf_46 : decode cX0_markOf 46 = .ok (.ireturn, 1) := by decide +kernel
theorem dX0_markOf_47 : decode cX0_markOf 47 = .ok (.aload_n 0, 1) := by decide +kernel
theorem dX0_markOf_48 : decode cX0_markOf 48 = .ok (.getfield 33, 3) := by decide +kernel
theorem dX0_markOf_51 : decode cX0_markOf 51 = .ok (.aload_n 0, 1) := by decide +kernel
theorem dX0_markOf_52 : decode cX0_markOf 52 = .ok (.getfield 18, 3) := by decide +kernel
theorem dX0_markOf_55 : decode cX0_markOf 55 = .ok (.isub, 1) := by decide +kernel
theorem dX0_markOf_56 : decode cX0_markOf 56 = .ok (.ireturn, 1) := by decide +kernel
theorem dX0_markOf_57 : decode cX0_markOf 57 = .ok (.aload_n 0, 1) := by decide +kernel
theorem dX0_markOf_58 : decode cX0_markOf 58 = .ok (.getfield 15, 3) := by decide +kernel
theorem dX0_markOf_61 : decode cX0_markOf 61 = .ok (.iconst 1, 1) := by decide +kernel
theorem dX0_markOf_62 : decode cX0_markOf 62 = .ok (.isub, 1) := by decide +kernel
theorem dX0_markOf_63 : decode cX0_markOf 63 = .ok (.ireturn, 1) := by decide +kernel
theorem dX0_markOf_64 : decode cX0_markOf 64 = .ok (.aload_n 0, 1) := by decide +kernel
theorem dX0_markOf_65 : decode cX0_markOf 65 = .ok (.iload_n 2, 1) := by decide +kernel
theorem dX0_markOf_66 : decode cX0_markOf 66 = .ok (.invokevirtual 52, 3) := by decide +kernel
theorem dX0_markOf_69 : decode cX0_markOf 69 = .ok (.ifCond .eq 7, 3) := by decide +kernel
theorem dX0_markOf_72 : decode cX0_markOf 72 = .ok (.iconst 1, 1) := by decide +kernel
theorem dX0_markOf_73 : decode cX0_markOf 73 = .ok (.goto 4, 3) := by decide +kernel
theorem dX0_markOf_76 : decode cX0_markOf 76 = .ok (.iconst 0, 1) := by decide +kernel
theorem dX0_markOf_77 : decode cX0_markOf 77 = .ok (.ireturn, 1) := by decide +kernel
theorem dX0_markOf_78 : decode cX0_markOf 78 = .ok (.iload_n 2, 1) := by decide +kernel
theorem dX0_markOf_79 : decode cX0_markOf 79 = .ok (.ineg, 1) := by decide +kernel
theorem dX0_markOf_80 : decode cX0_markOf 80 = .ok (.iconst 4, 1) := by decide +kernel
theorem dX0_markOf_81 : decode cX0_markOf 81 = .ok (.invokestatic 55, 3) := by decide +kernel
theorem dX0_markOf_84 : decode cX0_markOf 84 = .ok (.ireturn, 1) := by decide +kernel
theorem dX0_markOf_85 : decode cX0_markOf 85 = .ok (.iconst 0, 1) := by decide +kernel
theorem dX0_markOf_86 : decode cX0_markOf 86 = .ok (.ireturn, 1) := by decide +kernel
theorem dX1_init_0 : decode cX1_init 0 = .ok (.aload_n 0, 1) := by decide +kernel
theorem dX1_init_1 : decode cX1_init 1 = .ok (.invokespecial 3, 3) := by decide +kernel
theorem dX1_init_4 : decode cX1_init 4 = .ok (.return_, 1) := by decide +kernel
theorem dX1_begin_0 : decode cX1_begin 0 = .ok (.aload_n 0, 1) := by decide +kernel
theorem dX1_begin_1 : decode cX1_begin 1 = .ok (.iload_n 1, 1) := by decide +kernel
theorem dX1_begin_2 : decode cX1_begin 2 = .ok (.putfield 9, 3) := by decide +kernel
theorem dX1_begin_5 : decode cX1_begin 5 = .ok (.aload_n 0, 1) := by decide +kernel
theorem dX1_begin_6 : decode cX1_begin 6 = .ok (.bipush (-9), 2) := by decide +kernel
theorem dX1_begin_8 : decode cX1_begin 8 = .ok (.putfield 15, 3) := by decide +kernel
theorem dX1_begin_11 : decode cX1_begin 11 = .ok (.return_, 1) := by decide +kernel
theorem dX1_offer_0 : decode cX1_offer 0 = .ok (.iload_n 2, 1) := by decide +kernel
theorem dX1_offer_1 : decode cX1_offer 1 = .ok (.aload_n 0, 1) := by decide +kernel
theorem dX1_offer_2 : decode cX1_offer 2 = .ok (.getfield 9, 3) := by decide +kernel
theorem dX1_offer_5 : decode cX1_offer 5 = .ok (.if_icmp .le 13, 3) := by decide +kernel
theorem dX1_offer_8 : decode cX1_offer 8 = .ok (.aload_n 0, 1) := by decide +kernel
theorem dX1_offer_9 : decode cX1_offer 9 = .ok (.iload_n 2, 1) := by decide +kernel
theorem dX1_offer_10 : decode cX1_offer 10 = .ok (.putfield 9, 3) := by decide +kernel
theorem dX1_offer_13 : decode cX1_offer 13 = .ok (.aload_n 0, 1) := by decide +kernel
theorem dX1_offer_14 : decode cX1_offer 14 = .ok (.iload_n 1, 1) := by decide +kernel
theorem dX1_offer_15 : decode cX1_offer 15 = .ok (.putfield 15, 3) := by decide +kernel
theorem dX1_offer_18 : decode cX1_offer 18 = .ok (.return_, 1) := by decide +kernel
theorem dX2_init_0 : decode cX2_init 0 = .ok (.aload_n 0, 1) := by decide +kernel
theorem dX2_init_1 : decode cX2_init 1 = .ok (.invokespecial 3, 3) := by decide +kernel
theorem dX2_init_4 : decode cX2_init 4 = .ok (.aload_n 0, 1) := by decide +kernel
theorem dX2_init_5 : decode cX2_init 5 = .ok (.bipush 40, 2) := by decide +kernel
theorem dX2_init_7 : decode cX2_init 7 = .ok (.newarray .int, 2) := by decide +kernel
theorem dX2_init_9 : decode cX2_init 9 = .ok (.putfield 9, 3) := by decide +kernel
theorem dX2_init_12 : decode cX2_init 12 = .ok (.aload_n 0, 1) := by decide +kernel
theorem dX2_init_13 : decode cX2_init 13 = .ok (.bipush 40, 2) := by decide +kernel
theorem dX2_init_15 : decode cX2_init 15 = .ok (.newarray .int, 2) := by decide +kernel
theorem dX2_init_17 : decode cX2_init 17 = .ok (.putfield 15, 3) := by decide +kernel
theorem dX2_init_20 : decode cX2_init 20 = .ok (.aload_n 0, 1) := by decide +kernel
theorem dX2_init_21 : decode cX2_init 21 = .ok (.bipush 40, 2) := by decide +kernel
theorem dX2_init_23 : decode cX2_init 23 = .ok (.newarray .int, 2) := by decide +kernel
theorem dX2_init_25 : decode cX2_init 25 = .ok (.putfield 18, 3) := by decide +kernel
theorem dX2_init_28 : decode cX2_init 28 = .ok (.return_, 1) := by decide +kernel
theorem dX2_add_0 : decode cX2_add 0 = .ok (.aload_n 0, 1) := by decide +kernel
theorem dX2_add_1 : decode cX2_add 1 = .ok (.getfield 21, 3) := by decide +kernel
theorem dX2_add_4 : decode cX2_add 4 = .ok (.ifCond .lt 12, 3) := by decide +kernel
theorem dX2_add_7 : decode cX2_add 7 = .ok (.aload_n 0, 1) := by decide +kernel
theorem dX2_add_8 : decode cX2_add 8 = .ok (.getfield 21, 3) := by decide +kernel
theorem dX2_add_11 : decode cX2_add 11 = .ok (.bipush 40, 2) := by decide +kernel
theorem dX2_add_13 : decode cX2_add 13 = .ok (.if_icmp .lt 4, 3) := by decide +kernel
theorem dX2_add_16 : decode cX2_add 16 = .ok (.return_, 1) := by decide +kernel
theorem dX2_add_17 : decode cX2_add 17 = .ok (.aload_n 0, 1) := by decide +kernel
theorem dX2_add_18 : decode cX2_add 18 = .ok (.getfield 9, 3) := by decide +kernel
theorem dX2_add_21 : decode cX2_add 21 = .ok (.aload_n 0, 1) := by decide +kernel
theorem dX2_add_22 : decode cX2_add 22 = .ok (.getfield 21, 3) := by decide +kernel
theorem dX2_add_25 : decode cX2_add 25 = .ok (.iload_n 1, 1) := by decide +kernel
theorem dX2_add_26 : decode cX2_add 26 = .ok (.iastore, 1) := by decide +kernel
theorem dX2_add_27 : decode cX2_add 27 = .ok (.aload_n 0, 1) := by decide +kernel
theorem dX2_add_28 : decode cX2_add 28 = .ok (.getfield 15, 3) := by decide +kernel
theorem dX2_add_31 : decode cX2_add 31 = .ok (.aload_n 0, 1) := by decide +kernel
theorem dX2_add_32 : decode cX2_add 32 = .ok (.getfield 21, 3) := by decide +kernel
theorem dX2_add_35 : decode cX2_add 35 = .ok (.iload_n 2, 1) := by decide +kernel
theorem dX2_add_36 : decode cX2_add 36 = .ok (.iastore, 1) := by decide +kernel
theorem dX2_add_37 : decode cX2_add 37 = .ok (.aload_n 0, 1) := by decide +kernel
theorem dX2_add_38 : decode cX2_add 38 = .ok (.getfield 18, 3) := by decide +kernel
theorem dX2_add_41 : decode cX2_add 41 = .ok (.aload_n 0, 1) := by decide +kernel
theorem dX2_add_42 : decode cX2_add 42 = .ok (.getfield 21, 3) := by decide +kernel
theorem dX2_add_45 : decode cX2_add 45 = .ok (.iload_n 3, 1) := by decide +kernel
theorem dX2_add_46 : decode cX2_add 46 = .ok (.iastore, 1) := by decide +kernel
theorem dX2_add_47 : decode cX2_add 47 = .ok (.aload_n 0, 1) := by decide +kernel
theorem dX2_add_48 : decode cX2_add 48 = .ok (.dup, 1) := by decide +kernel
theorem dX2_add_49 : decode cX2_add 49 = .ok (.getfield 21, 3) := by decide +kernel
theorem dX2_add_52 : decode cX2_add 52 = .ok (.iconst 1, 1) := by decide +kernel
theorem dX2_add_53 : decode cX2_add 53 = .ok (.iadd, 1) := by decide +kernel
theorem dX2_add_54 : decode cX2_add 54 = .ok (.putfield 21, 3) := by decide +kernel
theorem dX2_add_57 : decode cX2_add 57 = .ok (.return_, 1) := by decide +kernel
theorem dX2_become_0 : decode cX2_become 0 = .ok (.aload_n 0, 1) := by decide +kernel
theorem dX2_become_1 : decode cX2_become 1 = .ok (.aload_n 1, 1) := by decide +kernel
theorem dX2_become_2 : decode cX2_become 2 = .ok (.getfield 21, 3) := by decide +kernel
theorem dX2_become_5 : decode cX2_become 5 = .ok (.putfield 21, 3) := by decide +kernel
theorem dX2_become_8 : decode cX2_become 8 = .ok (.iconst 0, 1) := by decide +kernel
theorem dX2_become_9 : decode cX2_become 9 = .ok (.istore_n 2, 1) := by decide +kernel
theorem dX2_become_10 : decode cX2_become 10 = .ok (.iload_n 2, 1) := by decide +kernel
theorem dX2_become_11 : decode cX2_become 11 = .ok (.aload_n 0, 1) := by decide +kernel
theorem dX2_become_12 : decode cX2_become 12 = .ok (.getfield 21, 3) := by decide +kernel
theorem dX2_become_15 : decode cX2_become 15 = .ok (.if_icmp .ge 45, 3) := by decide +kernel
theorem dX2_become_18 : decode cX2_become 18 = .ok (.aload_n 0, 1) := by decide +kernel
theorem dX2_become_19 : decode cX2_become 19 = .ok (.getfield 9, 3) := by decide +kernel
theorem dX2_become_22 : decode cX2_become 22 = .ok (.iload_n 2, 1) := by decide +kernel
theorem dX2_become_23 : decode cX2_become 23 = .ok (.aload_n 1, 1) := by decide +kernel
theorem dX2_become_24 : decode cX2_become 24 = .ok (.getfield 9, 3) := by decide +kernel
theorem dX2_become_27 : decode cX2_become 27 = .ok (.iload_n 2, 1) := by decide +kernel
theorem dX2_become_28 : decode cX2_become 28 = .ok (.iaload, 1) := by decide +kernel
theorem dX2_become_29 : decode cX2_become 29 = .ok (.iastore, 1) := by decide +kernel
theorem dX2_become_30 : decode cX2_become 30 = .ok (.aload_n 0, 1) := by decide +kernel
theorem dX2_become_31 : decode cX2_become 31 = .ok (.getfield 15, 3) := by decide +kernel
theorem dX2_become_34 : decode cX2_become 34 = .ok (.iload_n 2, 1) := by decide +kernel
theorem dX2_become_35 : decode cX2_become 35 = .ok (.aload_n 1, 1) := by decide +kernel
theorem dX2_become_36 : decode cX2_become 36 = .ok (.getfield 15, 3) := by decide +kernel
theorem dX2_become_39 : decode cX2_become 39 = .ok (.iload_n 2, 1) := by decide +kernel
theorem dX2_become_40 : decode cX2_become 40 = .ok (.iaload, 1) := by decide +kernel
theorem dX2_become_41 : decode cX2_become 41 = .ok (.iastore, 1) := by decide +kernel
theorem dX2_become_42 : decode cX2_become 42 = .ok (.aload_n 0, 1) := by decide +kernel
theorem dX2_become_43 : decode cX2_become 43 = .ok (.getfield 18, 3) := by decide +kernel
theorem dX2_become_46 : decode cX2_become 46 = .ok (.iload_n 2, 1) := by decide +kernel
theorem dX2_become_47 : decode cX2_become 47 = .ok (.aload_n 1, 1) := by decide +kernel
theorem dX2_become_48 : decode cX2_become 48 = .ok (.getfield 18, 3) := by decide +kernel
theorem dX2_become_51 : decode cX2_become 51 = .ok (.iload_n 2, 1) := by decide +kernel
theorem dX2_become_52 : decode cX2_become 52 = .ok (.iaload, 1) := by decide +kernel
theorem dX2_become_53 : decode cX2_become 53 = .ok (.iastore, 1) := by decide +kernel
theorem dX2_become_54 : decode cX2_become 54 = .ok (.iinc 2 1, 3) := by decide +kernel
theorem dX2_become_57 : decode cX2_become 57 = .ok (.goto (-47), 3) := by decide +kernel
theorem dX2_become_60 : decode cX2_become 60 = .ok (.return_, 1) := by decide +kernel
theorem dX3_init_0 : decode cX3_init 0 = .ok (.aload_n 0, 1) := by decide +kernel
theorem dX3_init_1 : decode cX3_init 1 = .ok (.invokespecial 3, 3) := by decide +kernel
theorem dX3_init_4 : decode cX3_init 4 = .ok (.aload_n 0, 1) := by decide +kernel
theorem dX3_init_5 : decode cX3_init 5 = .ok (.bipush 7, 2) := by decide +kernel
theorem dX3_init_7 : decode cX3_init 7 = .ok (.anewarray 9, 3) := by decide +kernel
theorem dX3_init_10 : decode cX3_init 10 = .ok (.putfield 11, 3) := by decide +kernel
theorem dX3_init_13 : decode cX3_init 13 = .ok (.iconst 0, 1) := by decide +kernel
theorem dX3_init_14 : decode cX3_init 14 = .ok (.istore_n 1, 1) := by decide +kernel
theorem dX3_init_15 : decode cX3_init 15 = .ok (.iload_n 1, 1) := by decide +kernel
theorem dX3_init_16 : decode cX3_init 16 = .ok (.bipush 7, 2) := by decide +kernel
theorem dX3_init_18 : decode cX3_init 18 = .ok (.if_icmp .ge 22, 3) := by decide +kernel
theorem dX3_init_21 : decode cX3_init 21 = .ok (.aload_n 0, 1) := by decide +kernel
theorem dX3_init_22 : decode cX3_init 22 = .ok (.getfield 11, 3) := by decide +kernel
theorem dX3_init_25 : decode cX3_init 25 = .ok (.iload_n 1, 1) := by decide +kernel
theorem dX3_init_26 : decode cX3_init 26 = .ok (.new 9, 3) := by decide +kernel
theorem dX3_init_29 : decode cX3_init 29 = .ok (.dup, 1) := by decide +kernel
theorem dX3_init_30 : decode cX3_init 30 = .ok (.invokespecial 17, 3) := by decide +kernel
theorem dX3_init_33 : decode cX3_init 33 = .ok (.aastore, 1) := by decide +kernel
theorem dX3_init_34 : decode cX3_init 34 = .ok (.iinc 1 1, 3) := by decide +kernel
theorem dX3_init_37 : decode cX3_init 37 = .ok (.goto (-22), 3) := by decide +kernel
theorem dX3_init_40 : decode cX3_init 40 = .ok (.return_, 1) := by decide +kernel
theorem dX3_clear_0 : decode cX3_clear 0 = .ok (.aload_n 0, 1) := by decide +kernel
theorem dX3_clear_1 : decode cX3_clear 1 = .ok (.iconst 0, 1) := by decide +kernel
theorem dX3_clear_2 : decode cX3_clear 2 = .ok (.putfield 18, 3) := by decide +kernel
theorem dX3_clear_5 : decode cX3_clear 5 = .ok (.aload_n 0, 1) := by decide +kernel
theorem dX3_clear_6 : decode cX3_clear 6 = .ok (.iconst 0, 1) := by decide +kernel
theorem dX3_clear_7 : decode cX3_clear 7 = .ok (.putfield 22, 3) := by decide +kernel
theorem dX3_clear_10 : decode cX3_clear 10 = .ok (.aload_n 0, 1) := by decide +kernel
theorem dX3_clear_11 : decode cX3_clear 11 = .ok (.sipush 255, 3) := by decide +kernel
theorem dX3_clear_14 : decode cX3_clear 14 = .ok (.putfield 25, 3) := by decide +kernel
theorem dX3_clear_17 : decode cX3_clear 17 = .ok (.aload_n 0, 1) := by decide +kernel
theorem dX3_clear_18 : decode cX3_clear 18 = .ok (.iconst 0, 1) := by decide +kernel
theorem dX3_clear_19 : decode cX3_clear 19 = .ok (.putfield 28, 3) := by decide +kernel
theorem dX3_clear_22 : decode cX3_clear 22 = .ok (.aload_n 0, 1) := by decide +kernel
theorem dX3_clear_23 : decode cX3_clear 23 = .ok (.iconst 0, 1) := by decide +kernel
theorem dX3_clear_24 : decode cX3_clear 24 = .ok (.putfield 31, 3) := by decide +kernel
theorem dX3_clear_27 : decode cX3_clear 27 = .ok (.aload_n 0, 1) := by decide +kernel
theorem dX3_clear_28 : decode cX3_clear 28 = .ok (.iconst 0, 1) := by decide +kernel
theorem dX3_clear_29 : decode cX3_clear 29 = .ok (.putfield 34, 3) := by decide +kernel
theorem dX3_clear_32 : decode cX3_clear 32 = .ok (.aload_n 0, 1) := by decide +kernel
theorem dX3_clear_33 : decode cX3_clear 33 = .ok (.iconst 0, 1) := by decide +kernel
theorem dX3_clear_34 : decode cX3_clear 34 = .ok (.putfield 37, 3) := by decide +kernel
theorem dX3_clear_37 : decode cX3_clear 37 = .ok (.return_, 1) := by decide +kernel
theorem dX3_become_0 : decode cX3_become 0 = .ok (.aload_n 0, 1) := by decide +kernel
theorem dX3_become_1 : decode cX3_become 1 = .ok (.aload_n 1, 1) := by decide +kernel
theorem dX3_become_2 : decode cX3_become 2 = .ok (.getfield 18, 3) := by decide +kernel
theorem dX3_become_5 : decode cX3_become 5 = .ok (.putfield 18, 3) := by decide +kernel
theorem dX3_become_8 : decode cX3_become 8 = .ok (.aload_n 0, 1) := by decide +kernel
theorem dX3_become_9 : decode cX3_become 9 = .ok (.aload_n 1, 1) := by decide +kernel
theorem dX3_become_10 : decode cX3_become 10 = .ok (.getfield 22, 3) := by decide +kernel
theorem dX3_become_13 : decode cX3_become 13 = .ok (.putfield 22, 3) := by decide +kernel
theorem dX3_become_16 : decode cX3_become 16 = .ok (.aload_n 0, 1) := by decide +kernel
theorem dX3_become_17 : decode cX3_become 17 = .ok (.aload_n 1, 1) := by decide +kernel
theorem dX3_become_18 : decode cX3_become 18 = .ok (.getfield 25, 3) := by decide +kernel
theorem dX3_become_21 : decode cX3_become 21 = .ok (.putfield 25, 3) := by decide +kernel
theorem dX3_become_24 : decode cX3_become 24 = .ok (.aload_n 0, 1) := by decide +kernel
theorem dX3_become_25 : decode cX3_become 25 = .ok (.aload_n 1, 1) := by decide +kernel
theorem dX3_become_26 : decode cX3_become 26 = .ok (.getfield 28, 3) := by decide +kernel
theorem dX3_become_29 : decode cX3_become 29 = .ok (.putfield 28, 3) := by decide +kernel
theorem dX3_become_32 : decode cX3_become 32 = .ok (.aload_n 0, 1) := by decide +kernel
theorem dX3_become_33 : decode cX3_become 33 = .ok (.aload_n 1, 1) := by decide +kernel
theorem dX3_become_34 : decode cX3_become 34 = .ok (.getfield 31, 3) := by decide +kernel
theorem dX3_become_37 : decode cX3_become 37 = .ok (.putfield 31, 3) := by decide +kernel
theorem dX3_become_40 : decode cX3_become 40 = .ok (.aload_n 0, 1) := by decide +kernel
theorem dX3_become_41 : decode cX3_become 41 = .ok (.aload_n 1, 1) := by decide +kernel
theorem dX3_become_42 : decode cX3_become 42 = .ok (.getfield 34, 3) := by decide +kernel
theorem dX3_become_45 : decode cX3_become 45 = .ok (.putfield 34, 3) := by decide +kernel
theorem dX3_become_48 : decode cX3_become 48 = .ok (.aload_n 0, 1) := by decide +kernel
theorem dX3_become_49 : decode cX3_become 49 = .ok (.aload_n 1, 1) := by decide +kernel
theorem dX3_become_50 : decode cX3_become 50 = .ok (.getfield 37, 3) := by decide +kernel
theorem dX3_become_53 : decode cX3_become 53 = .ok (.putfield 37, 3) := by decide +kernel
theorem dX3_become_56 : decode cX3_become 56 = .ok (.iconst 0, 1) := by decide +kernel
theorem dX3_become_57 : decode cX3_become 57 = .ok (.istore_n 2, 1) := by decide +kernel
theorem dX3_become_58 : decode cX3_become 58 = .ok (.iload_n 2, 1) := by decide +kernel
theorem dX3_become_59 : decode cX3_become 59 = .ok (.aload_n 0, 1) := by decide +kernel
theorem dX3_become_60 : decode cX3_become 60 = .ok (.getfield 18, 3) := by decide +kernel
theorem dX3_become_63 : decode cX3_become 63 = .ok (.if_icmp .ge 24, 3) := by decide +kernel
theorem dX3_become_66 : decode cX3_become 66 = .ok (.aload_n 0, 1) := by decide +kernel
theorem dX3_become_67 : decode cX3_become 67 = .ok (.getfield 11, 3) := by decide +kernel
theorem dX3_become_70 : decode cX3_become 70 = .ok (.iload_n 2, 1) := by decide +kernel
theorem dX3_become_71 : decode cX3_become 71 = .ok (.aaload, 1) := by decide +kernel
theorem dX3_become_72 : decode cX3_become 72 = .ok (.aload_n 1, 1) := by decide +kernel
theorem dX3_become_73 : decode cX3_become 73 = .ok (.getfield 11, 3) := by decide +kernel
theorem dX3_become_76 : decode cX3_become 76 = .ok (.iload_n 2, 1) := by decide +kernel
theorem dX3_become_77 : decode cX3_become 77 = .ok (.aaload, 1) := by decide +kernel
theorem dX3_become_78 : decode cX3_become 78 = .ok (.invokevirtual 40, 3) := by decide +kernel
theorem dX3_become_81 : decode cX3_become 81 = .ok (.iinc 2 1, 3) := by decide +kernel
theorem dX3_become_84 : decode cX3_become 84 = .ok (.goto (-26), 3) := by decide +kernel
theorem dX3_become_87 : decode cX3_become 87 = .ok (.return_, 1) := by decide +kernel
theorem dX3_isUpIn_0 : decode cX3_isUpIn 0 = .ok (.aload_n 0, 1) := by decide +kernel
theorem dX3_isUpIn_1 : decode cX3_isUpIn 1 = .ok (.getfield 25, 3) := by decide +kernel
theorem dX3_isUpIn_4 : decode cX3_isUpIn 4 = .ok (.iload_n 1, 1) := by decide +kernel
theorem dX3_isUpIn_5 : decode cX3_isUpIn 5 = .ok (.bipush 8, 2) := by decide +kernel
theorem dX3_isUpIn_7 : decode cX3_isUpIn 7 = .ok (.invokestatic 44, 3) := by decide +kernel
theorem dX3_isUpIn_10 : decode cX3_isUpIn 10 = .ok (.ishr, 1) := by decide +kernel
theorem dX3_isUpIn_11 : decode cX3_isUpIn 11 = .ok (.iconst 1, 1) := by decide +kernel
theorem dX3_isUpIn_12 : decode cX3_isUpIn 12 = .ok (.iand, 1) := by decide +kernel
theorem dX3_isUpIn_13 : decode cX3_isUpIn 13 = .ok (.iconst 1, 1) := by decide +kernel
theorem dX3_isUpIn_14 : decode cX3_isUpIn 14 = .ok (.if_icmp .ne 7, 3) := by decide +kernel
theorem dX3_isUpIn_17 : decode cX3_isUpIn 17 = .ok (.iconst 1, 1) := by decide +kernel
theorem dX3_isUpIn_18 : decode cX3_isUpIn 18 = .ok (.goto 4, 3) := by decide +kernel
theorem dX3_isUpIn_21 : decode cX3_isUpIn 21 = .ok (.iconst 0, 1) := by decide +kernel
theorem dX3_isUpIn_22 : decode cX3_isUpIn 22 = .ok (.ireturn, 1) := by decide +kernel
theorem dX3_isUp_0 : decode cX3_isUp 0 = .ok (.aload_n 0, 1) := by decide +kernel
theorem dX3_isUp_1 : decode cX3_isUp 1 = .ok (.aload_n 0, 1) := by decide +kernel
theorem dX3_isUp_2 : decode cX3_isUp 2 = .ok (.getfield 28, 3) := by decide +kernel
theorem dX3_isUp_5 : decode cX3_isUp 5 = .ok (.invokevirtual 50, 3) := by decide +kernel
theorem dX3_isUp_8 : decode cX3_isUp 8 = .ok (.ireturn, 1) := by decide +kernel
theorem dX3_calling_0 : decode cX3_calling 0 = .ok (.iconst 0, 1) := by decide +kernel
theorem dX3_calling_1 : decode cX3_calling 1 = .ok (.istore_n 1, 1) := by decide +kernel
theorem dX3_calling_2 : decode cX3_calling 2 = .ok (.iconst 0, 1) := by decide +kernel
theorem dX3_calling_3 : decode cX3_calling 3 = .ok (.istore_n 2, 1) := by decide +kernel
theorem dX3_calling_4 : decode cX3_calling 4 = .ok (.iload_n 2, 1) := by decide +kernel
theorem dX3_calling_5 : decode cX3_calling 5 = .ok (.aload_n 0, 1) := by decide +kernel
theorem dX3_calling_6 : decode cX3_calling 6 = .ok (.getfield 18, 3) := by decide +kernel
theorem dX3_calling_9 : decode cX3_calling 9 = .ok (.if_icmp .ge 39, 3) := by decide +kernel
theorem dX3_calling_12 : decode cX3_calling 12 = .ok (.aload_n 0, 1) := by decide +kernel
theorem dX3_calling_13 : decode cX3_calling 13 = .ok (.iload_n 2, 1) := by decide +kernel
theorem dX3_calling_14 : decode cX3_calling 14 = .ok (.invokevirtual 54, 3) := by decide +kernel
theorem dX3_calling_17 : decode cX3_calling 17 = .ok (.ifCond .ne 25, 3) := by decide +kernel
theorem dX3_calling_20 : decode cX3_calling 20 = .ok (.aload_n 0, 1) := by decide +kernel
theorem dX3_calling_21 : decode cX3_calling 21 = .ok (.getfield 11, 3) := by decide +kernel
theorem dX3_calling_24 : decode cX3_calling 24 = .ok (.iload_n 2, 1) := by decide +kernel
theorem dX3_calling_25 : decode cX3_calling 25 = .ok (.aaload, 1) := by decide +kernel
theorem dX3_calling_26 : decode cX3_calling 26 = .ok (.aload_n 0, 1) := by decide +kernel
theorem dX3_calling_27 : decode cX3_calling 27 = .ok (.getfield 28, 3) := by decide +kernel
theorem dX3_calling_30 : decode cX3_calling 30 = .ok (.invokevirtual 57, 3) := by decide +kernel
theorem dX3_calling_33 : decode cX3_calling 33 = .ok (.ifCond .eq 9, 3) := by decide +kernel
theorem dX3_calling_36 : decode cX3_calling 36 = .ok (.iload_n 1, 1) := by decide +kernel
theorem dX3_calling_37 : decode cX3_calling 37 = .ok (.iconst 1, 1) := by decide +kernel
theorem dX3_calling_38 : decode cX3_calling 38 = .ok (.iload_n 2, 1) := by decide +kernel
theorem dX3_calling_39 : decode cX3_calling 39 = .ok (.ishl, 1) := by decide +kernel
theorem dX3_calling_40 : decode cX3_calling 40 = .ok (.ior, 1) := by decide +kernel
theorem dX3_calling_41 : decode cX3_calling 41 = .ok (.istore_n 1, 1) := by decide +kernel
theorem dX3_calling_42 : decode cX3_calling 42 = .ok (.iinc 2 1, 3) := by decide +kernel
theorem dX3_calling_45 : decode cX3_calling 45 = .ok (.goto (-41), 3) := by decide +kernel
theorem dX3_calling_48 : decode cX3_calling 48 = .ok (.iload_n 1, 1) := by decide +kernel
theorem dX3_calling_49 : decode cX3_calling 49 = .ok (.ireturn, 1) := by decide +kernel
theorem dX3_wouldAnswer_0 : decode cX3_wouldAnswer 0 = .ok (.aload_n 0, 1) := by decide +kernel
theorem dX3_wouldAnswer_1 : decode cX3_wouldAnswer 1 = .ok (.invokevirtual 60, 3) := by decide +kernel
theorem dX3_wouldAnswer_4 : decode cX3_wouldAnswer 4 = .ok (.ifCond .eq 21, 3) := by decide +kernel
theorem dX3_wouldAnswer_7 : decode cX3_wouldAnswer 7 = .ok (.aload_n 0, 1) := by decide +kernel
theorem dX3_wouldAnswer_8 : decode cX3_wouldAnswer 8 = .ok (.invokevirtual 64, 3) := by decide +kernel
theorem dX3_wouldAnswer_11 : decode cX3_wouldAnswer 11 = .ok (.invokestatic 68, 3) := by decide +kernel
theorem dX3_wouldAnswer_14 : decode cX3_wouldAnswer 14 = .ok (.aload_n 0, 1) := by decide +kernel
theorem dX3_wouldAnswer_15 : decode cX3_wouldAnswer 15 = .ok (.getfield 22, 3) := by decide +kernel
theorem dX3_wouldAnswer_18 : decode cX3_wouldAnswer 18 = .ok (.if_icmp .gt 7, 3) := by decide +kernel
theorem dX3_wouldAnswer_21 : decode cX3_wouldAnswer 21 = .ok (.iconst 1, 1) := by decide +kernel
theorem dX3_wouldAnswer_22 : decode cX3_wouldAnswer 22 = .ok (.goto 4, 3) := by decide +kernel
theorem dX3_wouldAnswer_25 : decode cX3_wouldAnswer 25 = .ok (.iconst 0, 1) := by decide +kernel
theorem dX3_wouldAnswer_26 : decode cX3_wouldAnswer 26 = .ok (.ireturn, 1) := by decide +kernel
theorem dX3_open_0 : decode cX3_open 0 = .ok (.iconst 0, 1) := by decide +kernel
theorem dX3_open_1 : decode cX3_open 1 = .ok (.istore_n 1, 1) := by decide +kernel
theorem dX3_open_2 : decode cX3_open 2 = .ok (.iconst 0, 1) := by decide +kernel
theorem dX3_open_3 : decode cX3_open 3 = .ok (.istore_n 2, 1) := by decide +kernel
theorem dX3_open_4 : decode cX3_open 4 = .ok (.iload_n 2, 1) := by decide +kernel
theorem dX3_open_5 : decode cX3_open 5 = .ok (.aload_n 0, 1) := by decide +kernel
theorem dX3_open_6 : decode cX3_open 6 = .ok (.getfield 18, 3) := by decide +kernel
theorem dX3_open_9 : decode cX3_open 9 = .ok (.if_icmp .ge 28, 3) := by decide +kernel
theorem dX3_open_12 : decode cX3_open 12 = .ok (.aload_n 0, 1) := by decide +kernel
theorem dX3_open_13 : decode cX3_open 13 = .ok (.getfield 11, 3) := by decide +kernel
theorem dX3_open_16 : decode cX3_open 16 = .ok (.iload_n 2, 1) := by decide +kernel
theorem dX3_open_17 : decode cX3_open 17 = .ok (.aaload, 1) := by decide +kernel
theorem dX3_open_18 : decode cX3_open 18 = .ok (.getfield 74, 3) := by decide +kernel
theorem dX3_open_21 : decode cX3_open 21 = .ok (.iconst 1, 1) := by decide +kernel
theorem dX3_open_22 : decode cX3_open 22 = .ok (.if_icmp .ne 9, 3) := by decide +kernel
theorem dX3_open_25 : decode cX3_open 25 = .ok (.iload_n 1, 1) := by decide +kernel
theorem dX3_open_26 : decode cX3_open 26 = .ok (.iconst 1, 1) := by decide +kernel
theorem dX3_open_27 : decode cX3_open 27 = .ok (.iload_n 2, 1) := by decide +kernel
theorem dX3_open_28 : decode cX3_open 28 = .ok (.ishl, 1) := by decide +kernel
theorem dX3_open_29 : decode cX3_open 29 = .ok (.ior, 1) := by decide +kernel
theorem dX3_open_30 : decode cX3_open 30 = .ok (.istore_n 1, 1) := by decide +kernel
theorem dX3_open_31 : decode cX3_open 31 = .ok (.iinc 2 1, 3) := by decide +kernel
theorem dX3_open_34 : decode cX3_open 34 = .ok (.goto (-30), 3) := by decide +kernel
theorem dX3_open_37 : decode cX3_open 37 = .ok (.iload_n 1, 1) := by decide +kernel
theorem dX3_open_38 : decode cX3_open 38 = .ok (.ireturn, 1) := by decide +kernel
theorem dX3_notOpen_0 : decode cX3_notOpen 0 = .ok (.aload_n 0, 1) := by decide +kernel
theorem dX3_notOpen_1 : decode cX3_notOpen 1 = .ok (.getfield 18, 3) := by decide +kernel
theorem dX3_notOpen_4 : decode cX3_notOpen 4 = .ok (.aload_n 0, 1) := by decide +kernel
theorem dX3_notOpen_5 : decode cX3_notOpen 5 = .ok (.invokevirtual 77, 3) := by decide +kernel
theorem dX3_notOpen_8 : decode cX3_notOpen 8 = .ok (.invokestatic 68, 3) := by decide +kernel
theorem dX3_notOpen_11 : decode cX3_notOpen 11 = .ok (.isub, 1) := by decide +kernel
theorem dX3_notOpen_12 : decode cX3_notOpen 12 = .ok (.ireturn, 1) := by decide +kernel
theorem dX3_callersOf_0 : decode cX3_callersOf 0 = .ok (.iconst 0, 1) := by decide +kernel
theorem dX3_callersOf_1 : decode cX3_callersOf 1 = .ok (.istore_n 2, 1) := by decide +kernel
theorem dX3_callersOf_2 : decode cX3_callersOf 2 = .ok (.iconst 0, 1) := by decide +kernel
theorem dX3_callersOf_3 : decode cX3_callersOf 3 = .ok (.istore_n 3, 1) := by decide +kernel
theorem dX3_callersOf_4 : decode cX3_callersOf 4 = .ok (.iload_n 3, 1) := by decide +kernel
theorem dX3_callersOf_5 : decode cX3_callersOf 5 = .ok (.aload_n 0, 1) := by decide +kernel
theorem dX3_callersOf_6 : decode cX3_callersOf 6 = .ok (.getfield 18, 3) := by decide +kernel
theorem dX3_callersOf_9 : decode cX3_callersOf 9 = .ok (.if_icmp .ge 25, 3) := by decide +kernel
theorem dX3_callersOf_12 : decode cX3_callersOf 12 = .ok (.aload_n 0, 1) := by decide +kernel
theorem dX3_callersOf_13 : decode cX3_callersOf 13 = .ok (.getfield 11, 3) := by decide +kernel
theorem dX3_callersOf_16 : decode cX3_callersOf 16 = .ok (.iload_n 3, 1) := by decide +kernel
theorem dX3_callersOf_17 : decode cX3_callersOf 17 = .ok (.aaload, 1) := by decide +kernel
theorem dX3_callersOf_18 : decode cX3_callersOf 18 = .ok (.iload_n 1, 1) := by decide +kernel
theorem dX3_callersOf_19 : decode cX3_callersOf 19 = .ok (.invokevirtual 80, 3) := by decide +kernel
theorem dX3_callersOf_22 : decode cX3_callersOf 22 = .ok (.ifCond .eq 6, 3) := by decide +kernel
theorem dX3_callersOf_25 : decode cX3_callersOf 25 = .ok (.iinc 2 1, 3) := by decide +kernel
theorem dX3_callersOf_28 : decode cX3_callersOf 28 = .ok (.iinc 3 1, 3) := by decide +kernel
theorem dX3_callersOf_31 : decode cX3_callersOf 31 = .ok (.goto (-27), 3) := by decide +kernel
theorem dX3_callersOf_34 : decode cX3_callersOf 34 = .ok (.iload_n 2, 1) := by decide +kernel
theorem dX3_callersOf_35 : decode cX3_callersOf 35 = .ok (.ireturn, 1) := by decide +kernel
theorem dX3_isHushed_0 : decode cX3_isHushed 0 = .ok (.aload_n 0, 1) := by decide +kernel
theorem dX3_isHushed_1 : decode cX3_isHushed 1 = .ok (.getfield 37, 3) := by decide +kernel
theorem dX3_isHushed_4 : decode cX3_isHushed 4 = .ok (.iload_n 1, 1) := by decide +kernel
theorem dX3_isHushed_5 : decode cX3_isHushed 5 = .ok (.ishr, 1) := by decide +kernel
theorem dX3_isHushed_6 : decode cX3_isHushed 6 = .ok (.iconst 1, 1) := by decide +kernel
theorem dX3_isHushed_7 : decode cX3_isHushed 7 = .ok (.iand, 1) := by decide +kernel
theorem dX3_isHushed_8 : decode cX3_isHushed 8 = .ok (.iconst 1, 1) := by decide +kernel
theorem dX3_isHushed_9 : decode cX3_isHushed 9 = .ok (.if_icmp .ne 7, 3) := by decide +kernel
theorem dX3_isHushed_12 : decode cX3_isHushed 12 = .ok (.iconst 1, 1) := by decide +kernel
theorem dX3_isHushed_13 : decode cX3_isHushed 13 = .ok (.goto 4, 3) := by decide +kernel
theorem dX3_isHushed_16 : decode cX3_isHushed 16 = .ok (.iconst 0, 1) := by decide +kernel
theorem dX3_isHushed_17 : decode cX3_isHushed 17 = .ok (.ireturn, 1) := by decide +kernel
theorem dX3_pass_0 : decode cX3_pass 0 = .ok (.aload_n 0, 1) := by decide +kernel
theorem dX3_pass_1 : decode cX3_pass 1 = .ok (.invokevirtual 64, 3) := by decide +kernel
theorem dX3_pass_4 : decode cX3_pass 4 = .ok (.istore_n 2, 1) := by decide +kernel
theorem dX3_pass_5 : decode cX3_pass 5 = .ok (.iload_n 2, 1) := by decide +kernel
theorem dX3_pass_6 : decode cX3_pass 6 = .ok (.invokestatic 68, 3) := by decide +kernel
theorem dX3_pass_9 : decode cX3_pass 9 = .ok (.istore_n 3, 1) := by decide +kernel
theorem dX3_pass_10 : decode cX3_pass 10 = .ok (.iload_n 1, 1) := by decide +kernel
theorem dX3_pass_11 : decode cX3_pass 11 = .ok (.ifCond .eq 15, 3) := by decide +kernel
theorem dX3_pass_14 : decode cX3_pass 14 = .ok (.iload_n 3, 1) := by decide +kernel
theorem dX3_pass_15 : decode cX3_pass 15 = .ok (.aload_n 0, 1) := by decide +kernel
theorem dX3_pass_16 : decode cX3_pass 16 = .ok (.getfield 22, 3) := by decide +kernel
theorem dX3_pass_19 : decode cX3_pass 19 = .ok (.if_icmp .gt 7, 3) := by decide +kernel
theorem dX3_pass_22 : decode cX3_pass 22 = .ok (.iconst 1, 1) := by decide +kernel
theorem dX3_pass_23 : decode cX3_pass 23 = .ok (.goto 4, 3) := by decide +kernel
theorem dX3_pass_26 : decode cX3_pass 26 = .ok (.iconst 0, 1) := by decide +kernel
theorem dX3_pass_27 : decode cX3_pass 27 = .ok (.istore 4, 2) := by decide +kernel
theorem dX3_pass_29 : decode cX3_pass 29 = .ok (.iconst 0, 1) := by decide +kernel
theorem dX3_pass_30 : decode cX3_pass 30 = .ok (.istore 5, 2) := by decide +kernel
theorem dX3_pass_32 : decode cX3_pass 32 = .ok (.iload 5, 2) := by decide +kernel
theorem dX3_pass_34 : decode cX3_pass 34 = .ok (.aload_n 0, 1) := by decide +kernel
theorem dX3_pass_35 : decode cX3_pass 35 = .ok (.getfield 18, 3) := by decide +kernel
theorem dX3_pass_38 : decode cX3_pass 38 = .ok (.if_icmp .ge 104, 3) := by decide +kernel
theorem dX3_pass_41 : decode cX3_pass 41 = .ok (.iload_n 2, 1) := by decide +kernel
theorem dX3_pass_42 : decode cX3_pass 42 = .ok (.iload 5, 2) := by decide +kernel
theorem dX3_pass_44 : decode cX3_pass 44 = .ok (.ishr, 1) := by decide +kernel
theorem dX3_pass_45 : decode cX3_pass 45 = .ok (.iconst 1, 1) := by decide +kernel
theorem dX3_pass_46 : decode cX3_pass 46 = .ok (.iand, 1) := by decide +kernel
theorem dX3_pass_47 : decode cX3_pass 47 = .ok (.iconst 1, 1) := by decide +kernel
theorem dX3_pass_48 : decode cX3_pass 48 = .ok (.if_icmp .ne 7, 3) := by decide +kernel
theorem dX3_pass_51 : decode cX3_pass 51 = .ok (.iconst 1, 1) := by decide +kernel
theorem dX3_pass_52 : decode cX3_pass 52 = .ok (.goto 4, 3) := by decide +kernel
theorem dX3_pass_55 : decode cX3_pass 55 = .ok (.iconst 0, 1) := by decide +kernel
theorem dX3_pass_56 : decode cX3_pass 56 = .ok (.istore 6, 2) := by decide +kernel
theorem dX3_pass_58 : decode cX3_pass 58 = .ok (.iload 6, 2) := by decide +kernel
theorem dX3_pass_60 : decode cX3_pass 60 = .ok (.ifCond .eq 21, 3) := by decide +kernel
theorem dX3_pass_63 : decode cX3_pass 63 = .ok (.iload 4, 2) := by decide +kernel
theorem dX3_pass_65 : decode cX3_pass 65 = .ok (.ifCond .eq 16, 3) := by decide +kernel
theorem dX3_pass_68 : decode cX3_pass 68 = .ok (.aload_n 0, 1) := by decide +kernel
theorem dX3_pass_69 : decode cX3_pass 69 = .ok (.getfield 11, 3) := by decide +kernel
theorem dX3_pass_72 : decode cX3_pass 72 = .ok (.iload 5, 2) := by decide +kernel
theorem dX3_pass_74 : decode cX3_pass 74 = .ok (.aaload, 1) := by decide +kernel
theorem dX3_pass_75 : decode cX3_pass 75 = .ok (.invokevirtual 83, 3) := by decide +kernel
theorem dX3_pass_78 : decode cX3_pass 78 = .ok (.goto 58, 3) := by decide +kernel
theorem dX3_pass_81 : decode cX3_pass 81 = .ok (.iload 6, 2) := by decide +kernel
theorem dX3_pass_83 : decode cX3_pass 83 = .ok (.ifCond .eq 20, 3) := by decide +kernel
theorem dX3_pass_86 : decode cX3_pass 86 = .ok (.aload_n 0, 1) := by decide +kernel
theorem dX3_pass_87 : decode cX3_pass 87 = .ok (.getfield 11, 3) := by decide +kernel
theorem dX3_pass_90 : decode cX3_pass 90 = .ok (.iload 5, 2) := by decide +kernel
theorem dX3_pass_92 : decode cX3_pass 92 = .ok (.aaload, 1) := by decide +kernel
theorem dX3_pass_93 : decode cX3_pass 93 = .ok (.aload_n 0, 1) := by decide +kernel
theorem dX3_pass_94 : decode cX3_pass 94 = .ok (.getfield 28, 3) := by decide +kernel
theorem dX3_pass_97 : decode cX3_pass 97 = .ok (.invokevirtual 86, 3) := by decide +kernel
theorem dX3_pass_100 : decode cX3_pass 100 = .ok (.goto 36, 3) := by decide +kernel
theorem dX3_pass_103 : decode cX3_pass 103 = .ok (.aload_n 0, 1) := by decide +kernel
theorem dX3_pass_104 : decode cX3_pass 104 = .ok (.iload 5, 2) := by decide +kernel
theorem dX3_pass_106 : decode cX3_pass 106 = .ok (.invokevirtual 54, 3) := by decide +kernel
theorem dX3_pass_109 : decode cX3_pass 109 = .ok (.ifCond .ne 27, 3) := by decide +kernel
theorem dX3_pass_112 : decode cX3_pass 112 = .ok (.aload_n 0, 1) := by decide +kernel
theorem dX3_pass_113 : decode cX3_pass 113 = .ok (.getfield 11, 3) := by decide +kernel
theorem dX3_pass_116 : decode cX3_pass 116 = .ok (.iload 5, 2) := by decide +kernel
theorem dX3_pass_118 : decode cX3_pass 118 = .ok (.aaload, 1) := by decide +kernel
theorem dX3_pass_119 : decode cX3_pass 119 = .ok (.getfield 74, 3) := by decide +kernel
theorem dX3_pass_122 : decode cX3_pass 122 = .ok (.iconst 1, 1) := by decide +kernel
theorem dX3_pass_123 : decode cX3_pass 123 = .ok (.if_icmp .ne 13, 3) := by decide +kernel
theorem dX3_pass_126 : decode cX3_pass 126 = .ok (.aload_n 0, 1) := by decide +kernel
theorem dX3_pass_127 : decode cX3_pass 127 = .ok (.getfield 11, 3) := by decide +kernel
theorem dX3_pass_130 : decode cX3_pass 130 = .ok (.iload 5, 2) := by decide +kernel
theorem dX3_pass_132 : decode cX3_pass 132 = .ok (.aaload, 1) := by decide +kernel
theorem dX3_pass_133 : decode cX3_pass 133 = .ok (.invokevirtual 90, 3) := by decide +kernel
theorem dX3_pass_136 : decode cX3_pass 136 = .ok (.iinc 5 1, 3) := by decide +kernel
theorem dX3_pass_139 : decode cX3_pass 139 = .ok (.goto (-107), 3) := by decide +kernel
theorem dX3_pass_142 : decode cX3_pass 142 = .ok (.aload_n 0, 1) := by decide +kernel
theorem dX3_pass_143 : decode cX3_pass 143 = .ok (.dup, 1) := by decide +kernel
theorem dX3_pass_144 : decode cX3_pass 144 = .ok (.getfield 28, 3) := by decide +kernel
theorem dX3_pass_147 : decode cX3_pass 147 = .ok (.iconst 1, 1) := by decide +kernel
theorem dX3_pass_148 : decode cX3_pass 148 = .ok (.iadd, 1) := by decide +kernel
theorem dX3_pass_149 : decode cX3_pass 149 = .ok (.putfield 28, 3) := by decide +kernel
theorem dX3_pass_152 : decode cX3_pass 152 = .ok (.iload 4, 2) := by decide +kernel
theorem dX3_pass_154 : decode cX3_pass 154 = .ok (.ifCond .ne 15, 3) := by decide +kernel
theorem dX3_pass_157 : decode cX3_pass 157 = .ok (.aload_n 0, 1) := by decide +kernel
theorem dX3_pass_158 : decode cX3_pass 158 = .ok (.dup, 1) := by decide +kernel
theorem dX3_pass_159 : decode cX3_pass 159 = .ok (.getfield 34, 3) := by decide +kernel
theorem dX3_pass_162 : decode cX3_pass 162 = .ok (.iload_n 3, 1) := by decide +kernel
theorem dX3_pass_163 : decode cX3_pass 163 = .ok (.iadd, 1) := by decide +kernel
theorem dX3_pass_164 : decode cX3_pass 164 = .ok (.putfield 34, 3) := by decide +kernel
theorem dX3_pass_167 : decode cX3_pass 167 = .ok (.iconst 0, 1) := by decide +kernel
theorem dX3_pass_168 : decode cX3_pass 168 = .ok (.ireturn, 1) := by decide +kernel
theorem dX3_pass_169 : decode cX3_pass 169 = .ok (.aload_n 0, 1) := by decide +kernel
theorem dX3_pass_170 : decode cX3_pass 170 = .ok (.dup, 1) := by decide +kernel
theorem dX3_pass_171 : decode cX3_pass 171 = .ok (.getfield 31, 3) := by decide +kernel
theorem dX3_pass_174 : decode cX3_pass 174 = .ok (.iload_n 3, 1) := by decide +kernel
theorem dX3_pass_175 : decode cX3_pass 175 = .ok (.iadd, 1) := by decide +kernel
theorem dX3_pass_176 : decode cX3_pass 176 = .ok (.putfield 31, 3) := by decide +kernel
theorem dX3_pass_179 : decode cX3_pass 179 = .ok (.iload_n 3, 1) := by decide +kernel
theorem dX3_pass_180 : decode cX3_pass 180 = .ok (.ireturn, 1) := by decide +kernel
theorem dX3_answeredIn_0 : decode cX3_answeredIn 0 = .ok (.iconst 0, 1) := by decide +kernel
theorem dX3_answeredIn_1 : decode cX3_answeredIn 1 = .ok (.istore_n 2, 1) := by decide +kernel
theorem dX3_answeredIn_2 : decode cX3_answeredIn 2 = .ok (.iconst 0, 1) := by decide +kernel
theorem dX3_answeredIn_3 : decode cX3_answeredIn 3 = .ok (.istore_n 3, 1) := by decide +kernel
theorem dX3_answeredIn_4 : decode cX3_answeredIn 4 = .ok (.iload_n 3, 1) := by decide +kernel
theorem dX3_answeredIn_5 : decode cX3_answeredIn 5 = .ok (.iload_n 1, 1) := by decide +kernel
theorem dX3_answeredIn_6 : decode cX3_answeredIn 6 = .ok (.if_icmp .ge 20, 3) := by decide +kernel
theorem dX3_answeredIn_9 : decode cX3_answeredIn 9 = .ok (.iload_n 2, 1) := by decide +kernel
theorem dX3_answeredIn_10 : decode cX3_answeredIn 10 = .ok (.aload_n 0, 1) := by decide +kernel
theorem dX3_answeredIn_11 : decode cX3_answeredIn 11 = .ok (.aload_n 0, 1) := by decide +kernel
theorem dX3_answeredIn_12 : decode cX3_answeredIn 12 = .ok (.invokevirtual 60, 3) := by decide +kernel
theorem dX3_answeredIn_15 : decode cX3_answeredIn 15 = .ok (.invokevirtual 93, 3) := by decide +kernel
theorem dX3_answeredIn_18 : decode cX3_answeredIn 18 = .ok (.iadd, 1) := by decide +kernel
theorem dX3_answeredIn_19 : decode cX3_answeredIn 19 = .ok (.istore_n 2, 1) := by decide +kernel
theorem dX3_answeredIn_20 : decode cX3_answeredIn 20 = .ok (.iinc 3 1, 3) := by decide +kernel
theorem dX3_answeredIn_23 : decode cX3_answeredIn 23 = .ok (.goto (-19), 3) := by decide +kernel
theorem dX3_answeredIn_26 : decode cX3_answeredIn 26 = .ok (.iload_n 2, 1) := by decide +kernel
theorem dX3_answeredIn_27 : decode cX3_answeredIn 27 = .ok (.ireturn, 1) := by decide +kernel
theorem dX3_carryOut_0 : decode cX3_carryOut 0 = .ok (.iload_n 1, 1) := by decide +kernel
theorem dX3_carryOut_1 : decode cX3_carryOut 1 = .ok (.tableswitch 95 1 5 #[35, 47, 62, 70, 83], 35) := by decide +kernel
theorem dX3_carryOut_36 : decode cX3_carryOut 36 = .ok (.aload_n 0, 1) := by decide +kernel
theorem dX3_carryOut_37 : decode cX3_carryOut 37 = .ok (.aload_n 0, 1) := by decide +kernel
theorem dX3_carryOut_38 : decode cX3_carryOut 38 = .ok (.invokevirtual 60, 3) := by decide +kernel
theorem dX3_carryOut_41 : decode cX3_carryOut 41 = .ok (.invokevirtual 93, 3) := by decide +kernel
theorem dX3_carryOut_44 : decode cX3_carryOut 44 = .ok (.pop, 1) := by decide +kernel
theorem dX3_carryOut_45 : decode cX3_carryOut 45 = .ok (.goto 51, 3) := by decide +kernel
theorem dX3_carryOut_48 : decode cX3_carryOut 48 = .ok (.aload_n 0, 1) := by decide +kernel
theorem dX3_carryOut_49 : decode cX3_carryOut 49 = .ok (.dup, 1) := by decide +kernel
theorem dX3_carryOut_50 : decode cX3_carryOut 50 = .ok (.getfield 25, 3) := by decide +kernel
theorem dX3_carryOut_53 : decode cX3_carryOut 53 = .ok (.iconst 1, 1) := by decide +kernel
theorem dX3_carryOut_54 : decode cX3_carryOut 54 = .ok (.iload_n 2, 1) := by decide +kernel
theorem dX3_carryOut_55 : decode cX3_carryOut 55 = .ok (.ishl, 1) := by decide +kernel
theorem dX3_carryOut_56 : decode cX3_carryOut 56 = .ok (.ixor, 1) := by decide +kernel
theorem dX3_carryOut_57 : decode cX3_carryOut 57 = .ok (.putfield 25, 3) := by decide +kernel
theorem dX3_carryOut_60 : decode cX3_carryOut 60 = .ok (.goto 36, 3) := by decide +kernel
theorem dX3_carryOut_63 : decode cX3_carryOut 63 = .ok (.aload_n 0, 1) := by decide +kernel
theorem dX3_carryOut_64 : decode cX3_carryOut 64 = .ok (.iload_n 3, 1) := by decide +kernel
theorem dX3_carryOut_65 : decode cX3_carryOut 65 = .ok (.putfield 22, 3) := by decide +kernel
theorem dX3_carryOut_68 : decode cX3_carryOut 68 = .ok (.goto 28, 3) := by decide +kernel
theorem dX3_carryOut_71 : decode cX3_carryOut 71 = .ok (.aload_n 0, 1) := by decide +kernel
theorem dX3_carryOut_72 : decode cX3_carryOut 72 = .ok (.getfield 11, 3) := by decide +kernel
theorem dX3_carryOut_75 : decode cX3_carryOut 75 = .ok (.iload_n 2, 1) := by decide +kernel
theorem dX3_carryOut_76 : decode cX3_carryOut 76 = .ok (.aaload, 1) := by decide +kernel
theorem dX3_carryOut_77 : decode cX3_carryOut 77 = .ok (.iload_n 3, 1) := by decide +kernel
theorem dX3_carryOut_78 : decode cX3_carryOut 78 = .ok (.putfield 97, 3) := by decide +kernel
theorem dX3_carryOut_81 : decode cX3_carryOut 81 = .ok (.goto 15, 3) := by decide +kernel
theorem dX3_carryOut_84 : decode cX3_carryOut 84 = .ok (.aload_n 0, 1) := by decide +kernel
theorem dX3_carryOut_85 : decode cX3_carryOut 85 = .ok (.getfield 11, 3) := by decide +kernel
theorem dX3_carryOut_88 : decode cX3_carryOut 88 = .ok (.iload_n 2, 1) := by decide +kernel
theorem dX3_carryOut_89 : decode cX3_carryOut 89 = .ok (.aaload, 1) := by decide +kernel
theorem dX3_carryOut_90 : decode cX3_carryOut 90 = .ok (.invokevirtual 100, 3) := by decide +kernel
theorem dX3_carryOut_93 : decode cX3_carryOut 93 = .ok (.goto 3, 3) := by decide +kernel
theorem dX3_carryOut_96 : decode cX3_carryOut 96 = .ok (.return_, 1) := by decide +kernel
theorem dX4_init_0 : decode cX4_init 0 = .ok (.aload_n 0, 1) := by decide +kernel
theorem dX4_init_1 : decode cX4_init 1 = .ok (.invokespecial 1, 3) := by decide +kernel
theorem dX4_init_4 : decode cX4_init 4 = .ok (.aload_n 0, 1) := by decide +kernel
theorem dX4_init_5 : decode cX4_init 5 = .ok (.bipush 6, 2) := by decide +kernel
theorem dX4_init_7 : decode cX4_init 7 = .ok (.bipush 40, 2) := by decide +kernel
theorem dX4_init_9 : decode cX4_init 9 = .ok (.multianewarray 9 2, 4) := by decide +kernel
theorem dX4_init_13 : decode cX4_init 13 = .ok (.putfield 11, 3) := by decide +kernel
theorem dX4_init_16 : decode cX4_init 16 = .ok (.aload_n 0, 1) := by decide +kernel
theorem dX4_init_17 : decode cX4_init 17 = .ok (.bipush 6, 2) := by decide +kernel
theorem dX4_init_19 : decode cX4_init 19 = .ok (.newarray .int, 2) := by decide +kernel
theorem dX4_init_21 : decode cX4_init 21 = .ok (.putfield 14, 3) := by decide +kernel
theorem dX4_init_24 : decode cX4_init 24 = .ok (.aload_n 0, 1) := by decide +kernel
theorem dX4_init_25 : decode cX4_init 25 = .ok (.iconst 4, 1) := by decide +kernel
theorem dX4_init_26 : decode cX4_init 26 = .ok (.bipush 60, 2) := by decide +kernel
theorem dX4_init_28 : decode cX4_init 28 = .ok (.multianewarray 18 2, 4) := by decide +kernel
theorem dX4_init_32 : decode cX4_init 32 = .ok (.putfield 20, 3) := by decide +kernel
theorem dX4_init_35 : decode cX4_init 35 = .ok (.aload_n 0, 1) := by decide +kernel
theorem dX4_init_36 : decode cX4_init 36 = .ok (.iconst 4, 1) := by decide +kernel
theorem dX4_init_37 : decode cX4_init 37 = .ok (.newarray .int, 2) := by decide +kernel
theorem dX4_init_39 : decode cX4_init 39 = .ok (.putfield 23, 3) := by decide +kernel
theorem dX4_init_42 : decode cX4_init 42 = .ok (.aload_n 0, 1) := by decide +kernel
theorem dX4_init_43 : decode cX4_init 43 = .ok (.new 26, 3) := by decide +kernel
theorem dX4_init_46 : decode cX4_init 46 = .ok (.dup, 1) := by decide +kernel
theorem dX4_init_47 : decode cX4_init 47 = .ok (.invokespecial 28, 3) := by decide +kernel
theorem dX4_init_50 : decode cX4_init 50 = .ok (.putfield 29, 3) := by decide +kernel
theorem dX4_init_53 : decode cX4_init 53 = .ok (.aload_n 0, 1) := by decide +kernel
theorem dX4_init_54 : decode cX4_init 54 = .ok (.new 26, 3) := by decide +kernel
theorem dX4_init_57 : decode cX4_init 57 = .ok (.dup, 1) := by decide +kernel
theorem dX4_init_58 : decode cX4_init 58 = .ok (.invokespecial 28, 3) := by decide +kernel
theorem dX4_init_61 : decode cX4_init 61 = .ok (.putfield 33, 3) := by decide +kernel
theorem dX4_init_64 : decode cX4_init 64 = .ok (.aload_n 0, 1) := by decide +kernel
theorem dX4_init_65 : decode cX4_init 65 = .ok (.new 26, 3) := by decide +kernel
theorem dX4_init_68 : decode cX4_init 68 = .ok (.dup, 1) := by decide +kernel
theorem dX4_init_69 : decode cX4_init 69 = .ok (.invokespecial 28, 3) := by decide +kernel
theorem dX4_init_72 : decode cX4_init 72 = .ok (.putfield 36, 3) := by decide +kernel
theorem dX4_init_75 : decode cX4_init 75 = .ok (.aload_n 0, 1) := by decide +kernel
theorem dX4_init_76 : decode cX4_init 76 = .ok (.new 39, 3) := by decide +kernel
theorem dX4_init_79 : decode cX4_init 79 = .ok (.dup, 1) := by decide +kernel
theorem dX4_init_80 : decode cX4_init 80 = .ok (.invokespecial 41, 3) := by decide +kernel
theorem dX4_init_83 : decode cX4_init 83 = .ok (.putfield 42, 3) := by decide +kernel
theorem dX4_init_86 : decode cX4_init 86 = .ok (.aload_n 0, 1) := by decide +kernel
theorem dX4_init_87 : decode cX4_init 87 = .ok (.iconst 3, 1) := by decide +kernel
theorem dX4_init_88 : decode cX4_init 88 = .ok (.anewarray 39, 3) := by decide +kernel
theorem dX4_init_91 : decode cX4_init 91 = .ok (.putfield 46, 3) := by decide +kernel
theorem dX4_init_94 : decode cX4_init 94 = .ok (.aload_n 0, 1) := by decide +kernel
theorem dX4_init_95 : decode cX4_init 95 = .ok (.iconst 0, 1) := by decide +kernel
theorem dX4_init_96 : decode cX4_init 96 = .ok (.putfield 50, 3) := by decide +kernel
theorem dX4_init_99 : decode cX4_init 99 = .ok (.aload_n 0, 1) := by decide +kernel
theorem dX4_init_100 : decode cX4_init 100 = .ok (.lconst 0, 1) := by decide +kernel
theorem dX4_init_101 : decode cX4_init 101 = .ok (.putfield 54, 3) := by decide +kernel
theorem dX4_init_104 : decode cX4_init 104 = .ok (.aload_n 0, 1) := by decide +kernel
theorem dX4_init_105 : decode cX4_init 105 = .ok (.lconst 1, 1) := by decide +kernel
theorem dX4_init_106 : decode cX4_init 106 = .ok (.putfield 58, 3) := by decide +kernel
theorem dX4_init_109 : decode cX4_init 109 = .ok (.aload_n 0, 1) := by decide +kernel
theorem dX4_init_110 : decode cX4_init 110 = .ok (.iconst 0, 1) := by decide +kernel
theorem dX4_init_111 : decode cX4_init 111 = .ok (.putfield 61, 3) := by decide +kernel
theorem dX4_init_114 : decode cX4_init 114 = .ok (.aload_n 0, 1) := by decide +kernel
theorem dX4_init_115 : decode cX4_init 115 = .ok (.bipush 6, 2) := by decide +kernel
theorem dX4_init_117 : decode cX4_init 117 = .ok (.newarray .int, 2) := by decide +kernel
theorem dX4_init_119 : decode cX4_init 119 = .ok (.putfield 64, 3) := by decide +kernel
theorem dX4_init_122 : decode cX4_init 122 = .ok (.aload_n 0, 1) := by decide +kernel
theorem dX4_init_123 : decode cX4_init 123 = .ok (.new 67, 3) := by decide +kernel
theorem dX4_init_126 : decode cX4_init 126 = .ok (.dup, 1) := by decide +kernel
theorem dX4_init_127 : decode cX4_init 127 = .ok (.invokespecial 69, 3) := by decide +kernel
theorem dX4_init_130 : decode cX4_init 130 = .ok (.putfield 70, 3) := by decide +kernel
theorem dX4_init_133 : decode cX4_init 133 = .ok (.aload_n 0, 1) := by decide +kernel
theorem dX4_init_134 : decode cX4_init 134 = .ok (.sipush 256, 3) := by decide +kernel
theorem dX4_init_137 : decode cX4_init 137 = .ok (.newarray .int, 2) := by decide +kernel
theorem dX4_init_139 : decode cX4_init 139 = .ok (.putfield 74, 3) := by decide +kernel
theorem dX4_init_142 : decode cX4_init 142 = .ok (.aload_n 0, 1) := by decide +kernel
theorem dX4_init_143 : decode cX4_init 143 = .ok (.bipush 60, 2) := by decide +kernel
theorem dX4_init_145 : decode cX4_init 145 = .ok (.newarray .int, 2) := by decide +kernel
theorem dX4_init_147 : decode cX4_init 147 = .ok (.putfield 77, 3) := by decide +kernel
theorem dX4_init_150 : decode cX4_init 150 = .ok (.aload_n 0, 1) := by decide +kernel
theorem dX4_init_151 : decode cX4_init 151 = .ok (.getfield 14, 3) := by decide +kernel
theorem dX4_init_154 : decode cX4_init 154 = .ok (.iconst (-1), 1) := by decide +kernel
theorem dX4_init_155 : decode cX4_init 155 = .ok (.invokestatic 80, 3) := by decide +kernel
theorem dX4_init_158 : decode cX4_init 158 = .ok (.aload_n 0, 1) := by decide +kernel
theorem dX4_init_159 : decode cX4_init 159 = .ok (.getfield 23, 3) := by decide +kernel
theorem dX4_init_162 : decode cX4_init 162 = .ok (.iconst (-1), 1) := by decide +kernel
theorem dX4_init_163 : decode cX4_init 163 = .ok (.invokestatic 80, 3) := by decide +kernel
theorem dX4_init_166 : decode cX4_init 166 = .ok (.iconst 0, 1) := by decide +kernel
theorem dX4_init_167 : decode cX4_init 167 = .ok (.istore_n 1, 1) := by decide +kernel
theorem dX4_init_168 : decode cX4_init 168 = .ok (.iload_n 1, 1) := by decide +kernel
theorem dX4_init_169 : decode cX4_init 169 = .ok (.iconst 3, 1) := by decide +kernel
theorem dX4_init_170 : decode cX4_init 170 = .ok (.if_icmp .ge 32, 3) := by decide +kernel
theorem dX4_init_173 : decode cX4_init 173 = .ok (.aload_n 0, 1) := by decide +kernel
theorem dX4_init_174 : decode cX4_init 174 = .ok (.getfield 46, 3) := by decide +kernel
theorem dX4_init_177 : decode cX4_init 177 = .ok (.iload_n 1, 1) := by decide +kernel
theorem dX4_init_178 : decode cX4_init 178 = .ok (.new 39, 3) := by decide +kernel
theorem dX4_init_181 : decode cX4_init 181 = .ok (.dup, 1) := by decide +kernel
theorem dX4_init_182 : decode cX4_init 182 = .ok (.invokespecial 41, 3) := by decide +kernel
theorem dX4_init_185 : decode cX4_init 185 = .ok (.aastore, 1) := by decide +kernel
theorem dX4_init_186 : decode cX4_init 186 = .ok (.aload_n 0, 1) := by decide +kernel
theorem dX4_init_187 : decode cX4_init 187 = .ok (.getfield 46, 3) := by decide +kernel
theorem dX4_init_190 : decode cX4_init 190 = .ok (.iload_n 1, 1) := by decide +kernel
theorem dX4_init_191 : decode cX4_init 191 = .ok (.aaload, 1) := by decide +kernel
theorem dX4_init_192 : decode cX4_init 192 = .ok (.iconst (-1), 1) := by decide +kernel
theorem dX4_init_193 : decode cX4_init 193 = .ok (.putfield 86, 3) := by decide +kernel
theorem dX4_init_196 : decode cX4_init 196 = .ok (.iinc 1 1, 3) := by decide +kernel
theorem dX4_init_199 : decode cX4_init 199 = .ok (.goto (-31), 3) := by decide +kernel
theorem dX4_init_202 : decode cX4_init 202 = .ok (.return_, 1) := by decide +kernel
theorem dX4_row_0 : decode cX4_row 0 = .ok (.iload_n 1, 1) := by decide +kernel
theorem dX4_row_1 : decode cX4_row 1 = .ok (.invokestatic 89, 3) := by decide +kernel
theorem dX4_row_4 : decode cX4_row 4 = .ok (.ifCond .eq 9, 3) := by decide +kernel
theorem dX4_row_7 : decode cX4_row 7 = .ok (.iload_n 2, 1) := by decide +kernel
theorem dX4_row_8 : decode cX4_row 8 = .ok (.bipush 40, 2) := by decide +kernel
theorem dX4_row_10 : decode cX4_row 10 = .ok (.if_icmp .le 5, 3) := by decide +kernel
theorem dX4_row_13 : decode cX4_row 13 = .ok (.iconst (-1), 1) := by decide +kernel
theorem dX4_row_14 : decode cX4_row 14 = .ok (.ireturn, 1) := by decide +kernel
theorem dX4_row_15 : decode cX4_row 15 = .ok (.iload_n 2, 1) := by decide +kernel
theorem dX4_row_16 : decode cX4_row 16 = .ok (.ifCond .ge 9, 3) := by decide +kernel
theorem dX4_row_19 : decode cX4_row 19 = .ok (.aload_n 0, 1) := by decide +kernel
theorem dX4_row_20 : decode cX4_row 20 = .ok (.iconst 5, 1) := by decide +kernel
theorem dX4_row_21 : decode cX4_row 21 = .ok (.invokevirtual 93, 3) := by decide +kernel
theorem dX4_row_24 : decode cX4_row 24 = .ok (.ireturn, 1) := by decide +kernel
theorem dX4_row_25 : decode cX4_row 25 = .ok (.aload_n 0, 1) := by decide +kernel
theorem dX4_row_26 : decode cX4_row 26 = .ok (.getfield 11, 3) := by decide +kernel
theorem dX4_row_29 : decode cX4_row 29 = .ok (.iload_n 1, 1) := by decide +kernel
theorem dX4_row_30 : decode cX4_row 30 = .ok (.aaload, 1) := by decide +kernel
theorem dX4_row_31 : decode cX4_row 31 = .ok (.iconst 0, 1) := by decide +kernel
theorem dX4_row_32 : decode cX4_row 32 = .ok (.invokestatic 80, 3) := by decide +kernel
theorem dX4_row_35 : decode cX4_row 35 = .ok (.aload_n 0, 1) := by decide +kernel
theorem dX4_row_36 : decode cX4_row 36 = .ok (.getfield 14, 3) := by decide +kernel
theorem dX4_row_39 : decode cX4_row 39 = .ok (.iload_n 1, 1) := by decide +kernel
theorem dX4_row_40 : decode cX4_row 40 = .ok (.iload_n 2, 1) := by decide +kernel
theorem dX4_row_41 : decode cX4_row 41 = .ok (.iastore, 1) := by decide +kernel
theorem dX4_row_42 : decode cX4_row 42 = .ok (.iload_n 2, 1) := by decide +kernel
theorem dX4_row_43 : decode cX4_row 43 = .ok (.ireturn, 1) := by decide +kernel
theorem dX4_lay_0 : decode cX4_lay 0 = .ok (.iload_n 1, 1) := by decide +kernel
theorem dX4_lay_1 : decode cX4_lay 1 = .ok (.invokestatic 89, 3) := by decide +kernel
theorem dX4_lay_4 : decode cX4_lay 4 = .ok (.ifCond .ne 5, 3) := by decide +kernel
theorem dX4_lay_7 : decode cX4_lay 7 = .ok (.iconst (-1), 1) := by decide +kernel
theorem dX4_lay_8 : decode cX4_lay 8 = .ok (.ireturn, 1) := by decide +kernel
theorem dX4_lay_9 : decode cX4_lay 9 = .ok (.aload_n 0, 1) := by decide +kernel
theorem dX4_lay_10 : decode cX4_lay 10 = .ok (.getfield 14, 3) := by decide +kernel
theorem dX4_lay_13 : decode cX4_lay 13 = .ok (.iload_n 1, 1) := by decide +kernel
theorem dX4_lay_14 : decode cX4_lay 14 = .ok (.iaload, 1) := by decide +kernel
theorem dX4_lay_15 : decode cX4_lay 15 = .ok (.iload_n 2, 1) := by decide +kernel
theorem dX4_lay_16 : decode cX4_lay 16 = .ok (.invokestatic 97, 3) := by decide +kernel
theorem dX4_lay_19 : decode cX4_lay 19 = .ok (.istore 4, 2) := by decide +kernel
theorem dX4_lay_21 : decode cX4_lay 21 = .ok (.iload 4, 2) := by decide +kernel
theorem dX4_lay_23 : decode cX4_lay 23 = .ok (.ifCond .eq 10, 3) := by decide +kernel
theorem dX4_lay_26 : decode cX4_lay 26 = .ok (.aload_n 0, 1) := by decide +kernel
theorem dX4_lay_27 : decode cX4_lay 27 = .ok (.iload 4, 2) := by decide +kernel
theorem dX4_lay_29 : decode cX4_lay 29 = .ok (.invokevirtual 93, 3) := by decide +kernel
theorem dX4_lay_32 : decode cX4_lay 32 = .ok (.ireturn, 1) := by decide +kernel
theorem dX4_lay_33 : decode cX4_lay 33 = .ok (.aload_n 0, 1) := by decide +kernel
theorem dX4_lay_34 : decode cX4_lay 34 = .ok (.aload_n 0, 1) := by decide +kernel
theorem dX4_lay_35 : decode cX4_lay 35 = .ok (.getfield 11, 3) := by decide +kernel
theorem dX4_lay_38 : decode cX4_lay 38 = .ok (.iload_n 1, 1) := by decide +kernel
theorem dX4_lay_39 : decode cX4_lay 39 = .ok (.aaload, 1) := by decide +kernel
theorem dX4_lay_40 : decode cX4_lay 40 = .ok (.iload_n 2, 1) := by decide +kernel
theorem dX4_lay_41 : decode cX4_lay 41 = .ok (.iaload, 1) := by decide +kernel
theorem dX4_lay_42 : decode cX4_lay 42 = .ok (.putfield 50, 3) := by decide +kernel
theorem dX4_lay_45 : decode cX4_lay 45 = .ok (.aload_n 0, 1) := by decide +kernel
theorem dX4_lay_46 : decode cX4_lay 46 = .ok (.getfield 11, 3) := by decide +kernel
theorem dX4_lay_49 : decode cX4_lay 49 = .ok (.iload_n 1, 1) := by decide +kernel
theorem dX4_lay_50 : decode cX4_lay 50 = .ok (.aaload, 1) := by decide +kernel
theorem dX4_lay_51 : decode cX4_lay 51 = .ok (.iload_n 2, 1) := by decide +kernel
theorem dX4_lay_52 : decode cX4_lay 52 = .ok (.iload_n 3, 1) := by decide +kernel
theorem dX4_lay_53 : decode cX4_lay 53 = .ok (.iastore, 1) := by decide +kernel
theorem dX4_lay_54 : decode cX4_lay 54 = .ok (.iconst 1, 1) := by decide +kernel
theorem dX4_lay_55 : decode cX4_lay 55 = .ok (.ireturn, 1) := by decide +kernel
theorem dX4_at_0 : decode cX4_at 0 = .ok (.iload_n 1, 1) := by decide +kernel
theorem dX4_at_1 : decode cX4_at 1 = .ok (.invokestatic 89, 3) := by decide +kernel
theorem dX4_at_4 : decode cX4_at 4 = .ok (.ifCond .ne 5, 3) := by decide +kernel
theorem dX4_at_7 : decode cX4_at 7 = .ok (.iconst (-1), 1) := by decide +kernel
theorem dX4_at_8 : decode cX4_at 8 = .ok (.ireturn, 1) := by decide +kernel
theorem dX4_at_9 : decode cX4_at 9 = .ok (.aload_n 0, 1) := by decide +kernel
theorem dX4_at_10 : decode cX4_at 10 = .ok (.getfield 14, 3) := by decide +kernel
theorem dX4_at_13 : decode cX4_at 13 = .ok (.iload_n 1, 1) := by decide +kernel
theorem dX4_at_14 : decode cX4_at 14 = .ok (.iaload, 1) := by decide +kernel
theorem dX4_at_15 : decode cX4_at 15 = .ok (.iload_n 2, 1) := by decide +kernel
theorem dX4_at_16 : decode cX4_at 16 = .ok (.invokestatic 97, 3) := by decide +kernel
theorem dX4_at_19 : decode cX4_at 19 = .ok (.istore_n 3, 1) := by decide +kernel
theorem dX4_at_20 : decode cX4_at 20 = .ok (.iload_n 3, 1) := by decide +kernel
theorem dX4_at_21 : decode cX4_at 21 = .ok (.ifCond .eq 9, 3) := by decide +kernel
theorem dX4_at_24 : decode cX4_at 24 = .ok (.aload_n 0, 1) := by decide +kernel
theorem dX4_at_25 : decode cX4_at 25 = .ok (.iload_n 3, 1) := by decide +kernel
theorem dX4_at_26 : decode cX4_at 26 = .ok (.invokevirtual 93, 3) := by decide +kernel
theorem dX4_at_29 : decode cX4_at 29 = .ok (.ireturn, 1) := by decide +kernel
theorem dX4_at_30 : decode cX4_at 30 = .ok (.aload_n 0, 1) := by decide +kernel
theorem dX4_at_31 : decode cX4_at 31 = .ok (.aload_n 0, 1) := by decide +kernel
theorem dX4_at_32 : decode cX4_at 32 = .ok (.getfield 11, 3) := by decide +kernel
theorem dX4_at_35 : decode cX4_at 35 = .ok (.iload_n 1, 1) := by decide +kernel
theorem dX4_at_36 : decode cX4_at 36 = .ok (.aaload, 1) := by decide +kernel
theorem dX4_at_37 : decode cX4_at 37 = .ok (.iload_n 2, 1) := by decide +kernel
theorem dX4_at_38 : decode cX4_at 38 = .ok (.iaload, 1) := by decide +kernel
theorem dX4_at_39 : decode cX4_at 39 = .ok (.putfield 50, 3) := by decide +kernel
theorem dX4_at_42 : decode cX4_at 42 = .ok (.iconst 1, 1) := by decide +kernel
theorem dX4_at_43 : decode cX4_at 43 = .ok (.ireturn, 1) := by decide +kernel
theorem dX4_tear_0 : decode cX4_tear 0 = .ok (.iload_n 1, 1) := by decide +kernel
theorem dX4_tear_1 : decode cX4_tear 1 = .ok (.invokestatic 89, 3) := by decide +kernel
theorem dX4_tear_4 : decode cX4_tear 4 = .ok (.ifCond .ne 5, 3) := by decide +kernel
theorem dX4_tear_7 : decode cX4_tear 7 = .ok (.iconst (-1), 1) := by decide +kernel
theorem dX4_tear_8 : decode cX4_tear 8 = .ok (.ireturn, 1) := by decide +kernel
theorem dX4_tear_9 : decode cX4_tear 9 = .ok (.aload_n 0, 1) := by decide +kernel
theorem dX4_tear_10 : decode cX4_tear 10 = .ok (.getfield 14, 3) := by decide +kernel
theorem dX4_tear_13 : decode cX4_tear 13 = .ok (.iload_n 1, 1) := by decide +kernel
theorem dX4_tear_14 : decode cX4_tear 14 = .ok (.iaload, 1) := by decide +kernel
theorem dX4_tear_15 : decode cX4_tear 15 = .ok (.iconst (-1), 1) := by decide +kernel
theorem dX4_tear_16 : decode cX4_tear 16 = .ok (.if_icmp .ne 9, 3) := by decide +kernel
theorem dX4_tear_19 : decode cX4_tear 19 = .ok (.aload_n 0, 1) := by decide +kernel
theorem dX4_tear_20 : decode cX4_tear 20 = .ok (.iconst 1, 1) := by decide +kernel
theorem dX4_tear_21 : decode cX4_tear 21 = .ok (.invokevirtual 93, 3) := by decide +kernel
theorem dX4_tear_24 : decode cX4_tear 24 = .ok (.ireturn, 1) := by decide +kernel
theorem dX4_tear_25 : decode cX4_tear 25 = .ok (.aload_n 0, 1) := by decide +kernel
theorem dX4_tear_26 : decode cX4_tear 26 = .ok (.getfield 14, 3) := by decide +kernel
theorem dX4_tear_29 : decode cX4_tear 29 = .ok (.iload_n 1, 1) := by decide +kernel
theorem dX4_tear_30 : decode cX4_tear 30 = .ok (.iconst (-1), 1) := by decide +kernel
theorem dX4_tear_31 : decode cX4_tear 31 = .ok (.iastore, 1) := by decide +kernel
theorem dX4_tear_32 : decode cX4_tear 32 = .ok (.iconst 1, 1) := by decide +kernel
theorem dX4_tear_33 : decode cX4_tear 33 = .ok (.ireturn, 1) := by decide +kernel
theorem dX4_copy_0 : decode cX4_copy 0 = .ok (.iload_n 1, 1) := by decide +kernel
theorem dX4_copy_1 : decode cX4_copy 1 = .ok (.invokestatic 89, 3) := by decide +kernel
theorem dX4_copy_4 : decode cX4_copy 4 = .ok (.ifCond .eq 10, 3) := by decide +kernel
theorem dX4_copy_7 : decode cX4_copy 7 = .ok (.iload_n 3, 1) := by decide +kernel
theorem dX4_copy_8 : decode cX4_copy 8 = .ok (.invokestatic 89, 3) := by decide +kernel
theorem dX4_copy_11 : decode cX4_copy 11 = .ok (.ifCond .ne 5, 3) := by decide +kernel
theorem dX4_copy_14 : decode cX4_copy 14 = .ok (.iconst (-1), 1) := by decide +kernel
theorem dX4_copy_15 : decode cX4_copy 15 = .ok (.ireturn, 1) := by decide +kernel
theorem dX4_copy_16 : decode cX4_copy 16 = .ok (.iload 5, 2) := by decide +kernel
theorem dX4_copy_18 : decode cX4_copy 18 = .ok (.ifCond .ge 9, 3) := by decide +kernel
theorem dX4_copy_21 : decode cX4_copy 21 = .ok (.aload_n 0, 1) := by decide +kernel
theorem dX4_copy_22 : decode cX4_copy 22 = .ok (.iconst 5, 1) := by decide +kernel
theorem dX4_copy_23 : decode cX4_copy 23 = .ok (.invokevirtual 93, 3) := by decide +kernel
theorem dX4_copy_26 : decode cX4_copy 26 = .ok (.ireturn, 1) := by decide +kernel
theorem dX4_copy_27 : decode cX4_copy 27 = .ok (.aload_n 0, 1) := by decide +kernel
theorem dX4_copy_28 : decode cX4_copy 28 = .ok (.getfield 14, 3) := by decide +kernel
theorem dX4_copy_31 : decode cX4_copy 31 = .ok (.iload_n 1, 1) := by decide +kernel
theorem dX4_copy_32 : decode cX4_copy 32 = .ok (.iaload, 1) := by decide +kernel
theorem dX4_copy_33 : decode cX4_copy 33 = .ok (.iconst (-1), 1) := by decide +kernel
theorem dX4_copy_34 : decode cX4_copy 34 = .ok (.if_icmp .eq 13, 3) := by decide +kernel
theorem dX4_copy_37 : decode cX4_copy 37 = .ok (.aload_n 0, 1) := by decide +kernel
theorem dX4_copy_38 : decode cX4_copy 38 = .ok (.getfield 14, 3) := by decide +kernel
theorem dX4_copy_41 : decode cX4_copy 41 = .ok (.iload_n 3, 1) := by decide +kernel
theorem dX4_copy_42 : decode cX4_copy 42 = .ok (.iaload, 1) := by decide +kernel
theorem dX4_copy_43 : decode cX4_copy 43 = .ok (.iconst (-1), 1) := by decide +kernel
theorem dX4_copy_44 : decode cX4_copy 44 = .ok (.if_icmp .ne 9, 3) := by decide +kernel
theorem dX4_copy_47 : decode cX4_copy 47 = .ok (.aload_n 0, 1) := by decide +kernel
theorem dX4_copy_48 : decode cX4_copy 48 = .ok (.iconst 1, 1) := by decide +kernel
theorem dX4_copy_49 : decode cX4_copy 49 = .ok (.invokevirtual 93, 3) := by decide +kernel
theorem dX4_copy_52 : decode cX4_copy 52 = .ok (.ireturn, 1) := by decide +kernel
theorem dX4_copy_53 : decode cX4_copy 53 = .ok (.aload_n 0, 1) := by decide +kernel
theorem dX4_copy_54 : decode cX4_copy 54 = .ok (.getfield 14, 3) := by decide +kernel
theorem dX4_copy_57 : decode cX4_copy 57 = .ok (.iload_n 1, 1) := by decide +kernel
theorem dX4_copy_58 : decode cX4_copy 58 = .ok (.iaload, 1) := by decide +kernel
theorem dX4_copy_59 : decode cX4_copy 59 = .ok (.iload_n 2, 1) := by decide +kernel
theorem dX4_copy_60 : decode cX4_copy 60 = .ok (.iload 5, 2) := by decide +kernel
theorem dX4_copy_62 : decode cX4_copy 62 = .ok (.invokestatic 101, 3) := by decide +kernel
theorem dX4_copy_65 : decode cX4_copy 65 = .ok (.ifCond .eq 19, 3) := by decide +kernel
theorem dX4_copy_68 : decode cX4_copy 68 = .ok (.aload_n 0, 1) := by decide +kernel
theorem dX4_copy_69 : decode cX4_copy 69 = .ok (.getfield 14, 3) := by decide +kernel
theorem dX4_copy_72 : decode cX4_copy 72 = .ok (.iload_n 3, 1) := by decide +kernel
theorem dX4_copy_73 : decode cX4_copy 73 = .ok (.iaload, 1) := by decide +kernel
theorem dX4_copy_74 : decode cX4_copy 74 = .ok (.iload 4, 2) := by decide +kernel
theorem dX4_copy_76 : decode cX4_copy 76 = .ok (.iload 5, 2) := by decide +kernel
theorem dX4_copy_78 : decode cX4_copy 78 = .ok (.invokestatic 101, 3) := by decide +kernel
theorem dX4_copy_81 : decode cX4_copy 81 = .ok (.ifCond .ne 9, 3) := by decide +kernel
theorem dX4_copy_84 : decode cX4_copy 84 = .ok (.aload_n 0, 1) := by decide +kernel
theorem dX4_copy_85 : decode cX4_copy 85 = .ok (.iconst 2, 1) := by decide +kernel
theorem dX4_copy_86 : decode cX4_copy 86 = .ok (.invokevirtual 93, 3) := by decide +kernel
theorem dX4_copy_89 : decode cX4_copy 89 = .ok (.ireturn, 1) := by decide +kernel
theorem dX4_copy_90 : decode cX4_copy 90 = .ok (.aload_n 0, 1) := by decide +kernel
theorem dX4_copy_91 : decode cX4_copy 91 = .ok (.getfield 11, 3) := by decide +kernel
theorem dX4_copy_94 : decode cX4_copy 94 = .ok (.iload_n 1, 1) := by decide +kernel
theorem dX4_copy_95 : decode cX4_copy 95 = .ok (.aaload, 1) := by decide +kernel
theorem dX4_copy_96 : decode cX4_copy 96 = .ok (.iload_n 2, 1) := by decide +kernel
theorem dX4_copy_97 : decode cX4_copy 97 = .ok (.aload_n 0, 1) := by decide +kernel
theorem dX4_copy_98 : decode cX4_copy 98 = .ok (.getfield 11, 3) := by decide +kernel
theorem dX4_copy_101 : decode cX4_copy 101 = .ok (.iload_n 3, 1) := by decide +kernel
theorem dX4_copy_102 : decode cX4_copy 102 = .ok (.aaload, 1) := by decide +kernel
theorem dX4_copy_103 : decode cX4_copy 103 = .ok (.iload 4, 2) := by decide +kernel
theorem dX4_copy_105 : decode cX4_copy 105 = .ok (.iload 5, 2) := by decide +kernel
theorem dX4_copy_107 : decode cX4_copy 107 = .ok (.invokestatic 105, 3) := by decide +kernel
theorem dX4_copy_110 : decode cX4_copy 110 = .ok (.iconst 1, 1) := by decide +kernel
theorem dX4_copy_111 : decode cX4_copy 111 = .ok (.ireturn, 1) := by decide +kernel
theorem dX4_mean_0 : decode cX4_mean 0 = .ok (.iload_n 1, 1) := by decide +kernel
theorem dX4_mean_1 : decode cX4_mean 1 = .ok (.invokestatic 89, 3) := by decide +kernel
theorem dX4_mean_4 : decode cX4_mean 4 = .ok (.ifCond .ne 5, 3) := by decide +kernel
theorem dX4_mean_7 : decode cX4_mean 7 = .ok (.iconst (-1), 1) := by decide +kernel
theorem dX4_mean_8 : decode cX4_mean 8 = .ok (.ireturn, 1) := by decide +kernel
theorem dX4_mean_9 : decode cX4_mean 9 = .ok (.aload_n 0, 1) := by decide +kernel
theorem dX4_mean_10 : decode cX4_mean 10 = .ok (.getfield 14, 3) := by decide +kernel
theorem dX4_mean_13 : decode cX4_mean 13 = .ok (.iload_n 1, 1) := by decide +kernel
theorem dX4_mean_14 : decode cX4_mean 14 = .ok (.iaload, 1) := by decide +kernel
theorem dX4_mean_15 : decode cX4_mean 15 = .ok (.istore_n 2, 1) := by decide +kernel
theorem dX4_mean_16 : decode cX4_mean 16 = .ok (.iload_n 2, 1) := by decide +kernel
theorem dX4_mean_17 : decode cX4_mean 17 = .ok (.iconst (-1), 1) := by decide +kernel
theorem dX4_mean_18 : decode cX4_mean 18 = .ok (.if_icmp .ne 9, 3) := by decide +kernel
theorem dX4_mean_21 : decode cX4_mean 21 = .ok (.aload_n 0, 1) := by decide +kernel
theorem dX4_mean_22 : decode cX4_mean 22 = .ok (.iconst 1, 1) := by decide +kernel
theorem dX4_mean_23 : decode cX4_mean 23 = .ok (.invokevirtual 93, 3) := by decide +kernel
theorem dX4_mean_26 : decode cX4_mean 26 = .ok (.ireturn, 1) := by decide +kernel
theorem dX4_mean_27 : decode cX4_mean 27 = .ok (.iload_n 2, 1) := by decide +kernel
theorem dX4_mean_28 : decode cX4_mean 28 = .ok (.ifCond .gt 9, 3) := by decide +kernel
theorem dX4_mean_31 : decode cX4_mean 31 = .ok (.aload_n 0, 1) := by decide +kernel
theorem dX4_mean_32 : decode cX4_mean 32 = .ok (.iconst 4, 1) := by decide +kernel
theorem dX4_mean_33 : decode cX4_mean 33 = .ok (.invokevirtual 93, 3) := by decide +kernel
theorem dX4_mean_36 : decode cX4_mean 36 = .ok (.ireturn, 1) := by decide +kernel
theorem dX4_mean_37 : decode cX4_mean 37 = .ok (.lconst 0, 1) := by decide +kernel
theorem dX4_mean_38 : decode cX4_mean 38 = .ok (.lstore_n 3, 1) := by decide +kernel
theorem dX4_mean_39 : decode cX4_mean 39 = .ok (.iconst 0, 1) := by decide +kernel
theorem dX4_mean_40 : decode cX4_mean 40 = .ok (.istore 5, 2) := by decide +kernel
theorem dX4_mean_42 : decode cX4_mean 42 = .ok (.iload 5, 2) := by decide +kernel
theorem dX4_mean_44 : decode cX4_mean 44 = .ok (.iload_n 2, 1) := by decide +kernel
theorem dX4_mean_45 : decode cX4_mean 45 = .ok (.if_icmp .ge 22, 3) := by decide +kernel
theorem dX4_mean_48 : decode cX4_mean 48 = .ok (.lload_n 3, 1) := by decide +kernel
theorem dX4_mean_49 : decode cX4_mean 49 = .ok (.aload_n 0, 1) := by decide +kernel
theorem dX4_mean_50 : decode cX4_mean 50 = .ok (.getfield 11, 3) := by decide +kernel
theorem dX4_mean_53 : decode cX4_mean 53 = .ok (.iload_n 1, 1) := by decide +kernel
theorem dX4_mean_54 : decode cX4_mean 54 = .ok (.aaload, 1) := by decide +kernel
theorem dX4_mean_55 : decode cX4_mean 55 = .ok (.iload 5, 2) := by decide +kernel
theorem dX4_mean_57 : decode cX4_mean 57 = .ok (.iaload, 1) := by decide +kernel
theorem dX4_mean_58 : decode cX4_mean 58 = .ok (.i2l, 1) := by decide +kernel
theorem dX4_mean_59 : decode cX4_mean 59 = .ok (.ladd, 1) := by decide +kernel
theorem dX4_mean_60 : decode cX4_mean 60 = .ok (.lstore_n 3, 1) := by decide +kernel
theorem dX4_mean_61 : decode cX4_mean 61 = .ok (.iinc 5 1, 3) := by decide +kernel
theorem dX4_mean_64 : decode cX4_mean 64 = .ok (.goto (-22), 3) := by decide +kernel
theorem dX4_mean_67 : decode cX4_mean 67 = .ok (.aload_n 0, 1) := by decide +kernel
theorem dX4_mean_68 : decode cX4_mean 68 = .ok (.lload_n 3, 1) := by decide +kernel
theorem dX4_mean_69 : decode cX4_mean 69 = .ok (.iload_n 2, 1) := by decide +kernel
theorem dX4_mean_70 : decode cX4_mean 70 = .ok (.i2l, 1) := by decide +kernel
theorem dX4_mean_71 : decode cX4_mean 71 = .ok (.ldiv, 1) := by decide +kernel
theorem dX4_mean_72 : decode cX4_mean 72 = .ok (.l2i, 1) := by decide +kernel
theorem dX4_mean_73 : decode cX4_mean 73 = .ok (.putfield 50, 3) := by decide +kernel
theorem dX4_mean_76 : decode cX4_mean 76 = .ok (.iconst 1, 1) := by decide +kernel
theorem dX4_mean_77 : decode cX4_mean 77 = .ok (.ireturn, 1) := by decide +kernel
theorem dX4_text_0 : decode cX4_text 0 = .ok (.iload_n 1, 1) := by decide +kernel
theorem dX4_text_1 : decode cX4_text 1 = .ok (.invokestatic 111, 3) := by decide +kernel
theorem dX4_text_4 : decode cX4_text 4 = .ok (.ifCond .eq 9, 3) := by decide +kernel
theorem dX4_text_7 : decode cX4_text 7 = .ok (.iload_n 2, 1) := by decide +kernel
theorem dX4_text_8 : decode cX4_text 8 = .ok (.bipush 60, 2) := by decide +kernel
theorem dX4_text_10 : decode cX4_text 10 = .ok (.if_icmp .le 5, 3) := by decide +kernel
theorem dX4_text_13 : decode cX4_text 13 = .ok (.iconst (-1), 1) := by decide +kernel
theorem dX4_text_14 : decode cX4_text 14 = .ok (.ireturn, 1) := by decide +kernel
theorem dX4_text_15 : decode cX4_text 15 = .ok (.iload_n 2, 1) := by decide +kernel
theorem dX4_text_16 : decode cX4_text 16 = .ok (.ifCond .ge 9, 3) := by decide +kernel
theorem dX4_text_19 : decode cX4_text 19 = .ok (.aload_n 0, 1) := by decide +kernel
theorem dX4_text_20 : decode cX4_text 20 = .ok (.iconst 5, 1) := by decide +kernel
theorem dX4_text_21 : decode cX4_text 21 = .ok (.invokevirtual 93, 3) := by decide +kernel
theorem dX4_text_24 : decode cX4_text 24 = .ok (.ireturn, 1) := by decide +kernel
theorem dX4_text_25 : decode cX4_text 25 = .ok (.aload_n 0, 1) := by decide +kernel
theorem dX4_text_26 : decode cX4_text 26 = .ok (.getfield 20, 3) := by decide +kernel
theorem dX4_text_29 : decode cX4_text 29 = .ok (.iload_n 1, 1) := by decide +kernel
theorem dX4_text_30 : decode cX4_text 30 = .ok (.aaload, 1) := by decide +kernel
theorem dX4_text_31 : decode cX4_text 31 = .ok (.bipush 32, 2) := by decide +kernel
theorem dX4_text_33 : decode cX4_text 33 = .ok (.invokestatic 114, 3) := by decide +kernel
theorem dX4_text_36 : decode cX4_text 36 = .ok (.aload_n 0, 1) := by decide +kernel
theorem dX4_text_37 : decode cX4_text 37 = .ok (.getfield 23, 3) := by decide +kernel
theorem dX4_text_40 : decode cX4_text 40 = .ok (.iload_n 1, 1) := by decide +kernel
theorem dX4_text_41 : decode cX4_text 41 = .ok (.iload_n 2, 1) := by decide +kernel
theorem dX4_text_42 : decode cX4_text 42 = .ok (.iastore, 1) := by decide +kernel
theorem dX4_text_43 : decode cX4_text 43 = .ok (.iload_n 2, 1) := by decide +kernel
theorem dX4_text_44 : decode cX4_text 44 = .ok (.ireturn, 1) := by decide +kernel
theorem dX4_put_0 : decode cX4_put 0 = .ok (.iload_n 1, 1) := by decide +kernel
theorem dX4_put_1 : decode cX4_put 1 = .ok (.invokestatic 111, 3) := by decide +kernel
theorem dX4_put_4 : decode cX4_put 4 = .ok (.ifCond .ne 5, 3) := by decide +kernel
theorem dX4_put_7 : decode cX4_put 7 = .ok (.iconst (-1), 1) := by decide +kernel
theorem dX4_put_8 : decode cX4_put 8 = .ok (.ireturn, 1) := by decide +kernel
theorem dX4_put_9 : decode cX4_put 9 = .ok (.aload_n 0, 1) := by decide +kernel
theorem dX4_put_10 : decode cX4_put 10 = .ok (.getfield 23, 3) := by decide +kernel
theorem dX4_put_13 : decode cX4_put 13 = .ok (.iload_n 1, 1) := by decide +kernel
theorem dX4_put_14 : decode cX4_put 14 = .ok (.iaload, 1) := by decide +kernel
theorem dX4_put_15 : decode cX4_put 15 = .ok (.iload_n 2, 1) := by decide +kernel
theorem dX4_put_16 : decode cX4_put 16 = .ok (.invokestatic 97, 3) := by decide +kernel
theorem dX4_put_19 : decode cX4_put 19 = .ok (.istore 4, 2) := by decide +kernel
theorem dX4_put_21 : decode cX4_put 21 = .ok (.iload 4, 2) := by decide +kernel
theorem dX4_put_23 : decode cX4_put 23 = .ok (.ifCond .eq 10, 3) := by decide +kernel
theorem dX4_put_26 : decode cX4_put 26 = .ok (.aload_n 0, 1) := by decide +kernel
theorem dX4_put_27 : decode cX4_put 27 = .ok (.iload 4, 2) := by decide +kernel
theorem dX4_put_29 : decode cX4_put 29 = .ok (.invokevirtual 93, 3) := by decide +kernel
theorem dX4_put_32 : decode cX4_put 32 = .ok (.ireturn, 1) := by decide +kernel
theorem dX4_put_33 : decode cX4_put 33 = .ok (.aload_n 0, 1) := by decide +kernel
theorem dX4_put_34 : decode cX4_put 34 = .ok (.getfield 20, 3) := by decide +kernel
theorem dX4_put_37 : decode cX4_put 37 = .ok (.iload_n 1, 1) := by decide +kernel
theorem dX4_put_38 : decode cX4_put 38 = .ok (.aaload, 1) := by decide +kernel
theorem dX4_put_39 : decode cX4_put 39 = .ok (.iload_n 2, 1) := by decide +kernel
theorem dX4_put_40 : decode cX4_put 40 = .ok (.baload, 1) := by decide +kernel
theorem dX4_put_41 : decode cX4_put 41 = .ok (.istore 5, 2) := by decide +kernel
theorem dX4_put_43 : decode cX4_put 43 = .ok (.aload_n 0, 1) := by decide +kernel
theorem dX4_put_44 : decode cX4_put 44 = .ok (.getfield 20, 3) := by decide +kernel
theorem dX4_put_47 : decode cX4_put 47 = .ok (.iload_n 1, 1) := by decide +kernel
theorem dX4_put_48 : decode cX4_put 48 = .ok (.aaload, 1) := by decide +kernel
theorem dX4_put_49 : decode cX4_put 49 = .ok (.iload_n 2, 1) := by decide +kernel
theorem dX4_put_50 : decode cX4_put 50 = .ok (.iload_n 3, 1) := by decide +kernel
theorem dX4_put_51 : decode cX4_put 51 = .ok (.i2b, 1) := by decide +kernel
theorem dX4_put_52 : decode cX4_put 52 = .ok (.bastore, 1) := by decide +kernel
theorem dX4_put_53 : decode cX4_put 53 = .ok (.iload 5, 2) := by decide +kernel
theorem dX4_put_55 : decode cX4_put 55 = .ok (.sipush 1000, 3) := by decide +kernel
theorem dX4_put_58 : decode cX4_put 58 = .ok (.iadd, 1) := by decide +kernel
theorem dX4_put_59 : decode cX4_put 59 = .ok (.ireturn, 1) := by decide +kernel
theorem dX4_fault_0 : decode cX4_fault 0 = .ok (.iload_n 1, 1) := by decide +kernel
theorem dX4_fault_1 : decode cX4_fault 1 = .ok (.invokestatic 111, 3) := by decide +kernel
theorem dX4_fault_4 : decode cX4_fault 4 = .ok (.ifCond .ne 5, 3) := by decide +kernel
theorem dX4_fault_7 : decode cX4_fault 7 = .ok (.iconst (-1), 1) := by decide +kernel
theorem dX4_fault_8 : decode cX4_fault 8 = .ok (.ireturn, 1) := by decide +kernel
theorem dX4_fault_9 : decode cX4_fault 9 = .ok (.aload_n 0, 1) := by decide +kernel
theorem dX4_fault_10 : decode cX4_fault 10 = .ok (.getfield 23, 3) := by decide +kernel
theorem dX4_fault_13 : decode cX4_fault 13 = .ok (.iload_n 1, 1) := by decide +kernel
theorem dX4_fault_14 : decode cX4_fault 14 = .ok (.iaload, 1) := by decide +kernel
theorem dX4_fault_15 : decode cX4_fault 15 = .ok (.iconst (-1), 1) := by decide +kernel
theorem dX4_fault_16 : decode cX4_fault 16 = .ok (.if_icmp .ne 9, 3) := by decide +kernel
theorem dX4_fault_19 : decode cX4_fault 19 = .ok (.aload_n 0, 1) := by decide +kernel
theorem dX4_fault_20 : decode cX4_fault 20 = .ok (.iconst 1, 1) := by decide +kernel
theorem dX4_fault_21 : decode cX4_fault 21 = .ok (.invokevirtual 93, 3) := by decide +kernel
theorem dX4_fault_24 : decode cX4_fault 24 = .ok (.ireturn, 1) := by decide +kernel
theorem dX4_fault_25 : decode cX4_fault 25 = .ok (.aload_n 0, 1) := by decide +kernel
theorem dX4_fault_26 : decode cX4_fault 26 = .ok (.getfield 20, 3) := by decide +kernel
theorem dX4_fault_29 : decode cX4_fault 29 = .ok (.iload_n 1, 1) := by decide +kernel
theorem dX4_fault_30 : decode cX4_fault 30 = .ok (.aaload, 1) := by decide +kernel
theorem dX4_fault_31 : decode cX4_fault 31 = .ok (.aload_n 0, 1) := by decide +kernel
theorem dX4_fault_32 : decode cX4_fault 32 = .ok (.getfield 23, 3) := by decide +kernel
theorem dX4_fault_35 : decode cX4_fault 35 = .ok (.iload_n 1, 1) := by decide +kernel
theorem dX4_fault_36 : decode cX4_fault 36 = .ok (.iaload, 1) := by decide +kernel
theorem dX4_fault_37 : decode cX4_fault 37 = .ok (.aload_n 0, 1) := by decide +kernel
theorem dX4_fault_38 : decode cX4_fault 38 = .ok (.getfield 36, 3) := by decide +kernel
theorem dX4_fault_41 : decode cX4_fault 41 = .ok (.invokestatic 117, 3) := by decide +kernel
theorem dX4_fault_44 : decode cX4_fault 44 = .ok (.ireturn, 1) := by decide +kernel
theorem dX4_house_0 : decode cX4_house 0 = .ok (.iload_n 1, 1) := by decide +kernel
theorem dX4_house_1 : decode cX4_house 1 = .ok (.invokestatic 111, 3) := by decide +kernel
theorem dX4_house_4 : decode cX4_house 4 = .ok (.ifCond .ne 5, 3) := by decide +kernel
theorem dX4_house_7 : decode cX4_house 7 = .ok (.iconst (-1), 1) := by decide +kernel
theorem dX4_house_8 : decode cX4_house 8 = .ok (.ireturn, 1) := by decide +kernel
theorem dX4_house_9 : decode cX4_house 9 = .ok (.aload_n 0, 1) := by decide +kernel
theorem dX4_house_10 : decode cX4_house 10 = .ok (.getfield 23, 3) := by decide +kernel
theorem dX4_house_13 : decode cX4_house 13 = .ok (.iload_n 1, 1) := by decide +kernel
theorem dX4_house_14 : decode cX4_house 14 = .ok (.iaload, 1) := by decide +kernel
theorem dX4_house_15 : decode cX4_house 15 = .ok (.iconst (-1), 1) := by decide +kernel
theorem dX4_house_16 : decode cX4_house 16 = .ok (.if_icmp .ne 9, 3) := by decide +kernel
theorem dX4_house_19 : decode cX4_house 19 = .ok (.aload_n 0, 1) := by decide +kernel
theorem dX4_house_20 : decode cX4_house 20 = .ok (.iconst 1, 1) := by decide +kernel
theorem dX4_house_21 : decode cX4_house 21 = .ok (.invokevirtual 93, 3) := by decide +kernel
theorem dX4_house_24 : decode cX4_house 24 = .ok (.ireturn, 1) := by decide +kernel
theorem dX4_house_25 : decode cX4_house 25 = .ok (.aload_n 0, 1) := by decide +kernel
theorem dX4_house_26 : decode cX4_house 26 = .ok (.getfield 20, 3) := by decide +kernel
theorem dX4_house_29 : decode cX4_house 29 = .ok (.iload_n 1, 1) := by decide +kernel
theorem dX4_house_30 : decode cX4_house 30 = .ok (.aaload, 1) := by decide +kernel
theorem dX4_house_31 : decode cX4_house 31 = .ok (.aload_n 0, 1) := by decide +kernel
theorem dX4_house_32 : decode cX4_house 32 = .ok (.getfield 23, 3) := by decide +kernel
theorem dX4_house_35 : decode cX4_house 35 = .ok (.iload_n 1, 1) := by decide +kernel
theorem dX4_house_36 : decode cX4_house 36 = .ok (.iaload, 1) := by decide +kernel
theorem dX4_house_37 : decode cX4_house 37 = .ok (.aload_n 0, 1) := by decide +kernel
theorem dX4_house_38 : decode cX4_house 38 = .ok (.getfield 36, 3) := by decide +kernel
theorem dX4_house_41 : decode cX4_house 41 = .ok (.invokestatic 117, 3) := by decide +kernel
theorem dX4_house_44 : decode cX4_house 44 = .ok (.bipush (-9), 2) := by decide +kernel
theorem dX4_house_46 : decode cX4_house 46 = .ok (.if_icmp .eq 6, 3) := by decide +kernel
theorem dX4_house_49 : decode cX4_house 49 = .ok (.bipush (-4), 2) := by decide +kernel
theorem dX4_house_51 : decode cX4_house 51 = .ok (.ireturn, 1) := by decide +kernel
theorem dX4_house_52 : decode cX4_house 52 = .ok (.aload_n 0, 1) := by decide +kernel
theorem dX4_house_53 : decode cX4_house 53 = .ok (.getfield 29, 3) := by decide +kernel
theorem dX4_house_56 : decode cX4_house 56 = .ok (.aload_n 0, 1) := by decide +kernel
theorem dX4_house_57 : decode cX4_house 57 = .ok (.getfield 36, 3) := by decide +kernel
theorem dX4_house_60 : decode cX4_house 60 = .ok (.invokevirtual 121, 3) := by decide +kernel
theorem dX4_house_63 : decode cX4_house 63 = .ok (.aload_n 0, 1) := by decide +kernel
theorem dX4_house_64 : decode cX4_house 64 = .ok (.getfield 33, 3) := by decide +kernel
theorem dX4_house_67 : decode cX4_house 67 = .ok (.aload_n 0, 1) := by decide +kernel
theorem dX4_house_68 : decode cX4_house 68 = .ok (.getfield 36, 3) := by decide +kernel
theorem dX4_house_71 : decode cX4_house 71 = .ok (.invokevirtual 121, 3) := by decide +kernel
theorem dX4_house_74 : decode cX4_house 74 = .ok (.aload_n 0, 1) := by decide +kernel
theorem dX4_house_75 : decode cX4_house 75 = .ok (.getfield 42, 3) := by decide +kernel
theorem dX4_house_78 : decode cX4_house 78 = .ok (.iconst 0, 1) := by decide +kernel
theorem dX4_house_79 : decode cX4_house 79 = .ok (.putfield 86, 3) := by decide +kernel
theorem dX4_house_82 : decode cX4_house 82 = .ok (.iconst 0, 1) := by decide +kernel
theorem dX4_house_83 : decode cX4_house 83 = .ok (.istore_n 2, 1) := by decide +kernel
theorem dX4_house_84 : decode cX4_house 84 = .ok (.iload_n 2, 1) := by decide +kernel
theorem dX4_house_85 : decode cX4_house 85 = .ok (.iconst 3, 1) := by decide +kernel
theorem dX4_house_86 : decode cX4_house 86 = .ok (.if_icmp .ge 19, 3) := by decide +kernel
theorem dX4_house_89 : decode cX4_house 89 = .ok (.aload_n 0, 1) := by decide +kernel
theorem dX4_house_90 : decode cX4_house 90 = .ok (.getfield 46, 3) := by decide +kernel
theorem dX4_house_93 : decode cX4_house 93 = .ok (.iload_n 2, 1) := by decide +kernel
theorem dX4_house_94 : decode cX4_house 94 = .ok (.aaload, 1) := by decide +kernel
theorem dX4_house_95 : decode cX4_house 95 = .ok (.iconst (-1), 1) := by decide +kernel
theorem dX4_house_96 : decode cX4_house 96 = .ok (.putfield 86, 3) := by decide +kernel
theorem dX4_house_99 : decode cX4_house 99 = .ok (.iinc 2 1, 3) := by decide +kernel
theorem dX4_house_102 : decode cX4_house 102 = .ok (.goto (-18), 3) := by decide +kernel
theorem dX4_house_105 : decode cX4_house 105 = .ok (.aload_n 0, 1) := by decide +kernel
theorem dX4_house_106 : decode cX4_house 106 = .ok (.getfield 33, 3) := by decide +kernel
theorem dX4_house_109 : decode cX4_house 109 = .ok (.getfield 125, 3) := by decide +kernel
theorem dX4_house_112 : decode cX4_house 112 = .ok (.ireturn, 1) := by decide +kernel
theorem dX4_caller_0 : decode cX4_caller 0 = .ok (.aload_n 0, 1) := by decide +kernel
theorem dX4_caller_1 : decode cX4_caller 1 = .ok (.iload_n 1, 1) := by decide +kernel
theorem dX4_caller_2 : decode cX4_caller 2 = .ok (.invokevirtual 126, 3) := by decide +kernel
theorem dX4_caller_5 : decode cX4_caller 5 = .ok (.ifCond .eq 13, 3) := by decide +kernel
theorem dX4_caller_8 : decode cX4_caller 8 = .ok (.iload_n 2, 1) := by decide +kernel
theorem dX4_caller_9 : decode cX4_caller 9 = .ok (.ifCond .lt 9, 3) := by decide +kernel
theorem dX4_caller_12 : decode cX4_caller 12 = .ok (.iload_n 2, 1) := by decide +kernel
theorem dX4_caller_13 : decode cX4_caller 13 = .ok (.bipush 7, 2) := by decide +kernel
theorem dX4_caller_15 : decode cX4_caller 15 = .ok (.if_icmp .lt 5, 3) := by decide +kernel
theorem dX4_caller_18 : decode cX4_caller 18 = .ok (.iconst (-1), 1) := by decide +kernel
theorem dX4_caller_19 : decode cX4_caller 19 = .ok (.ireturn, 1) := by decide +kernel
theorem dX4_caller_20 : decode cX4_caller 20 = .ok (.aload_n 0, 1) := by decide +kernel
theorem dX4_caller_21 : decode cX4_caller 21 = .ok (.aload_n 0, 1) := by decide +kernel
theorem dX4_caller_22 : decode cX4_caller 22 = .ok (.getfield 33, 3) := by decide +kernel
theorem dX4_caller_25 : decode cX4_caller 25 = .ok (.getfield 129, 3) := by decide +kernel
theorem dX4_caller_28 : decode cX4_caller 28 = .ok (.iload_n 1, 1) := by decide +kernel
theorem dX4_caller_29 : decode cX4_caller 29 = .ok (.aaload, 1) := by decide +kernel
theorem dX4_caller_30 : decode cX4_caller 30 = .ok (.iload_n 2, 1) := by decide +kernel
theorem dX4_caller_31 : decode cX4_caller 31 = .ok (.invokevirtual 133, 3) := by decide +kernel
theorem dX4_caller_34 : decode cX4_caller 34 = .ok (.putfield 50, 3) := by decide +kernel
theorem dX4_caller_37 : decode cX4_caller 37 = .ok (.iconst 1, 1) := by decide +kernel
theorem dX4_caller_38 : decode cX4_caller 38 = .ok (.ireturn, 1) := by decide +kernel
theorem dX4_mark_0 : decode cX4_mark 0 = .ok (.aload_n 0, 1) := by decide +kernel
theorem dX4_mark_1 : decode cX4_mark 1 = .ok (.iload_n 1, 1) := by decide +kernel
theorem dX4_mark_2 : decode cX4_mark 2 = .ok (.invokevirtual 126, 3) := by decide +kernel
theorem dX4_mark_5 : decode cX4_mark 5 = .ok (.ifCond .eq 13, 3) := by decide +kernel
theorem dX4_mark_8 : decode cX4_mark 8 = .ok (.iload_n 2, 1) := by decide +kernel
theorem dX4_mark_9 : decode cX4_mark 9 = .ok (.ifCond .le 9, 3) := by decide +kernel
theorem dX4_mark_12 : decode cX4_mark 12 = .ok (.iload_n 2, 1) := by decide +kernel
theorem dX4_mark_13 : decode cX4_mark 13 = .ok (.bipush 6, 2) := by decide +kernel
theorem dX4_mark_15 : decode cX4_mark 15 = .ok (.if_icmp .lt 5, 3) := by decide +kernel
theorem dX4_mark_18 : decode cX4_mark 18 = .ok (.iconst (-1), 1) := by decide +kernel
theorem dX4_mark_19 : decode cX4_mark 19 = .ok (.ireturn, 1) := by decide +kernel
theorem dX4_mark_20 : decode cX4_mark 20 = .ok (.aload_n 0, 1) := by decide +kernel
theorem dX4_mark_21 : decode cX4_mark 21 = .ok (.getfield 33, 3) := by decide +kernel
theorem dX4_mark_24 : decode cX4_mark 24 = .ok (.getfield 129, 3) := by decide +kernel
theorem dX4_mark_27 : decode cX4_mark 27 = .ok (.iload_n 1, 1) := by decide +kernel
theorem dX4_mark_28 : decode cX4_mark 28 = .ok (.aaload, 1) := by decide +kernel
theorem dX4_mark_29 : decode cX4_mark 29 = .ok (.astore_n 3, 1) := by decide +kernel
theorem dX4_mark_30 : decode cX4_mark 30 = .ok (.aload_n 3, 1) := by decide +kernel
theorem dX4_mark_31 : decode cX4_mark 31 = .ok (.iload_n 2, 1) := by decide +kernel
theorem dX4_mark_32 : decode cX4_mark 32 = .ok (.invokevirtual 138, 3) := by decide +kernel
theorem dX4_mark_35 : decode cX4_mark 35 = .ok (.ifCond .ne 9, 3) := by decide +kernel
theorem dX4_mark_38 : decode cX4_mark 38 = .ok (.aload_n 0, 1) := by decide +kernel
theorem dX4_mark_39 : decode cX4_mark 39 = .ok (.iconst 3, 1) := by decide +kernel
theorem dX4_mark_40 : decode cX4_mark 40 = .ok (.invokevirtual 93, 3) := by decide +kernel
theorem dX4_mark_43 : decode cX4_mark 43 = .ok (.ireturn, 1) := by decide +kernel
theorem dX4_mark_44 : decode cX4_mark 44 = .ok (.aload_n 3, 1) := by decide +kernel
theorem dX4_mark_45 : decode cX4_mark 45 = .ok (.iload_n 2, 1) := by decide +kernel
theorem dX4_mark_46 : decode cX4_mark 46 = .ok (.aload_n 0, 1) := by decide +kernel
theorem dX4_mark_47 : decode cX4_mark 47 = .ok (.getfield 33, 3) := by decide +kernel
theorem dX4_mark_50 : decode cX4_mark 50 = .ok (.getfield 141, 3) := by decide +kernel
theorem dX4_mark_53 : decode cX4_mark 53 = .ok (.invokevirtual 144, 3) := by decide +kernel
theorem dX4_mark_56 : decode cX4_mark 56 = .ok (.ireturn, 1) := by decide +kernel
theorem dX4_up_0 : decode cX4_up 0 = .ok (.iload_n 1, 1) := by decide +kernel
theorem dX4_up_1 : decode cX4_up 1 = .ok (.ifCond .lt 10, 3) := by decide +kernel
theorem dX4_up_4 : decode cX4_up 4 = .ok (.iload_n 1, 1) := by decide +kernel
theorem dX4_up_5 : decode cX4_up 5 = .ok (.sipush 199, 3) := by decide +kernel
theorem dX4_up_8 : decode cX4_up 8 = .ok (.if_icmp .le 5, 3) := by decide +kernel
theorem dX4_up_11 : decode cX4_up 11 = .ok (.iconst (-1), 1) := by decide +kernel
theorem dX4_up_12 : decode cX4_up 12 = .ok (.ireturn, 1) := by decide +kernel
theorem dX4_up_13 : decode cX4_up 13 = .ok (.aload_n 0, 1) := by decide +kernel
theorem dX4_up_14 : decode cX4_up 14 = .ok (.getfield 33, 3) := by decide +kernel
theorem dX4_up_17 : decode cX4_up 17 = .ok (.iload_n 1, 1) := by decide +kernel
theorem dX4_up_18 : decode cX4_up 18 = .ok (.invokevirtual 147, 3) := by decide +kernel
theorem dX4_up_21 : decode cX4_up 21 = .ok (.ifCond .eq 7, 3) := by decide +kernel
theorem dX4_up_24 : decode cX4_up 24 = .ok (.iconst 1, 1) := by decide +kernel
theorem dX4_up_25 : decode cX4_up 25 = .ok (.goto 4, 3) := by decide +kernel
theorem dX4_up_28 : decode cX4_up 28 = .ok (.iconst 0, 1) := by decide +kernel
theorem dX4_up_29 : decode cX4_up 29 = .ok (.ireturn, 1) := by decide +kernel
theorem dX4_step_0 : decode cX4_step 0 = .ok (.aload_n 0, 1) := by decide +kernel
theorem dX4_step_1 : decode cX4_step 1 = .ok (.getfield 33, 3) := by decide +kernel
theorem dX4_step_4 : decode cX4_step 4 = .ok (.getfield 125, 3) := by decide +kernel
theorem dX4_step_7 : decode cX4_step 7 = .ok (.ifCond .eq 15, 3) := by decide +kernel
theorem dX4_step_10 : decode cX4_step 10 = .ok (.aload_n 0, 1) := by decide +kernel
theorem dX4_step_11 : decode cX4_step 11 = .ok (.getfield 33, 3) := by decide +kernel
theorem dX4_step_14 : decode cX4_step 14 = .ok (.getfield 141, 3) := by decide +kernel
theorem dX4_step_17 : decode cX4_step 17 = .ok (.bipush 99, 2) := by decide +kernel
theorem dX4_step_19 : decode cX4_step 19 = .ok (.if_icmp .lt 6, 3) := by decide +kernel
theorem dX4_step_22 : decode cX4_step 22 = .ok (.bipush (-4), 2) := by decide +kernel
theorem dX4_step_24 : decode cX4_step 24 = .ok (.ireturn, 1) := by decide +kernel
theorem dX4_step_25 : decode cX4_step 25 = .ok (.aload_n 0, 1) := by decide +kernel
theorem dX4_step_26 : decode cX4_step 26 = .ok (.iconst 1, 1) := by decide +kernel
theorem dX4_step_27 : decode cX4_step 27 = .ok (.invokevirtual 150, 3) := by decide +kernel
theorem dX4_step_30 : decode cX4_step 30 = .ok (.ifCond .eq 6, 3) := by decide +kernel
theorem dX4_step_33 : decode cX4_step 33 = .ok (.bipush (-2), 2) := by decide +kernel
theorem dX4_step_35 : decode cX4_step 35 = .ok (.ireturn, 1) := by decide +kernel
theorem dX4_step_36 : decode cX4_step 36 = .ok (.aload_n 0, 1) := by decide +kernel
theorem dX4_step_37 : decode cX4_step 37 = .ok (.getfield 33, 3) := by decide +kernel
theorem dX4_step_40 : decode cX4_step 40 = .ok (.getfield 153, 3) := by decide +kernel
theorem dX4_step_43 : decode cX4_step 43 = .ok (.istore_n 1, 1) := by decide +kernel
theorem dX4_step_44 : decode cX4_step 44 = .ok (.aload_n 0, 1) := by decide +kernel
theorem dX4_step_45 : decode cX4_step 45 = .ok (.iconst 1, 1) := by decide +kernel
theorem dX4_step_46 : decode cX4_step 46 = .ok (.iconst 0, 1) := by decide +kernel
theorem dX4_step_47 : decode cX4_step 47 = .ok (.iconst 0, 1) := by decide +kernel
theorem dX4_step_48 : decode cX4_step 48 = .ok (.invokevirtual 156, 3) := by decide +kernel
theorem dX4_step_51 : decode cX4_step 51 = .ok (.aload_n 0, 1) := by decide +kernel
theorem dX4_step_52 : decode cX4_step 52 = .ok (.getfield 33, 3) := by decide +kernel
theorem dX4_step_55 : decode cX4_step 55 = .ok (.getfield 153, 3) := by decide +kernel
theorem dX4_step_58 : decode cX4_step 58 = .ok (.iload_n 1, 1) := by decide +kernel
theorem dX4_step_59 : decode cX4_step 59 = .ok (.isub, 1) := by decide +kernel
theorem dX4_step_60 : decode cX4_step 60 = .ok (.ireturn, 1) := by decide +kernel
theorem dX4_flip_0 : decode cX4_flip 0 = .ok (.iload_n 1, 1) := by decide +kernel
theorem dX4_flip_1 : decode cX4_flip 1 = .ok (.ifCond .lt 9, 3) := by decide +kernel
theorem dX4_flip_4 : decode cX4_flip 4 = .ok (.iload_n 1, 1) := by decide +kernel
theorem dX4_flip_5 : decode cX4_flip 5 = .ok (.bipush 8, 2) := by decide +kernel
theorem dX4_flip_7 : decode cX4_flip 7 = .ok (.if_icmp .lt 5, 3) := by decide +kernel
theorem dX4_flip_10 : decode cX4_flip 10 = .ok (.iconst (-1), 1) := by decide +kernel
theorem dX4_flip_11 : decode cX4_flip 11 = .ok (.ireturn, 1) := by decide +kernel
theorem dX4_flip_12 : decode cX4_flip 12 = .ok (.aload_n 0, 1) := by decide +kernel
theorem dX4_flip_13 : decode cX4_flip 13 = .ok (.getfield 33, 3) := by decide +kernel
theorem dX4_flip_16 : decode cX4_flip 16 = .ok (.getfield 125, 3) := by decide +kernel
theorem dX4_flip_19 : decode cX4_flip 19 = .ok (.ifCond .ne 6, 3) := by decide +kernel
theorem dX4_flip_22 : decode cX4_flip 22 = .ok (.bipush (-4), 2) := by decide +kernel
theorem dX4_flip_24 : decode cX4_flip 24 = .ok (.ireturn, 1) := by decide +kernel
theorem dX4_flip_25 : decode cX4_flip 25 = .ok (.aload_n 0, 1) := by decide +kernel
theorem dX4_flip_26 : decode cX4_flip 26 = .ok (.iconst 1, 1) := by decide +kernel
theorem dX4_flip_27 : decode cX4_flip 27 = .ok (.invokevirtual 150, 3) := by decide +kernel
theorem dX4_flip_30 : decode cX4_flip 30 = .ok (.ifCond .eq 6, 3) := by decide +kernel
theorem dX4_flip_33 : decode cX4_flip 33 = .ok (.bipush (-2), 2) := by decide +kernel
theorem dX4_flip_35 : decode cX4_flip 35 = .ok (.ireturn, 1) := by decide +kernel
theorem dX4_flip_36 : decode cX4_flip 36 = .ok (.aload_n 0, 1) := by decide +kernel
theorem dX4_flip_37 : decode cX4_flip 37 = .ok (.iconst 2, 1) := by decide +kernel
theorem dX4_flip_38 : decode cX4_flip 38 = .ok (.iload_n 1, 1) := by decide +kernel
theorem dX4_flip_39 : decode cX4_flip 39 = .ok (.iconst 0, 1) := by decide +kernel
theorem dX4_flip_40 : decode cX4_flip 40 = .ok (.invokevirtual 156, 3) := by decide +kernel
theorem dX4_flip_43 : decode cX4_flip 43 = .ok (.aload_n 0, 1) := by decide +kernel
theorem dX4_flip_44 : decode cX4_flip 44 = .ok (.getfield 33, 3) := by decide +kernel
theorem dX4_flip_47 : decode cX4_flip 47 = .ok (.getfield 160, 3) := by decide +kernel
theorem dX4_flip_50 : decode cX4_flip 50 = .ok (.invokestatic 163, 3) := by decide +kernel
theorem dX4_flip_53 : decode cX4_flip 53 = .ok (.ireturn, 1) := by decide +kernel
theorem dX4_room_0 : decode cX4_room 0 = .ok (.iload_n 1, 1) := by decide +kernel
theorem dX4_room_1 : decode cX4_room 1 = .ok (.invokestatic 168, 3) := by decide +kernel
theorem dX4_room_4 : decode cX4_room 4 = .ok (.ifCond .ne 5, 3) := by decide +kernel
theorem dX4_room_7 : decode cX4_room 7 = .ok (.iconst (-1), 1) := by decide +kernel
theorem dX4_room_8 : decode cX4_room 8 = .ok (.ireturn, 1) := by decide +kernel
theorem dX4_room_9 : decode cX4_room 9 = .ok (.aload_n 0, 1) := by decide +kernel
theorem dX4_room_10 : decode cX4_room 10 = .ok (.getfield 33, 3) := by decide +kernel
theorem dX4_room_13 : decode cX4_room 13 = .ok (.getfield 125, 3) := by decide +kernel
theorem dX4_room_16 : decode cX4_room 16 = .ok (.ifCond .eq 14, 3) := by decide +kernel
theorem dX4_room_19 : decode cX4_room 19 = .ok (.aload_n 0, 1) := by decide +kernel
theorem dX4_room_20 : decode cX4_room 20 = .ok (.getfield 33, 3) := by decide +kernel
theorem dX4_room_23 : decode cX4_room 23 = .ok (.getfield 171, 3) := by decide +kernel
theorem dX4_room_26 : decode cX4_room 26 = .ok (.iload_n 1, 1) := by decide +kernel
theorem dX4_room_27 : decode cX4_room 27 = .ok (.if_icmp .ne 6, 3) := by decide +kernel
theorem dX4_room_30 : decode cX4_room 30 = .ok (.bipush (-4), 2) := by decide +kernel
theorem dX4_room_32 : decode cX4_room 32 = .ok (.ireturn, 1) := by decide +kernel
theorem dX4_room_33 : decode cX4_room 33 = .ok (.aload_n 0, 1) := by decide +kernel
theorem dX4_room_34 : decode cX4_room 34 = .ok (.iconst 1, 1) := by decide +kernel
theorem dX4_room_35 : decode cX4_room 35 = .ok (.invokevirtual 150, 3) := by decide +kernel
theorem dX4_room_38 : decode cX4_room 38 = .ok (.ifCond .eq 6, 3) := by decide +kernel
theorem dX4_room_41 : decode cX4_room 41 = .ok (.bipush (-2), 2) := by decide +kernel
theorem dX4_room_43 : decode cX4_room 43 = .ok (.ireturn, 1) := by decide +kernel
theorem dX4_room_44 : decode cX4_room 44 = .ok (.aload_n 0, 1) := by decide +kernel
theorem dX4_room_45 : decode cX4_room 45 = .ok (.getfield 33, 3) := by decide +kernel
theorem dX4_room_48 : decode cX4_room 48 = .ok (.getfield 171, 3) := by decide +kernel
theorem dX4_room_51 : decode cX4_room 51 = .ok (.istore_n 2, 1) := by decide +kernel
theorem dX4_room_52 : decode cX4_room 52 = .ok (.aload_n 0, 1) := by decide +kernel
theorem dX4_room_53 : decode cX4_room 53 = .ok (.iconst 3, 1) := by decide +kernel
theorem dX4_room_54 : decode cX4_room 54 = .ok (.iconst 0, 1) := by decide +kernel
theorem dX4_room_55 : decode cX4_room 55 = .ok (.iload_n 1, 1) := by decide +kernel
theorem dX4_room_56 : decode cX4_room 56 = .ok (.invokevirtual 156, 3) := by decide +kernel
theorem dX4_room_59 : decode cX4_room 59 = .ok (.iload_n 2, 1) := by decide +kernel
theorem dX4_room_60 : decode cX4_room 60 = .ok (.ireturn, 1) := by decide +kernel
theorem dX4_limit_0 : decode cX4_limit 0 = .ok (.aload_n 0, 1) := by decide +kernel
theorem dX4_limit_1 : decode cX4_limit 1 = .ok (.iload_n 1, 1) := by decide +kernel
theorem dX4_limit_2 : decode cX4_limit 2 = .ok (.invokevirtual 126, 3) := by decide +kernel
theorem dX4_limit_5 : decode cX4_limit 5 = .ok (.ifCond .eq 10, 3) := by decide +kernel
theorem dX4_limit_8 : decode cX4_limit 8 = .ok (.iload_n 2, 1) := by decide +kernel
theorem dX4_limit_9 : decode cX4_limit 9 = .ok (.invokestatic 168, 3) := by decide +kernel
theorem dX4_limit_12 : decode cX4_limit 12 = .ok (.ifCond .ne 5, 3) := by decide +kernel
theorem dX4_limit_15 : decode cX4_limit 15 = .ok (.iconst (-1), 1) := by decide +kernel
theorem dX4_limit_16 : decode cX4_limit 16 = .ok (.ireturn, 1) := by decide +kernel
theorem dX4_limit_17 : decode cX4_limit 17 = .ok (.aload_n 0, 1) := by decide +kernel
theorem dX4_limit_18 : decode cX4_limit 18 = .ok (.getfield 33, 3) := by decide +kernel
theorem dX4_limit_21 : decode cX4_limit 21 = .ok (.getfield 129, 3) := by decide +kernel
theorem dX4_limit_24 : decode cX4_limit 24 = .ok (.iload_n 1, 1) := by decide +kernel
theorem dX4_limit_25 : decode cX4_limit 25 = .ok (.aaload, 1) := by decide +kernel
theorem dX4_limit_26 : decode cX4_limit 26 = .ok (.getfield 174, 3) := by decide +kernel
theorem dX4_limit_29 : decode cX4_limit 29 = .ok (.istore_n 3, 1) := by decide +kernel
theorem dX4_limit_30 : decode cX4_limit 30 = .ok (.iload_n 3, 1) := by decide +kernel
theorem dX4_limit_31 : decode cX4_limit 31 = .ok (.iload_n 2, 1) := by decide +kernel
theorem dX4_limit_32 : decode cX4_limit 32 = .ok (.if_icmp .ne 6, 3) := by decide +kernel
theorem dX4_limit_35 : decode cX4_limit 35 = .ok (.bipush (-4), 2) := by decide +kernel
theorem dX4_limit_37 : decode cX4_limit 37 = .ok (.ireturn, 1) := by decide +kernel
theorem dX4_limit_38 : decode cX4_limit 38 = .ok (.aload_n 0, 1) := by decide +kernel
theorem dX4_limit_39 : decode cX4_limit 39 = .ok (.iconst 1, 1) := by decide +kernel
theorem dX4_limit_40 : decode cX4_limit 40 = .ok (.invokevirtual 150, 3) := by decide +kernel
theorem dX4_limit_43 : decode cX4_limit 43 = .ok (.ifCond .eq 6, 3) := by decide +kernel
theorem dX4_limit_46 : decode cX4_limit 46 = .ok (.bipush (-2), 2) := by decide +kernel
theorem dX4_limit_48 : decode cX4_limit 48 = .ok (.ireturn, 1) := by decide +kernel
theorem dX4_limit_49 : decode cX4_limit 49 = .ok (.aload_n 0, 1) := by decide +kernel
theorem dX4_limit_50 : decode cX4_limit 50 = .ok (.iconst 4, 1) := by decide +kernel
theorem dX4_limit_51 : decode cX4_limit 51 = .ok (.iload_n 1, 1) := by decide +kernel
theorem dX4_limit_52 : decode cX4_limit 52 = .ok (.iload_n 2, 1) := by decide +kernel
theorem dX4_limit_53 : decode cX4_limit 53 = .ok (.invokevirtual 156, 3) := by decide +kernel
theorem dX4_limit_56 : decode cX4_limit 56 = .ok (.iload_n 3, 1) := by decide +kernel
theorem dX4_limit_57 : decode cX4_limit 57 = .ok (.ireturn, 1) := by decide +kernel
theorem dX4_reset_0 : decode cX4_reset 0 = .ok (.aload_n 0, 1) := by decide +kernel
theorem dX4_reset_1 : decode cX4_reset 1 = .ok (.iload_n 1, 1) := by decide +kernel
theorem dX4_reset_2 : decode cX4_reset 2 = .ok (.invokevirtual 126, 3) := by decide +kernel
theorem dX4_reset_5 : decode cX4_reset 5 = .ok (.ifCond .ne 5, 3) := by decide +kernel
theorem dX4_reset_8 : decode cX4_reset 8 = .ok (.iconst (-1), 1) := by decide +kernel
theorem dX4_reset_9 : decode cX4_reset 9 = .ok (.ireturn, 1) := by decide +kernel
theorem dX4_reset_10 : decode cX4_reset 10 = .ok (.aload_n 0, 1) := by decide +kernel
theorem dX4_reset_11 : decode cX4_reset 11 = .ok (.iconst 1, 1) := by decide +kernel
theorem dX4_reset_12 : decode cX4_reset 12 = .ok (.invokevirtual 150, 3) := by decide +kernel
theorem dX4_reset_15 : decode cX4_reset 15 = .ok (.ifCond .eq 6, 3) := by decide +kernel
theorem dX4_reset_18 : decode cX4_reset 18 = .ok (.bipush (-2), 2) := by decide +kernel
theorem dX4_reset_20 : decode cX4_reset 20 = .ok (.ireturn, 1) := by decide +kernel
theorem dX4_reset_21 : decode cX4_reset 21 = .ok (.aload_n 0, 1) := by decide +kernel
theorem dX4_reset_22 : decode cX4_reset 22 = .ok (.getfield 33, 3) := by decide +kernel
theorem dX4_reset_25 : decode cX4_reset 25 = .ok (.getfield 129, 3) := by decide +kernel
theorem dX4_reset_28 : decode cX4_reset 28 = .ok (.iload_n 1, 1) := by decide +kernel
theorem dX4_reset_29 : decode cX4_reset 29 = .ok (.aaload, 1) := by decide +kernel
theorem dX4_reset_30 : decode cX4_reset 30 = .ok (.getfield 177, 3) := by decide +kernel
theorem dX4_reset_33 : decode cX4_reset 33 = .ok (.istore_n 2, 1) := by decide +kernel
theorem dX4_reset_34 : decode cX4_reset 34 = .ok (.aload_n 0, 1) := by decide +kernel
theorem dX4_reset_35 : decode cX4_reset 35 = .ok (.iconst 5, 1) := by decide +kernel
theorem dX4_reset_36 : decode cX4_reset 36 = .ok (.iload_n 1, 1) := by decide +kernel
theorem dX4_reset_37 : decode cX4_reset 37 = .ok (.iconst 0, 1) := by decide +kernel
theorem dX4_reset_38 : decode cX4_reset 38 = .ok (.invokevirtual 156, 3) := by decide +kernel
theorem dX4_reset_41 : decode cX4_reset 41 = .ok (.iload_n 2, 1) := by decide +kernel
theorem dX4_reset_42 : decode cX4_reset 42 = .ok (.ireturn, 1) := by decide +kernel
theorem dX4_undo_0 : decode cX4_undo 0 = .ok (.iload_n 1, 1) := by decide +kernel
theorem dX4_undo_1 : decode cX4_undo 1 = .ok (.ifCond .lt 14, 3) := by decide +kernel
theorem dX4_undo_4 : decode cX4_undo 4 = .ok (.iload_n 1, 1) := by decide +kernel
theorem dX4_undo_5 : decode cX4_undo 5 = .ok (.aload_n 0, 1) := by decide +kernel
theorem dX4_undo_6 : decode cX4_undo 6 = .ok (.getfield 42, 3) := by decide +kernel
theorem dX4_undo_9 : decode cX4_undo 9 = .ok (.getfield 86, 3) := by decide +kernel
theorem dX4_undo_12 : decode cX4_undo 12 = .ok (.if_icmp .le 5, 3) := by decide +kernel
theorem dX4_undo_15 : decode cX4_undo 15 = .ok (.iconst (-1), 1) := by decide +kernel
theorem dX4_undo_16 : decode cX4_undo 16 = .ok (.ireturn, 1) := by decide +kernel
theorem dX4_undo_17 : decode cX4_undo 17 = .ok (.aload_n 0, 1) := by decide +kernel
theorem dX4_undo_18 : decode cX4_undo 18 = .ok (.getfield 42, 3) := by decide +kernel
theorem dX4_undo_21 : decode cX4_undo 21 = .ok (.getfield 86, 3) := by decide +kernel
theorem dX4_undo_24 : decode cX4_undo 24 = .ok (.iload_n 1, 1) := by decide +kernel
theorem dX4_undo_25 : decode cX4_undo 25 = .ok (.isub, 1) := by decide +kernel
theorem dX4_undo_26 : decode cX4_undo 26 = .ok (.istore_n 2, 1) := by decide +kernel
theorem dX4_undo_27 : decode cX4_undo 27 = .ok (.aload_n 0, 1) := by decide +kernel
theorem dX4_undo_28 : decode cX4_undo 28 = .ok (.getfield 42, 3) := by decide +kernel
theorem dX4_undo_31 : decode cX4_undo 31 = .ok (.iload_n 1, 1) := by decide +kernel
theorem dX4_undo_32 : decode cX4_undo 32 = .ok (.putfield 86, 3) := by decide +kernel
theorem dX4_undo_35 : decode cX4_undo 35 = .ok (.aload_n 0, 1) := by decide +kernel
theorem dX4_undo_36 : decode cX4_undo 36 = .ok (.invokevirtual 180, 3) := by decide +kernel
theorem dX4_undo_39 : decode cX4_undo 39 = .ok (.iload_n 2, 1) := by decide +kernel
theorem dX4_undo_40 : decode cX4_undo 40 = .ok (.ireturn, 1) := by decide +kernel
theorem dX4_keep_0 : decode cX4_keep 0 = .ok (.iload_n 1, 1) := by decide +kernel
theorem dX4_keep_1 : decode cX4_keep 1 = .ok (.invokestatic 183, 3) := by decide +kernel
theorem dX4_keep_4 : decode cX4_keep 4 = .ok (.ifCond .ne 5, 3) := by decide +kernel
theorem dX4_keep_7 : decode cX4_keep 7 = .ok (.iconst (-1), 1) := by decide +kernel
theorem dX4_keep_8 : decode cX4_keep 8 = .ok (.ireturn, 1) := by decide +kernel
theorem dX4_keep_9 : decode cX4_keep 9 = .ok (.aload_n 0, 1) := by decide +kernel
theorem dX4_keep_10 : decode cX4_keep 10 = .ok (.getfield 33, 3) := by decide +kernel
theorem dX4_keep_13 : decode cX4_keep 13 = .ok (.getfield 125, 3) := by decide +kernel
theorem dX4_keep_16 : decode cX4_keep 16 = .ok (.ifCond .ne 6, 3) := by decide +kernel
theorem dX4_keep_19 : decode cX4_keep 19 = .ok (.bipush (-4), 2) := by decide +kernel
theorem dX4_keep_21 : decode cX4_keep 21 = .ok (.ireturn, 1) := by decide +kernel
theorem dX4_keep_22 : decode cX4_keep 22 = .ok (.aload_n 0, 1) := by decide +kernel
theorem dX4_keep_23 : decode cX4_keep 23 = .ok (.getfield 46, 3) := by decide +kernel
theorem dX4_keep_26 : decode cX4_keep 26 = .ok (.iload_n 1, 1) := by decide +kernel
theorem dX4_keep_27 : decode cX4_keep 27 = .ok (.aaload, 1) := by decide +kernel
theorem dX4_keep_28 : decode cX4_keep 28 = .ok (.aload_n 0, 1) := by decide +kernel
theorem dX4_keep_29 : decode cX4_keep 29 = .ok (.getfield 42, 3) := by decide +kernel
theorem dX4_keep_32 : decode cX4_keep 32 = .ok (.invokevirtual 186, 3) := by decide +kernel
theorem dX4_keep_35 : decode cX4_keep 35 = .ok (.aload_n 0, 1) := by decide +kernel
theorem dX4_keep_36 : decode cX4_keep 36 = .ok (.getfield 42, 3) := by decide +kernel
theorem dX4_keep_39 : decode cX4_keep 39 = .ok (.getfield 86, 3) := by decide +kernel
theorem dX4_keep_42 : decode cX4_keep 42 = .ok (.ireturn, 1) := by decide +kernel
theorem dX4_on_0 : decode cX4_on 0 = .ok (.iload_n 1, 1) := by decide +kernel
theorem dX4_on_1 : decode cX4_on 1 = .ok (.invokestatic 183, 3) := by decide +kernel
theorem dX4_on_4 : decode cX4_on 4 = .ok (.ifCond .ne 5, 3) := by decide +kernel
theorem dX4_on_7 : decode cX4_on 7 = .ok (.iconst (-1), 1) := by decide +kernel
theorem dX4_on_8 : decode cX4_on 8 = .ok (.ireturn, 1) := by decide +kernel
theorem dX4_on_9 : decode cX4_on 9 = .ok (.aload_n 0, 1) := by decide +kernel
theorem dX4_on_10 : decode cX4_on 10 = .ok (.getfield 46, 3) := by decide +kernel
theorem dX4_on_13 : decode cX4_on 13 = .ok (.iload_n 1, 1) := by decide +kernel
theorem dX4_on_14 : decode cX4_on 14 = .ok (.aaload, 1) := by decide +kernel
theorem dX4_on_15 : decode cX4_on 15 = .ok (.getfield 86, 3) := by decide +kernel
theorem dX4_on_18 : decode cX4_on 18 = .ok (.iconst (-1), 1) := by decide +kernel
theorem dX4_on_19 : decode cX4_on 19 = .ok (.if_icmp .ne 9, 3) := by decide +kernel
theorem dX4_on_22 : decode cX4_on 22 = .ok (.aload_n 0, 1) := by decide +kernel
theorem dX4_on_23 : decode cX4_on 23 = .ok (.iconst 1, 1) := by decide +kernel
theorem dX4_on_24 : decode cX4_on 24 = .ok (.invokevirtual 93, 3) := by decide +kernel
theorem dX4_on_27 : decode cX4_on 27 = .ok (.ireturn, 1) := by decide +kernel
theorem dX4_on_28 : decode cX4_on 28 = .ok (.aload_n 0, 1) := by decide +kernel
theorem dX4_on_29 : decode cX4_on 29 = .ok (.getfield 42, 3) := by decide +kernel
theorem dX4_on_32 : decode cX4_on 32 = .ok (.aload_n 0, 1) := by decide +kernel
theorem dX4_on_33 : decode cX4_on 33 = .ok (.getfield 46, 3) := by decide +kernel
theorem dX4_on_36 : decode cX4_on 36 = .ok (.iload_n 1, 1) := by decide +kernel
theorem dX4_on_37 : decode cX4_on 37 = .ok (.aaload, 1) := by decide +kernel
theorem dX4_on_38 : decode cX4_on 38 = .ok (.invokevirtual 186, 3) := by decide +kernel
theorem dX4_on_41 : decode cX4_on 41 = .ok (.aload_n 0, 1) := by decide +kernel
theorem dX4_on_42 : decode cX4_on 42 = .ok (.invokevirtual 180, 3) := by decide +kernel
theorem dX4_on_45 : decode cX4_on 45 = .ok (.aload_n 0, 1) := by decide +kernel
theorem dX4_on_46 : decode cX4_on 46 = .ok (.getfield 42, 3) := by decide +kernel
theorem dX4_on_49 : decode cX4_on 49 = .ok (.getfield 86, 3) := by decide +kernel
theorem dX4_on_52 : decode cX4_on 52 = .ok (.ireturn, 1) := by decide +kernel
theorem dX4_calls_0 : decode cX4_calls 0 = .ok (.aload_n 0, 1) := by decide +kernel
theorem dX4_calls_1 : decode cX4_calls 1 = .ok (.aload_n 0, 1) := by decide +kernel
theorem dX4_calls_2 : decode cX4_calls 2 = .ok (.getfield 33, 3) := by decide +kernel
theorem dX4_calls_5 : decode cX4_calls 5 = .ok (.invokevirtual 189, 3) := by decide +kernel
theorem dX4_calls_8 : decode cX4_calls 8 = .ok (.ifCond .eq 7, 3) := by decide +kernel
theorem dX4_calls_11 : decode cX4_calls 11 = .ok (.iconst 1, 1) := by decide +kernel
theorem dX4_calls_12 : decode cX4_calls 12 = .ok (.goto 4, 3) := by decide +kernel
theorem dX4_calls_15 : decode cX4_calls 15 = .ok (.iconst 0, 1) := by decide +kernel
theorem dX4_calls_16 : decode cX4_calls 16 = .ok (.putfield 50, 3) := by decide +kernel
theorem dX4_calls_19 : decode cX4_calls 19 = .ok (.aload_n 0, 1) := by decide +kernel
theorem dX4_calls_20 : decode cX4_calls 20 = .ok (.getfield 33, 3) := by decide +kernel
theorem dX4_calls_23 : decode cX4_calls 23 = .ok (.invokevirtual 193, 3) := by decide +kernel
theorem dX4_calls_26 : decode cX4_calls 26 = .ok (.ireturn, 1) := by decide +kernel
theorem dX4_later_0 : decode cX4_later 0 = .ok (.aload_n 0, 1) := by decide +kernel
theorem dX4_later_1 : decode cX4_later 1 = .ok (.iload_n 1, 1) := by decide +kernel
theorem dX4_later_2 : decode cX4_later 2 = .ok (.invokevirtual 126, 3) := by decide +kernel
theorem dX4_later_5 : decode cX4_later 5 = .ok (.ifCond .eq 13, 3) := by decide +kernel
theorem dX4_later_8 : decode cX4_later 8 = .ok (.iload_n 2, 1) := by decide +kernel
theorem dX4_later_9 : decode cX4_later 9 = .ok (.ifCond .lt 9, 3) := by decide +kernel
theorem dX4_later_12 : decode cX4_later 12 = .ok (.iload_n 2, 1) := by decide +kernel
theorem dX4_later_13 : decode cX4_later 13 = .ok (.bipush 60, 2) := by decide +kernel
theorem dX4_later_15 : decode cX4_later 15 = .ok (.if_icmp .le 5, 3) := by decide +kernel
theorem dX4_later_18 : decode cX4_later 18 = .ok (.iconst (-1), 1) := by decide +kernel
theorem dX4_later_19 : decode cX4_later 19 = .ok (.ireturn, 1) := by decide +kernel
theorem dX4_later_20 : decode cX4_later 20 = .ok (.aload_n 0, 1) := by decide +kernel
theorem dX4_later_21 : decode cX4_later 21 = .ok (.getfield 36, 3) := by decide +kernel
theorem dX4_later_24 : decode cX4_later 24 = .ok (.aload_n 0, 1) := by decide +kernel
theorem dX4_later_25 : decode cX4_later 25 = .ok (.getfield 33, 3) := by decide +kernel
theorem dX4_later_28 : decode cX4_later 28 = .ok (.invokevirtual 121, 3) := by decide +kernel
theorem dX4_later_31 : decode cX4_later 31 = .ok (.aload_n 0, 1) := by decide +kernel
theorem dX4_later_32 : decode cX4_later 32 = .ok (.aload_n 0, 1) := by decide +kernel
theorem dX4_later_33 : decode cX4_later 33 = .ok (.getfield 36, 3) := by decide +kernel
theorem dX4_later_36 : decode cX4_later 36 = .ok (.iload_n 2, 1) := by decide +kernel
theorem dX4_later_37 : decode cX4_later 37 = .ok (.invokevirtual 197, 3) := by decide +kernel
theorem dX4_later_40 : decode cX4_later 40 = .ok (.putfield 50, 3) := by decide +kernel
theorem dX4_later_43 : decode cX4_later 43 = .ok (.aload_n 0, 1) := by decide +kernel
theorem dX4_later_44 : decode cX4_later 44 = .ok (.getfield 36, 3) := by decide +kernel
theorem dX4_later_47 : decode cX4_later 47 = .ok (.getfield 129, 3) := by decide +kernel
theorem dX4_later_50 : decode cX4_later 50 = .ok (.iload_n 1, 1) := by decide +kernel
theorem dX4_later_51 : decode cX4_later 51 = .ok (.aaload, 1) := by decide +kernel
theorem dX4_later_52 : decode cX4_later 52 = .ok (.getfield 177, 3) := by decide +kernel
theorem dX4_later_55 : decode cX4_later 55 = .ok (.ireturn, 1) := by decide +kernel
theorem dX4_trips_0 : decode cX4_trips 0 = .ok (.aload_n 0, 1) := by decide +kernel
theorem dX4_trips_1 : decode cX4_trips 1 = .ok (.iload_n 1, 1) := by decide +kernel
theorem dX4_trips_2 : decode cX4_trips 2 = .ok (.invokevirtual 126, 3) := by decide +kernel
theorem dX4_trips_5 : decode cX4_trips 5 = .ok (.ifCond .ne 5, 3) := by decide +kernel
theorem dX4_trips_8 : decode cX4_trips 8 = .ok (.iconst (-1), 1) := by decide +kernel
theorem dX4_trips_9 : decode cX4_trips 9 = .ok (.ireturn, 1) := by decide +kernel
theorem dX4_trips_10 : decode cX4_trips 10 = .ok (.aload_n 0, 1) := by decide +kernel
theorem dX4_trips_11 : decode cX4_trips 11 = .ok (.getfield 36, 3) := by decide +kernel
theorem dX4_trips_14 : decode cX4_trips 14 = .ok (.aload_n 0, 1) := by decide +kernel
theorem dX4_trips_15 : decode cX4_trips 15 = .ok (.getfield 33, 3) := by decide +kernel
theorem dX4_trips_18 : decode cX4_trips 18 = .ok (.invokevirtual 121, 3) := by decide +kernel
theorem dX4_trips_21 : decode cX4_trips 21 = .ok (.aload_n 0, 1) := by decide +kernel
theorem dX4_trips_22 : decode cX4_trips 22 = .ok (.getfield 36, 3) := by decide +kernel
theorem dX4_trips_25 : decode cX4_trips 25 = .ok (.getfield 129, 3) := by decide +kernel
theorem dX4_trips_28 : decode cX4_trips 28 = .ok (.iload_n 1, 1) := by decide +kernel
theorem dX4_trips_29 : decode cX4_trips 29 = .ok (.aaload, 1) := by decide +kernel
theorem dX4_trips_30 : decode cX4_trips 30 = .ok (.astore_n 2, 1) := by decide +kernel
theorem dX4_trips_31 : decode cX4_trips 31 = .ok (.iconst 0, 1) := by decide +kernel
theorem dX4_trips_32 : decode cX4_trips 32 = .ok (.istore_n 3, 1) := by decide +kernel
theorem dX4_trips_33 : decode cX4_trips 33 = .ok (.iconst 1, 1) := by decide +kernel
theorem dX4_trips_34 : decode cX4_trips 34 = .ok (.istore 4, 2) := by decide +kernel
theorem dX4_trips_36 : decode cX4_trips 36 = .ok (.iload 4, 2) := by decide +kernel
theorem dX4_trips_38 : decode cX4_trips 38 = .ok (.bipush 60, 2) := by decide +kernel
theorem dX4_trips_40 : decode cX4_trips 40 = .ok (.if_icmp .gt 80, 3) := by decide +kernel
theorem dX4_trips_43 : decode cX4_trips 43 = .ok (.aload_n 2, 1) := by decide +kernel
theorem dX4_trips_44 : decode cX4_trips 44 = .ok (.aload_n 0, 1) := by decide +kernel
theorem dX4_trips_45 : decode cX4_trips 45 = .ok (.getfield 36, 3) := by decide +kernel
theorem dX4_trips_48 : decode cX4_trips 48 = .ok (.getfield 141, 3) := by decide +kernel
theorem dX4_trips_51 : decode cX4_trips 51 = .ok (.invokevirtual 200, 3) := by decide +kernel
theorem dX4_trips_54 : decode cX4_trips 54 = .ok (.istore 5, 2) := by decide +kernel
theorem dX4_trips_56 : decode cX4_trips 56 = .ok (.aload_n 0, 1) := by decide +kernel
theorem dX4_trips_57 : decode cX4_trips 57 = .ok (.getfield 36, 3) := by decide +kernel
theorem dX4_trips_60 : decode cX4_trips 60 = .ok (.aload_n 0, 1) := by decide +kernel
theorem dX4_trips_61 : decode cX4_trips 61 = .ok (.getfield 36, 3) := by decide +kernel
theorem dX4_trips_64 : decode cX4_trips 64 = .ok (.invokevirtual 203, 3) := by decide +kernel
theorem dX4_trips_67 : decode cX4_trips 67 = .ok (.invokevirtual 206, 3) := by decide +kernel
theorem dX4_trips_70 : decode cX4_trips 70 = .ok (.ifCond .le 7, 3) := by decide +kernel
theorem dX4_trips_73 : decode cX4_trips 73 = .ok (.iconst 1, 1) := by decide +kernel
theorem dX4_trips_74 : decode cX4_trips 74 = .ok (.goto 4, 3) := by decide +kernel
theorem dX4_trips_77 : decode cX4_trips 77 = .ok (.iconst 0, 1) := by decide +kernel
theorem dX4_trips_78 : decode cX4_trips 78 = .ok (.istore 6, 2) := by decide +kernel
theorem dX4_trips_80 : decode cX4_trips 80 = .ok (.iload 5, 2) := by decide +kernel
theorem dX4_trips_82 : decode cX4_trips 82 = .ok (.ifCond .eq 19, 3) := by decide +kernel
theorem dX4_trips_85 : decode cX4_trips 85 = .ok (.aload_n 2, 1) := by decide +kernel
theorem dX4_trips_86 : decode cX4_trips 86 = .ok (.getfield 177, 3) := by decide +kernel
theorem dX4_trips_89 : decode cX4_trips 89 = .ok (.iconst 1, 1) := by decide +kernel
theorem dX4_trips_90 : decode cX4_trips 90 = .ok (.if_icmp .ne 11, 3) := by decide +kernel
theorem dX4_trips_93 : decode cX4_trips 93 = .ok (.aload_n 0, 1) := by decide +kernel
theorem dX4_trips_94 : decode cX4_trips 94 = .ok (.iload_n 3, 1) := by decide +kernel
theorem dX4_trips_95 : decode cX4_trips 95 = .ok (.putfield 50, 3) := by decide +kernel
theorem dX4_trips_98 : decode cX4_trips 98 = .ok (.iload 4, 2) := by decide +kernel
theorem dX4_trips_100 : decode cX4_trips 100 = .ok (.ireturn, 1) := by decide +kernel
theorem dX4_trips_101 : decode cX4_trips 101 = .ok (.iload 5, 2) := by decide +kernel
theorem dX4_trips_103 : decode cX4_trips 103 = .ok (.ifCond .eq 11, 3) := by decide +kernel
theorem dX4_trips_106 : decode cX4_trips 106 = .ok (.iload 6, 2) := by decide +kernel
theorem dX4_trips_108 : decode cX4_trips 108 = .ok (.ifCond .eq 6, 3) := by decide +kernel
theorem dX4_trips_111 : decode cX4_trips 111 = .ok (.iinc 3 1, 3) := by decide +kernel
theorem dX4_trips_114 : decode cX4_trips 114 = .ok (.iinc 4 1, 3) := by decide +kernel
theorem dX4_trips_117 : decode cX4_trips 117 = .ok (.goto (-81), 3) := by decide +kernel
theorem dX4_trips_120 : decode cX4_trips 120 = .ok (.bipush (-9), 2) := by decide +kernel
theorem dX4_trips_122 : decode cX4_trips 122 = .ok (.ireturn, 1) := by decide +kernel
theorem dX4_worst_0 : decode cX4_worst 0 = .ok (.aload_n 0, 1) := by decide +kernel
theorem dX4_worst_1 : decode cX4_worst 1 = .ok (.getfield 33, 3) := by decide +kernel
theorem dX4_worst_4 : decode cX4_worst 4 = .ok (.getfield 125, 3) := by decide +kernel
theorem dX4_worst_7 : decode cX4_worst 7 = .ok (.ifCond .ne 6, 3) := by decide +kernel
theorem dX4_worst_10 : decode cX4_worst 10 = .ok (.bipush (-4), 2) := by decide +kernel
theorem dX4_worst_12 : decode cX4_worst 12 = .ok (.ireturn, 1) := by decide +kernel
theorem dX4_worst_13 : decode cX4_worst 13 = .ok (.aload_n 0, 1) := by decide +kernel
theorem dX4_worst_14 : decode cX4_worst 14 = .ok (.getfield 36, 3) := by decide +kernel
theorem dX4_worst_17 : decode cX4_worst 17 = .ok (.aload_n 0, 1) := by decide +kernel
theorem dX4_worst_18 : decode cX4_worst 18 = .ok (.getfield 33, 3) := by decide +kernel
theorem dX4_worst_21 : decode cX4_worst 21 = .ok (.invokevirtual 121, 3) := by decide +kernel
theorem dX4_worst_24 : decode cX4_worst 24 = .ok (.aload_n 0, 1) := by decide +kernel
theorem dX4_worst_25 : decode cX4_worst 25 = .ok (.getfield 36, 3) := by decide +kernel
theorem dX4_worst_28 : decode cX4_worst 28 = .ok (.invokevirtual 210, 3) := by decide +kernel
theorem dX4_worst_31 : decode cX4_worst 31 = .ok (.istore_n 1, 1) := by decide +kernel
theorem dX4_worst_32 : decode cX4_worst 32 = .ok (.iconst 0, 1) := by decide +kernel
theorem dX4_worst_33 : decode cX4_worst 33 = .ok (.istore_n 2, 1) := by decide +kernel
theorem dX4_worst_34 : decode cX4_worst 34 = .ok (.iconst 1, 1) := by decide +kernel
theorem dX4_worst_35 : decode cX4_worst 35 = .ok (.istore_n 3, 1) := by decide +kernel
theorem dX4_worst_36 : decode cX4_worst 36 = .ok (.iload_n 3, 1) := by decide +kernel
theorem dX4_worst_37 : decode cX4_worst 37 = .ok (.bipush 60, 2) := by decide +kernel
theorem dX4_worst_39 : decode cX4_worst 39 = .ok (.if_icmp .gt 45, 3) := by decide +kernel
theorem dX4_worst_42 : decode cX4_worst 42 = .ok (.aload_n 0, 1) := by decide +kernel
theorem dX4_worst_43 : decode cX4_worst 43 = .ok (.getfield 36, 3) := by decide +kernel
theorem dX4_worst_46 : decode cX4_worst 46 = .ok (.aload_n 0, 1) := by decide +kernel
theorem dX4_worst_47 : decode cX4_worst 47 = .ok (.getfield 36, 3) := by decide +kernel
theorem dX4_worst_50 : decode cX4_worst 50 = .ok (.invokevirtual 203, 3) := by decide +kernel
theorem dX4_worst_53 : decode cX4_worst 53 = .ok (.invokevirtual 206, 3) := by decide +kernel
theorem dX4_worst_56 : decode cX4_worst 56 = .ok (.pop, 1) := by decide +kernel
theorem dX4_worst_57 : decode cX4_worst 57 = .ok (.aload_n 0, 1) := by decide +kernel
theorem dX4_worst_58 : decode cX4_worst 58 = .ok (.getfield 36, 3) := by decide +kernel
theorem dX4_worst_61 : decode cX4_worst 61 = .ok (.invokevirtual 210, 3) := by decide +kernel
theorem dX4_worst_64 : decode cX4_worst 64 = .ok (.iload_n 1, 1) := by decide +kernel
theorem dX4_worst_65 : decode cX4_worst 65 = .ok (.if_icmp .ge 13, 3) := by decide +kernel
theorem dX4_worst_68 : decode cX4_worst 68 = .ok (.aload_n 0, 1) := by decide +kernel
theorem dX4_worst_69 : decode cX4_worst 69 = .ok (.getfield 36, 3) := by decide +kernel
theorem dX4_worst_72 : decode cX4_worst 72 = .ok (.invokevirtual 210, 3) := by decide +kernel
theorem dX4_worst_75 : decode cX4_worst 75 = .ok (.istore_n 1, 1) := by decide +kernel
theorem dX4_worst_76 : decode cX4_worst 76 = .ok (.iload_n 3, 1) := by decide +kernel
theorem dX4_worst_77 : decode cX4_worst 77 = .ok (.istore_n 2, 1) := by decide +kernel
theorem dX4_worst_78 : decode cX4_worst 78 = .ok (.iinc 3 1, 3) := by decide +kernel
theorem dX4_worst_81 : decode cX4_worst 81 = .ok (.goto (-45), 3) := by decide +kernel
theorem dX4_worst_84 : decode cX4_worst 84 = .ok (.aload_n 0, 1) := by decide +kernel
theorem dX4_worst_85 : decode cX4_worst 85 = .ok (.iload_n 1, 1) := by decide +kernel
theorem dX4_worst_86 : decode cX4_worst 86 = .ok (.putfield 50, 3) := by decide +kernel
theorem dX4_worst_89 : decode cX4_worst 89 = .ok (.iload_n 2, 1) := by decide +kernel
theorem dX4_worst_90 : decode cX4_worst 90 = .ok (.ireturn, 1) := by decide +kernel
theorem dX4_best_0 : decode cX4_best 0 = .ok (.iload_n 1, 1) := by decide +kernel
theorem dX4_best_1 : decode cX4_best 1 = .ok (.iconst 1, 1) := by decide +kernel
theorem dX4_best_2 : decode cX4_best 2 = .ok (.if_icmp .lt 9, 3) := by decide +kernel
theorem dX4_best_5 : decode cX4_best 5 = .ok (.iload_n 1, 1) := by decide +kernel
theorem dX4_best_6 : decode cX4_best 6 = .ok (.bipush 40, 2) := by decide +kernel
theorem dX4_best_8 : decode cX4_best 8 = .ok (.if_icmp .le 5, 3) := by decide +kernel
theorem dX4_best_11 : decode cX4_best 11 = .ok (.iconst (-1), 1) := by decide +kernel
theorem dX4_best_12 : decode cX4_best 12 = .ok (.ireturn, 1) := by decide +kernel
theorem dX4_best_13 : decode cX4_best 13 = .ok (.aload_n 0, 1) := by decide +kernel
theorem dX4_best_14 : decode cX4_best 14 = .ok (.getfield 33, 3) := by decide +kernel
theorem dX4_best_17 : decode cX4_best 17 = .ok (.getfield 125, 3) := by decide +kernel
theorem dX4_best_20 : decode cX4_best 20 = .ok (.ifCond .ne 6, 3) := by decide +kernel
theorem dX4_best_23 : decode cX4_best 23 = .ok (.bipush (-4), 2) := by decide +kernel
theorem dX4_best_25 : decode cX4_best 25 = .ok (.ireturn, 1) := by decide +kernel
theorem dX4_best_26 : decode cX4_best 26 = .ok (.aload_n 0, 1) := by decide +kernel
theorem dX4_best_27 : decode cX4_best 27 = .ok (.getfield 70, 3) := by decide +kernel
theorem dX4_best_30 : decode cX4_best 30 = .ok (.iconst (-1), 1) := by decide +kernel
theorem dX4_best_31 : decode cX4_best 31 = .ok (.invokevirtual 213, 3) := by decide +kernel
theorem dX4_best_34 : decode cX4_best 34 = .ok (.iconst 1, 1) := by decide +kernel
theorem dX4_best_35 : decode cX4_best 35 = .ok (.istore_n 2, 1) := by decide +kernel
theorem dX4_best_36 : decode cX4_best 36 = .ok (.iload_n 2, 1) := by decide +kernel
theorem dX4_best_37 : decode cX4_best 37 = .ok (.bipush 9, 2) := by decide +kernel
theorem dX4_best_39 : decode cX4_best 39 = .ok (.if_icmp .gt 44, 3) := by decide +kernel
theorem dX4_best_42 : decode cX4_best 42 = .ok (.aload_n 0, 1) := by decide +kernel
theorem dX4_best_43 : decode cX4_best 43 = .ok (.getfield 36, 3) := by decide +kernel
theorem dX4_best_46 : decode cX4_best 46 = .ok (.aload_n 0, 1) := by decide +kernel
theorem dX4_best_47 : decode cX4_best 47 = .ok (.getfield 33, 3) := by decide +kernel
theorem dX4_best_50 : decode cX4_best 50 = .ok (.invokevirtual 121, 3) := by decide +kernel
theorem dX4_best_53 : decode cX4_best 53 = .ok (.aload_n 0, 1) := by decide +kernel
theorem dX4_best_54 : decode cX4_best 54 = .ok (.getfield 36, 3) := by decide +kernel
theorem dX4_best_57 : decode cX4_best 57 = .ok (.iload_n 2, 1) := by decide +kernel
theorem dX4_best_58 : decode cX4_best 58 = .ok (.putfield 171, 3) := by decide +kernel
theorem dX4_best_61 : decode cX4_best 61 = .ok (.aload_n 0, 1) := by decide +kernel
theorem dX4_best_62 : decode cX4_best 62 = .ok (.getfield 70, 3) := by decide +kernel
theorem dX4_best_65 : decode cX4_best 65 = .ok (.iload_n 2, 1) := by decide +kernel
theorem dX4_best_66 : decode cX4_best 66 = .ok (.aload_n 0, 1) := by decide +kernel
theorem dX4_best_67 : decode cX4_best 67 = .ok (.getfield 36, 3) := by decide +kernel
theorem dX4_best_70 : decode cX4_best 70 = .ok (.iload_n 1, 1) := by decide +kernel
theorem dX4_best_71 : decode cX4_best 71 = .ok (.invokevirtual 197, 3) := by decide +kernel
theorem dX4_best_74 : decode cX4_best 74 = .ok (.invokevirtual 217, 3) := by decide +kernel
theorem dX4_best_77 : decode cX4_best 77 = .ok (.iinc 2 1, 3) := by decide +kernel
theorem dX4_best_80 : decode cX4_best 80 = .ok (.goto (-44), 3) := by decide +kernel
theorem dX4_best_83 : decode cX4_best 83 = .ok (.aload_n 0, 1) := by decide +kernel
theorem dX4_best_84 : decode cX4_best 84 = .ok (.aload_n 0, 1) := by decide +kernel
theorem dX4_best_85 : decode cX4_best 85 = .ok (.getfield 70, 3) := by decide +kernel
theorem dX4_best_88 : decode cX4_best 88 = .ok (.getfield 221, 3) := by decide +kernel
theorem dX4_best_91 : decode cX4_best 91 = .ok (.putfield 50, 3) := by decide +kernel
theorem dX4_best_94 : decode cX4_best 94 = .ok (.aload_n 0, 1) := by decide +kernel
theorem dX4_best_95 : decode cX4_best 95 = .ok (.getfield 70, 3) := by decide +kernel
theorem dX4_best_98 : decode cX4_best 98 = .ok (.getfield 224, 3) := by decide +kernel
theorem dX4_best_101 : decode cX4_best 101 = .ok (.ireturn, 1) := by decide +kernel
theorem dX4_mend_0 : decode cX4_mend 0 = .ok (.iload_n 1, 1) := by decide +kernel
theorem dX4_mend_1 : decode cX4_mend 1 = .ok (.iconst 1, 1) := by decide +kernel
theorem dX4_mend_2 : decode cX4_mend 2 = .ok (.if_icmp .lt 9, 3) := by decide +kernel
theorem dX4_mend_5 : decode cX4_mend 5 = .ok (.iload_n 1, 1) := by decide +kernel
theorem dX4_mend_6 : decode cX4_mend 6 = .ok (.bipush 40, 2) := by decide +kernel
theorem dX4_mend_8 : decode cX4_mend 8 = .ok (.if_icmp .le 5, 3) := by decide +kernel
theorem dX4_mend_11 : decode cX4_mend 11 = .ok (.iconst (-1), 1) := by decide +kernel
theorem dX4_mend_12 : decode cX4_mend 12 = .ok (.ireturn, 1) := by decide +kernel
theorem dX4_mend_13 : decode cX4_mend 13 = .ok (.aload_n 0, 1) := by decide +kernel
theorem dX4_mend_14 : decode cX4_mend 14 = .ok (.getfield 33, 3) := by decide +kernel
theorem dX4_mend_17 : decode cX4_mend 17 = .ok (.getfield 125, 3) := by decide +kernel
theorem dX4_mend_20 : decode cX4_mend 20 = .ok (.ifCond .ne 6, 3) := by decide +kernel
theorem dX4_mend_23 : decode cX4_mend 23 = .ok (.bipush (-4), 2) := by decide +kernel
theorem dX4_mend_25 : decode cX4_mend 25 = .ok (.ireturn, 1) := by decide +kernel
theorem dX4_mend_26 : decode cX4_mend 26 = .ok (.aload_n 0, 1) := by decide +kernel
theorem dX4_mend_27 : decode cX4_mend 27 = .ok (.getfield 36, 3) := by decide +kernel
theorem dX4_mend_30 : decode cX4_mend 30 = .ok (.aload_n 0, 1) := by decide +kernel
theorem dX4_mend_31 : decode cX4_mend 31 = .ok (.getfield 33, 3) := by decide +kernel
theorem dX4_mend_34 : decode cX4_mend 34 = .ok (.invokevirtual 121, 3) := by decide +kernel
theorem dX4_mend_37 : decode cX4_mend 37 = .ok (.aload_n 0, 1) := by decide +kernel
theorem dX4_mend_38 : decode cX4_mend 38 = .ok (.getfield 70, 3) := by decide +kernel
theorem dX4_mend_41 : decode cX4_mend 41 = .ok (.aload_n 0, 1) := by decide +kernel
theorem dX4_mend_42 : decode cX4_mend 42 = .ok (.getfield 36, 3) := by decide +kernel
theorem dX4_mend_45 : decode cX4_mend 45 = .ok (.iload_n 1, 1) := by decide +kernel
theorem dX4_mend_46 : decode cX4_mend 46 = .ok (.invokevirtual 197, 3) := by decide +kernel
theorem dX4_mend_49 : decode cX4_mend 49 = .ok (.invokevirtual 213, 3) := by decide +kernel
theorem dX4_mend_52 : decode cX4_mend 52 = .ok (.iconst 0, 1) := by decide +kernel
theorem dX4_mend_53 : decode cX4_mend 53 = .ok (.istore_n 2, 1) := by decide +kernel
theorem dX4_mend_54 : decode cX4_mend 54 = .ok (.iload_n 2, 1) := by decide +kernel
theorem dX4_mend_55 : decode cX4_mend 55 = .ok (.bipush 8, 2) := by decide +kernel
theorem dX4_mend_57 : decode cX4_mend 57 = .ok (.if_icmp .ge 51, 3) := by decide +kernel
theorem dX4_mend_60 : decode cX4_mend 60 = .ok (.aload_n 0, 1) := by decide +kernel
theorem dX4_mend_61 : decode cX4_mend 61 = .ok (.getfield 36, 3) := by decide +kernel
theorem dX4_mend_64 : decode cX4_mend 64 = .ok (.aload_n 0, 1) := by decide +kernel
theorem dX4_mend_65 : decode cX4_mend 65 = .ok (.getfield 33, 3) := by decide +kernel
theorem dX4_mend_68 : decode cX4_mend 68 = .ok (.invokevirtual 121, 3) := by decide +kernel
theorem dX4_mend_71 : decode cX4_mend 71 = .ok (.aload_n 0, 1) := by decide +kernel
theorem dX4_mend_72 : decode cX4_mend 72 = .ok (.getfield 36, 3) := by decide +kernel
theorem dX4_mend_75 : decode cX4_mend 75 = .ok (.dup, 1) := by decide +kernel
theorem dX4_mend_76 : decode cX4_mend 76 = .ok (.getfield 160, 3) := by decide +kernel
theorem dX4_mend_79 : decode cX4_mend 79 = .ok (.iconst 1, 1) := by decide +kernel
theorem dX4_mend_80 : decode cX4_mend 80 = .ok (.iload_n 2, 1) := by decide +kernel
theorem dX4_mend_81 : decode cX4_mend 81 = .ok (.ishl, 1) := by decide +kernel
theorem dX4_mend_82 : decode cX4_mend 82 = .ok (.ixor, 1) := by decide +kernel
theorem dX4_mend_83 : decode cX4_mend 83 = .ok (.putfield 160, 3) := by decide +kernel
theorem dX4_mend_86 : decode cX4_mend 86 = .ok (.aload_n 0, 1) := by decide +kernel
theorem dX4_mend_87 : decode cX4_mend 87 = .ok (.getfield 70, 3) := by decide +kernel
theorem dX4_mend_90 : decode cX4_mend 90 = .ok (.iload_n 2, 1) := by decide +kernel
theorem dX4_mend_91 : decode cX4_mend 91 = .ok (.aload_n 0, 1) := by decide +kernel
theorem dX4_mend_92 : decode cX4_mend 92 = .ok (.getfield 36, 3) := by decide +kernel
theorem dX4_mend_95 : decode cX4_mend 95 = .ok (.iload_n 1, 1) := by decide +kernel
theorem dX4_mend_96 : decode cX4_mend 96 = .ok (.invokevirtual 197, 3) := by decide +kernel
theorem dX4_mend_99 : decode cX4_mend 99 = .ok (.invokevirtual 217, 3) := by decide +kernel
theorem dX4_mend_102 : decode cX4_mend 102 = .ok (.iinc 2 1, 3) := by decide +kernel
theorem dX4_mend_105 : decode cX4_mend 105 = .ok (.goto (-51), 3) := by decide +kernel
theorem dX4_mend_108 : decode cX4_mend 108 = .ok (.aload_n 0, 1) := by decide +kernel
theorem dX4_mend_109 : decode cX4_mend 109 = .ok (.getfield 70, 3) := by decide +kernel
theorem dX4_mend_112 : decode cX4_mend 112 = .ok (.getfield 224, 3) := by decide +kernel
theorem dX4_mend_115 : decode cX4_mend 115 = .ok (.bipush (-9), 2) := by decide +kernel
theorem dX4_mend_117 : decode cX4_mend 117 = .ok (.if_icmp .eq 14, 3) := by decide +kernel
theorem dX4_mend_120 : decode cX4_mend 120 = .ok (.aload_n 0, 1) := by decide +kernel
theorem dX4_mend_121 : decode cX4_mend 121 = .ok (.aload_n 0, 1) := by decide +kernel
theorem dX4_mend_122 : decode cX4_mend 122 = .ok (.getfield 70, 3) := by decide +kernel
theorem dX4_mend_125 : decode cX4_mend 125 = .ok (.getfield 221, 3) := by decide +kernel
theorem dX4_mend_128 : decode cX4_mend 128 = .ok (.putfield 50, 3) := by decide +kernel
theorem dX4_mend_131 : decode cX4_mend 131 = .ok (.aload_n 0, 1) := by decide +kernel
theorem dX4_mend_132 : decode cX4_mend 132 = .ok (.getfield 70, 3) := by decide +kernel
theorem dX4_mend_135 : decode cX4_mend 135 = .ok (.getfield 224, 3) := by decide +kernel
theorem dX4_mend_138 : decode cX4_mend 138 = .ok (.ireturn, 1) := by decide +kernel
theorem dX4_tune_0 : decode cX4_tune 0 = .ok (.aload_n 0, 1) := by decide +kernel
theorem dX4_tune_1 : decode cX4_tune 1 = .ok (.iload_n 1, 1) := by decide +kernel
theorem dX4_tune_2 : decode cX4_tune 2 = .ok (.invokevirtual 126, 3) := by decide +kernel
theorem dX4_tune_5 : decode cX4_tune 5 = .ok (.ifCond .eq 14, 3) := by decide +kernel
theorem dX4_tune_8 : decode cX4_tune 8 = .ok (.iload_n 2, 1) := by decide +kernel
theorem dX4_tune_9 : decode cX4_tune 9 = .ok (.iconst 1, 1) := by decide +kernel
theorem dX4_tune_10 : decode cX4_tune 10 = .ok (.if_icmp .lt 9, 3) := by decide +kernel
theorem dX4_tune_13 : decode cX4_tune 13 = .ok (.iload_n 2, 1) := by decide +kernel
theorem dX4_tune_14 : decode cX4_tune 14 = .ok (.bipush 40, 2) := by decide +kernel
theorem dX4_tune_16 : decode cX4_tune 16 = .ok (.if_icmp .le 5, 3) := by decide +kernel
theorem dX4_tune_19 : decode cX4_tune 19 = .ok (.iconst (-1), 1) := by decide +kernel
theorem dX4_tune_20 : decode cX4_tune 20 = .ok (.ireturn, 1) := by decide +kernel
theorem dX4_tune_21 : decode cX4_tune 21 = .ok (.aload_n 0, 1) := by decide +kernel
theorem dX4_tune_22 : decode cX4_tune 22 = .ok (.getfield 70, 3) := by decide +kernel
theorem dX4_tune_25 : decode cX4_tune 25 = .ok (.iconst (-1), 1) := by decide +kernel
theorem dX4_tune_26 : decode cX4_tune 26 = .ok (.invokevirtual 213, 3) := by decide +kernel
theorem dX4_tune_29 : decode cX4_tune 29 = .ok (.iconst 1, 1) := by decide +kernel
theorem dX4_tune_30 : decode cX4_tune 30 = .ok (.istore_n 3, 1) := by decide +kernel
theorem dX4_tune_31 : decode cX4_tune 31 = .ok (.iload_n 3, 1) := by decide +kernel
theorem dX4_tune_32 : decode cX4_tune 32 = .ok (.bipush 9, 2) := by decide +kernel
theorem dX4_tune_34 : decode cX4_tune 34 = .ok (.if_icmp .gt 49, 3) := by decide +kernel
theorem dX4_tune_37 : decode cX4_tune 37 = .ok (.aload_n 0, 1) := by decide +kernel
theorem dX4_tune_38 : decode cX4_tune 38 = .ok (.getfield 36, 3) := by decide +kernel
theorem dX4_tune_41 : decode cX4_tune 41 = .ok (.aload_n 0, 1) := by decide +kernel
theorem dX4_tune_42 : decode cX4_tune 42 = .ok (.getfield 33, 3) := by decide +kernel
theorem dX4_tune_45 : decode cX4_tune 45 = .ok (.invokevirtual 121, 3) := by decide +kernel
theorem dX4_tune_48 : decode cX4_tune 48 = .ok (.aload_n 0, 1) := by decide +kernel
theorem dX4_tune_49 : decode cX4_tune 49 = .ok (.getfield 36, 3) := by decide +kernel
theorem dX4_tune_52 : decode cX4_tune 52 = .ok (.getfield 129, 3) := by decide +kernel
theorem dX4_tune_55 : decode cX4_tune 55 = .ok (.iload_n 1, 1) := by decide +kernel
theorem dX4_tune_56 : decode cX4_tune 56 = .ok (.aaload, 1) := by decide +kernel
theorem dX4_tune_57 : decode cX4_tune 57 = .ok (.iload_n 3, 1) := by decide +kernel
theorem dX4_tune_58 : decode cX4_tune 58 = .ok (.putfield 174, 3) := by decide +kernel
theorem dX4_tune_61 : decode cX4_tune 61 = .ok (.aload_n 0, 1) := by decide +kernel
theorem dX4_tune_62 : decode cX4_tune 62 = .ok (.getfield 70, 3) := by decide +kernel
theorem dX4_tune_65 : decode cX4_tune 65 = .ok (.iload_n 3, 1) := by decide +kernel
theorem dX4_tune_66 : decode cX4_tune 66 = .ok (.aload_n 0, 1) := by decide +kernel
theorem dX4_tune_67 : decode cX4_tune 67 = .ok (.getfield 36, 3) := by decide +kernel
theorem dX4_tune_70 : decode cX4_tune 70 = .ok (.iload_n 2, 1) := by decide +kernel
theorem dX4_tune_71 : decode cX4_tune 71 = .ok (.invokevirtual 197, 3) := by decide +kernel
theorem dX4_tune_74 : decode cX4_tune 74 = .ok (.invokevirtual 217, 3) := by decide +kernel
theorem dX4_tune_77 : decode cX4_tune 77 = .ok (.iinc 3 1, 3) := by decide +kernel
theorem dX4_tune_80 : decode cX4_tune 80 = .ok (.goto (-49), 3) := by decide +kernel
theorem dX4_tune_83 : decode cX4_tune 83 = .ok (.aload_n 0, 1) := by decide +kernel
theorem dX4_tune_84 : decode cX4_tune 84 = .ok (.aload_n 0, 1) := by decide +kernel
theorem dX4_tune_85 : decode cX4_tune 85 = .ok (.getfield 70, 3) := by decide +kernel
theorem dX4_tune_88 : decode cX4_tune 88 = .ok (.getfield 221, 3) := by decide +kernel
theorem dX4_tune_91 : decode cX4_tune 91 = .ok (.putfield 50, 3) := by decide +kernel
theorem dX4_tune_94 : decode cX4_tune 94 = .ok (.aload_n 0, 1) := by decide +kernel
theorem dX4_tune_95 : decode cX4_tune 95 = .ok (.getfield 70, 3) := by decide +kernel
theorem dX4_tune_98 : decode cX4_tune 98 = .ok (.getfield 224, 3) := by decide +kernel
theorem dX4_tune_101 : decode cX4_tune 101 = .ok (.ireturn, 1) := by decide +kernel
theorem dX4_hush_0 : decode cX4_hush 0 = .ok (.iload_n 1, 1) := by decide +kernel
theorem dX4_hush_1 : decode cX4_hush 1 = .ok (.iconst 1, 1) := by decide +kernel
theorem dX4_hush_2 : decode cX4_hush 2 = .ok (.if_icmp .lt 9, 3) := by decide +kernel
theorem dX4_hush_5 : decode cX4_hush 5 = .ok (.iload_n 1, 1) := by decide +kernel
theorem dX4_hush_6 : decode cX4_hush 6 = .ok (.bipush 20, 2) := by decide +kernel
theorem dX4_hush_8 : decode cX4_hush 8 = .ok (.if_icmp .le 5, 3) := by decide +kernel
theorem dX4_hush_11 : decode cX4_hush 11 = .ok (.iconst (-1), 1) := by decide +kernel
theorem dX4_hush_12 : decode cX4_hush 12 = .ok (.ireturn, 1) := by decide +kernel
theorem dX4_hush_13 : decode cX4_hush 13 = .ok (.aload_n 0, 1) := by decide +kernel
theorem dX4_hush_14 : decode cX4_hush 14 = .ok (.getfield 33, 3) := by decide +kernel
theorem dX4_hush_17 : decode cX4_hush 17 = .ok (.getfield 125, 3) := by decide +kernel
theorem dX4_hush_20 : decode cX4_hush 20 = .ok (.ifCond .ne 6, 3) := by decide +kernel
theorem dX4_hush_23 : decode cX4_hush 23 = .ok (.bipush (-4), 2) := by decide +kernel
theorem dX4_hush_25 : decode cX4_hush 25 = .ok (.ireturn, 1) := by decide +kernel
theorem dX4_hush_26 : decode cX4_hush 26 = .ok (.aload_n 0, 1) := by decide +kernel
theorem dX4_hush_27 : decode cX4_hush 27 = .ok (.getfield 70, 3) := by decide +kernel
theorem dX4_hush_30 : decode cX4_hush 30 = .ok (.iconst (-1), 1) := by decide +kernel
theorem dX4_hush_31 : decode cX4_hush 31 = .ok (.invokevirtual 213, 3) := by decide +kernel
theorem dX4_hush_34 : decode cX4_hush 34 = .ok (.iconst 0, 1) := by decide +kernel
theorem dX4_hush_35 : decode cX4_hush 35 = .ok (.istore_n 2, 1) := by decide +kernel
theorem dX4_hush_36 : decode cX4_hush 36 = .ok (.iload_n 2, 1) := by decide +kernel
theorem dX4_hush_37 : decode cX4_hush 37 = .ok (.aload_n 0, 1) := by decide +kernel
theorem dX4_hush_38 : decode cX4_hush 38 = .ok (.getfield 33, 3) := by decide +kernel
theorem dX4_hush_41 : decode cX4_hush 41 = .ok (.getfield 125, 3) := by decide +kernel
theorem dX4_hush_44 : decode cX4_hush 44 = .ok (.if_icmp .gt 15, 3) := by decide +kernel
theorem dX4_hush_47 : decode cX4_hush 47 = .ok (.aload_n 0, 1) := by decide +kernel
theorem dX4_hush_48 : decode cX4_hush 48 = .ok (.iload_n 2, 1) := by decide +kernel
theorem dX4_hush_49 : decode cX4_hush 49 = .ok (.iload_n 1, 1) := by decide +kernel
theorem dX4_hush_50 : decode cX4_hush 50 = .ok (.invokevirtual 227, 3) := by decide +kernel
theorem dX4_hush_53 : decode cX4_hush 53 = .ok (.iinc 2 1, 3) := by decide +kernel
theorem dX4_hush_56 : decode cX4_hush 56 = .ok (.goto (-20), 3) := by decide +kernel
theorem dX4_hush_59 : decode cX4_hush 59 = .ok (.aload_n 0, 1) := by decide +kernel
theorem dX4_hush_60 : decode cX4_hush 60 = .ok (.aload_n 0, 1) := by decide +kernel
theorem dX4_hush_61 : decode cX4_hush 61 = .ok (.getfield 70, 3) := by decide +kernel
theorem dX4_hush_64 : decode cX4_hush 64 = .ok (.getfield 221, 3) := by decide +kernel
theorem dX4_hush_67 : decode cX4_hush 67 = .ok (.putfield 50, 3) := by decide +kernel
theorem dX4_hush_70 : decode cX4_hush 70 = .ok (.aload_n 0, 1) := by decide +kernel
theorem dX4_hush_71 : decode cX4_hush 71 = .ok (.getfield 70, 3) := by decide +kernel
theorem dX4_hush_74 : decode cX4_hush 74 = .ok (.getfield 224, 3) := by decide +kernel
theorem dX4_hush_77 : decode cX4_hush 77 = .ok (.ireturn, 1) := by decide +kernel
theorem dX4_patterns_0 : decode cX4_patterns 0 = .ok (.iload_n 1, 1) := by decide +kernel
theorem dX4_patterns_1 : decode cX4_patterns 1 = .ok (.invokestatic 89, 3) := by decide +kernel
theorem dX4_patterns_4 : decode cX4_patterns 4 = .ok (.ifCond .ne 5, 3) := by decide +kernel
theorem dX4_patterns_7 : decode cX4_patterns 7 = .ok (.iconst (-1), 1) := by decide +kernel
theorem dX4_patterns_8 : decode cX4_patterns 8 = .ok (.ireturn, 1) := by decide +kernel
theorem dX4_patterns_9 : decode cX4_patterns 9 = .ok (.aload_n 0, 1) := by decide +kernel
theorem dX4_patterns_10 : decode cX4_patterns 10 = .ok (.getfield 33, 3) := by decide +kernel
theorem dX4_patterns_13 : decode cX4_patterns 13 = .ok (.getfield 125, 3) := by decide +kernel
theorem dX4_patterns_16 : decode cX4_patterns 16 = .ok (.ifCond .ne 6, 3) := by decide +kernel
theorem dX4_patterns_19 : decode cX4_patterns 19 = .ok (.bipush (-4), 2) := by decide +kernel
theorem dX4_patterns_21 : decode cX4_patterns 21 = .ok (.ireturn, 1) := by decide +kernel
theorem dX4_patterns_22 : decode cX4_patterns 22 = .ok (.aload_n 0, 1) := by decide +kernel
theorem dX4_patterns_23 : decode cX4_patterns 23 = .ok (.iload_n 1, 1) := by decide +kernel
theorem dX4_patterns_24 : decode cX4_patterns 24 = .ok (.invokevirtual 230, 3) := by decide +kernel
theorem dX4_patterns_27 : decode cX4_patterns 27 = .ok (.istore_n 2, 1) := by decide +kernel
theorem dX4_patterns_28 : decode cX4_patterns 28 = .ok (.iload_n 2, 1) := by decide +kernel
theorem dX4_patterns_29 : decode cX4_patterns 29 = .ok (.ifCond .eq 9, 3) := by decide +kernel
theorem dX4_patterns_32 : decode cX4_patterns 32 = .ok (.aload_n 0, 1) := by decide +kernel
theorem dX4_patterns_33 : decode cX4_patterns 33 = .ok (.iload_n 2, 1) := by decide +kernel
theorem dX4_patterns_34 : decode cX4_patterns 34 = .ok (.invokevirtual 93, 3) := by decide +kernel
theorem dX4_patterns_37 : decode cX4_patterns 37 = .ok (.ireturn, 1) := by decide +kernel
theorem dX4_patterns_38 : decode cX4_patterns 38 = .ok (.iconst 0, 1) := by decide +kernel
theorem dX4_patterns_39 : decode cX4_patterns 39 = .ok (.istore_n 3, 1) := by decide +kernel
theorem dX4_patterns_40 : decode cX4_patterns 40 = .ok (.iconst 0, 1) := by decide +kernel
theorem dX4_patterns_41 : decode cX4_patterns 41 = .ok (.istore 4, 2) := by decide +kernel
theorem dX4_patterns_43 : decode cX4_patterns 43 = .ok (.sipush 255, 3) := by decide +kernel
theorem dX4_patterns_46 : decode cX4_patterns 46 = .ok (.istore 5, 2) := by decide +kernel
theorem dX4_patterns_48 : decode cX4_patterns 48 = .ok (.iload 5, 2) := by decide +kernel
theorem dX4_patterns_50 : decode cX4_patterns 50 = .ok (.ifCond .lt 44, 3) := by decide +kernel
theorem dX4_patterns_53 : decode cX4_patterns 53 = .ok (.aload_n 0, 1) := by decide +kernel
theorem dX4_patterns_54 : decode cX4_patterns 54 = .ok (.getfield 36, 3) := by decide +kernel
theorem dX4_patterns_57 : decode cX4_patterns 57 = .ok (.aload_n 0, 1) := by decide +kernel
theorem dX4_patterns_58 : decode cX4_patterns 58 = .ok (.getfield 33, 3) := by decide +kernel
theorem dX4_patterns_61 : decode cX4_patterns 61 = .ok (.invokevirtual 121, 3) := by decide +kernel
theorem dX4_patterns_64 : decode cX4_patterns 64 = .ok (.aload_n 0, 1) := by decide +kernel
theorem dX4_patterns_65 : decode cX4_patterns 65 = .ok (.getfield 36, 3) := by decide +kernel
theorem dX4_patterns_68 : decode cX4_patterns 68 = .ok (.iload 5, 2) := by decide +kernel
theorem dX4_patterns_70 : decode cX4_patterns 70 = .ok (.putfield 160, 3) := by decide +kernel
theorem dX4_patterns_73 : decode cX4_patterns 73 = .ok (.aload_n 0, 1) := by decide +kernel
theorem dX4_patterns_74 : decode cX4_patterns 74 = .ok (.iload_n 1, 1) := by decide +kernel
theorem dX4_patterns_75 : decode cX4_patterns 75 = .ok (.invokevirtual 233, 3) := by decide +kernel
theorem dX4_patterns_78 : decode cX4_patterns 78 = .ok (.ifCond .eq 10, 3) := by decide +kernel
theorem dX4_patterns_81 : decode cX4_patterns 81 = .ok (.iinc 3 1, 3) := by decide +kernel
theorem dX4_patterns_84 : decode cX4_patterns 84 = .ok (.iload 5, 2) := by decide +kernel
