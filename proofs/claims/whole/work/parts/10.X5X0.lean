theorem dX5_init_0 : dec cX5_init 0 (.aload_n 0) 1 1 := ⟨by decide +kernel, rfl⟩
theorem dX5_init_1 : dec cX5_init 1 (.invokespecial 3) 3 4 := ⟨by decide +kernel, rfl⟩
theorem dX5_init_4 : dec cX5_init 4 .return_ 1 5 := ⟨by decide +kernel, rfl⟩
theorem dX5_copy_0 : dec cX5_copy 0 (.aload_n 0) 1 1 := ⟨by decide +kernel, rfl⟩
theorem dX5_copy_1 : dec cX5_copy 1 (.aload_n 1) 1 2 := ⟨by decide +kernel, rfl⟩
theorem dX5_copy_2 : dec cX5_copy 2 (.getfield 9) 3 5 := ⟨by decide +kernel, rfl⟩
theorem dX5_copy_5 : dec cX5_copy 5 (.putfield 9) 3 8 := ⟨by decide +kernel, rfl⟩
theorem dX5_copy_8 : dec cX5_copy 8 (.aload_n 0) 1 9 := ⟨by decide +kernel, rfl⟩
theorem dX5_copy_9 : dec cX5_copy 9 (.aload_n 1) 1 10 := ⟨by decide +kernel, rfl⟩
theorem dX5_copy_10 : dec cX5_copy 10 (.getfield 15) 3 13 := ⟨by decide +kernel, rfl⟩
theorem dX5_copy_13 : dec cX5_copy 13 (.putfield 15) 3 16 := ⟨by decide +kernel, rfl⟩
theorem dX5_copy_16 : dec cX5_copy 16 (.aload_n 0) 1 17 := ⟨by decide +kernel, rfl⟩
theorem dX5_copy_17 : dec cX5_copy 17 (.aload_n 1) 1 18 := ⟨by decide +kernel, rfl⟩
theorem dX5_copy_18 : dec cX5_copy 18 (.getfield 18) 3 21 := ⟨by decide +kernel, rfl⟩
theorem dX5_copy_21 : dec cX5_copy 21 (.putfield 18) 3 24 := ⟨by decide +kernel, rfl⟩
theorem dX5_copy_24 : dec cX5_copy 24 (.aload_n 0) 1 25 := ⟨by decide +kernel, rfl⟩
theorem dX5_copy_25 : dec cX5_copy 25 (.aload_n 1) 1 26 := ⟨by decide +kernel, rfl⟩
theorem dX5_copy_26 : dec cX5_copy 26 (.getfield 22) 3 29 := ⟨by decide +kernel, rfl⟩
theorem dX5_copy_29 : dec cX5_copy 29 (.putfield 22) 3 32 := ⟨by decide +kernel, rfl⟩
theorem dX5_copy_32 : dec cX5_copy 32 (.aload_n 0) 1 33 := ⟨by decide +kernel, rfl⟩
theorem dX5_copy_33 : dec cX5_copy 33 (.aload_n 1) 1 34 := ⟨by decide +kernel, rfl⟩
theorem dX5_copy_34 : dec cX5_copy 34 (.getfield 25) 3 37 := ⟨by decide +kernel, rfl⟩
theorem dX5_copy_37 : dec cX5_copy 37 (.putfield 25) 3 40 := ⟨by decide +kernel, rfl⟩
theorem dX5_copy_40 : dec cX5_copy 40 (.aload_n 0) 1 41 := ⟨by decide +kernel, rfl⟩
theorem dX5_copy_41 : dec cX5_copy 41 (.aload_n 1) 1 42 := ⟨by decide +kernel, rfl⟩
theorem dX5_copy_42 : dec cX5_copy 42 (.getfield 28) 3 45 := ⟨by decide +kernel, rfl⟩
theorem dX5_copy_45 : dec cX5_copy 45 (.putfield 28) 3 48 := ⟨by decide +kernel, rfl⟩
theorem dX5_copy_48 : dec cX5_copy 48 (.aload_n 0) 1 49 := ⟨by decide +kernel, rfl⟩
theorem dX5_copy_49 : dec cX5_copy 49 (.aload_n 1) 1 50 := ⟨by decide +kernel, rfl⟩
theorem dX5_copy_50 : dec cX5_copy 50 (.getfield 31) 3 53 := ⟨by decide +kernel, rfl⟩
theorem dX5_copy_53 : dec cX5_copy 53 (.putfield 31) 3 56 := ⟨by decide +kernel, rfl⟩
theorem dX5_copy_56 : dec cX5_copy 56 (.aload_n 0) 1 57 := ⟨by decide +kernel, rfl⟩
theorem dX5_copy_57 : dec cX5_copy 57 (.aload_n 1) 1 58 := ⟨by decide +kernel, rfl⟩
theorem dX5_copy_58 : dec cX5_copy 58 (.getfield 34) 3 61 := ⟨by decide +kernel, rfl⟩
theorem dX5_copy_61 : dec cX5_copy 61 (.putfield 34) 3 64 := ⟨by decide +kernel, rfl⟩
theorem dX5_copy_64 : dec cX5_copy 64 .return_ 1 65 := ⟨by decide +kernel, rfl⟩
theorem dX5_stands_0 : dec cX5_stands 0 (.aload_n 0) 1 1 := ⟨by decide +kernel, rfl⟩
theorem dX5_stands_1 : dec cX5_stands 1 (.getfield 9) 3 4 := ⟨by decide +kernel, rfl⟩
theorem dX5_stands_4 : decJ cX5_stands 4 (.ifCond .eq) 3 7 18 := ⟨14, by decide +kernel, rfl, rfl⟩
theorem dX5_stands_7 : dec cX5_stands 7 (.aload_n 0) 1 8 := ⟨by decide +kernel, rfl⟩
theorem dX5_stands_8 : dec cX5_stands 8 (.getfield 15) 3 11 := ⟨by decide +kernel, rfl⟩
theorem dX5_stands_11 : decJ cX5_stands 11 (.ifCond .ne) 3 14 18 := ⟨7, by decide +kernel, rfl, rfl⟩
theorem dX5_stands_14 : dec cX5_stands 14 (.iconst 1) 1 15 := ⟨by decide +kernel, rfl⟩
theorem dX5_stands_15 : decJ cX5_stands 15 .goto 3 18 19 := ⟨4, by decide +kernel, rfl, rfl⟩
theorem dX5_stands_18 : dec cX5_stands 18 (.iconst 0) 1 19 := ⟨by decide +kernel, rfl⟩
theorem dX5_stands_19 : dec cX5_stands 19 .ireturn 1 20 := ⟨by decide +kernel, rfl⟩
theorem dX5_earn_0 : dec cX5_earn 0 (.aload_n 0) 1 1 := ⟨by decide +kernel, rfl⟩
theorem dX5_earn_1 : dec cX5_earn 1 (.sipush 999) 3 4 := ⟨by decide +kernel, rfl⟩
theorem dX5_earn_4 : dec cX5_earn 4 (.aload_n 0) 1 5 := ⟨by decide +kernel, rfl⟩
theorem dX5_earn_5 : dec cX5_earn 5 (.getfield 22) 3 8 := ⟨by decide +kernel, rfl⟩
theorem dX5_earn_8 : dec cX5_earn 8 (.aload_n 0) 1 9 := ⟨by decide +kernel, rfl⟩
theorem dX5_earn_9 : dec cX5_earn 9 (.getfield 25) 3 12 := ⟨by decide +kernel, rfl⟩
theorem dX5_earn_12 : dec cX5_earn 12 .iadd 1 13 := ⟨by decide +kernel, rfl⟩
theorem dX5_earn_13 : dec cX5_earn 13 (.invokestatic 37) 3 16 := ⟨by decide +kernel, rfl⟩
theorem dX5_earn_16 : dec cX5_earn 16 (.putfield 22) 3 19 := ⟨by decide +kernel, rfl⟩
theorem dX5_earn_19 : dec cX5_earn 19 .return_ 1 20 := ⟨by decide +kernel, rfl⟩
theorem dX5_build_0 : dec cX5_build 0 (.aload_n 0) 1 1 := ⟨by decide +kernel, rfl⟩
theorem dX5_build_1 : dec cX5_build 1 (.getfield 31) 3 4 := ⟨by decide +kernel, rfl⟩
theorem dX5_build_4 : dec cX5_build 4 (.iconst 3) 1 5 := ⟨by decide +kernel, rfl⟩
theorem dX5_build_5 : decJ cX5_build 5 (.if_icmp .ne) 3 8 45 := ⟨40, by decide +kernel, rfl, rfl⟩
theorem dX5_build_8 : dec cX5_build 8 (.aload_n 0) 1 9 := ⟨by decide +kernel, rfl⟩
theorem dX5_build_9 : dec cX5_build 9 (.getfield 22) 3 12 := ⟨by decide +kernel, rfl⟩
theorem dX5_build_12 : dec cX5_build 12 (.iload_n 1) 1 13 := ⟨by decide +kernel, rfl⟩
theorem dX5_build_13 : decJ cX5_build 13 (.if_icmp .lt) 3 16 45 := ⟨32, by decide +kernel, rfl, rfl⟩
theorem dX5_build_16 : dec cX5_build 16 (.aload_n 0) 1 17 := ⟨by decide +kernel, rfl⟩
theorem dX5_build_17 : dec cX5_build 17 (.getfield 28) 3 20 := ⟨by decide +kernel, rfl⟩
theorem dX5_build_20 : dec cX5_build 20 (.bipush 20) 2 22 := ⟨by decide +kernel, rfl⟩
theorem dX5_build_22 : decJ cX5_build 22 (.if_icmp .ge) 3 25 45 := ⟨23, by decide +kernel, rfl, rfl⟩
theorem dX5_build_25 : dec cX5_build 25 (.aload_n 0) 1 26 := ⟨by decide +kernel, rfl⟩
theorem dX5_build_26 : dec cX5_build 26 .dup 1 27 := ⟨by decide +kernel, rfl⟩
theorem dX5_build_27 : dec cX5_build 27 (.getfield 22) 3 30 := ⟨by decide +kernel, rfl⟩
theorem dX5_build_30 : dec cX5_build 30 (.iload_n 1) 1 31 := ⟨by decide +kernel, rfl⟩
theorem dX5_build_31 : dec cX5_build 31 .isub 1 32 := ⟨by decide +kernel, rfl⟩
theorem dX5_build_32 : dec cX5_build 32 (.putfield 22) 3 35 := ⟨by decide +kernel, rfl⟩
theorem dX5_build_35 : dec cX5_build 35 (.aload_n 0) 1 36 := ⟨by decide +kernel, rfl⟩
theorem dX5_build_36 : dec cX5_build 36 .dup 1 37 := ⟨by decide +kernel, rfl⟩
theorem dX5_build_37 : dec cX5_build 37 (.getfield 28) 3 40 := ⟨by decide +kernel, rfl⟩
theorem dX5_build_40 : dec cX5_build 40 (.iconst 1) 1 41 := ⟨by decide +kernel, rfl⟩
theorem dX5_build_41 : dec cX5_build 41 .iadd 1 42 := ⟨by decide +kernel, rfl⟩
theorem dX5_build_42 : dec cX5_build 42 (.putfield 28) 3 45 := ⟨by decide +kernel, rfl⟩
theorem dX5_build_45 : dec cX5_build 45 .return_ 1 46 := ⟨by decide +kernel, rfl⟩
theorem dX5_give_0 : dec cX5_give 0 (.aload_n 0) 1 1 := ⟨by decide +kernel, rfl⟩
theorem dX5_give_1 : dec cX5_give 1 .dup 1 2 := ⟨by decide +kernel, rfl⟩
theorem dX5_give_2 : dec cX5_give 2 (.getfield 22) 3 5 := ⟨by decide +kernel, rfl⟩
theorem dX5_give_5 : dec cX5_give 5 (.aload_n 0) 1 6 := ⟨by decide +kernel, rfl⟩
theorem dX5_give_6 : dec cX5_give 6 (.getfield 18) 3 9 := ⟨by decide +kernel, rfl⟩
theorem dX5_give_9 : dec cX5_give 9 (.iconst 2) 1 10 := ⟨by decide +kernel, rfl⟩
theorem dX5_give_10 : decJ cX5_give 10 (.if_icmp .ne) 3 13 21 := ⟨11, by decide +kernel, rfl, rfl⟩
theorem dX5_give_13 : dec cX5_give 13 (.iload_n 1) 1 14 := ⟨by decide +kernel, rfl⟩
theorem dX5_give_14 : dec cX5_give 14 (.iload_n 1) 1 15 := ⟨by decide +kernel, rfl⟩
theorem dX5_give_15 : dec cX5_give 15 (.iconst 2) 1 16 := ⟨by decide +kernel, rfl⟩
theorem dX5_give_16 : dec cX5_give 16 .idiv 1 17 := ⟨by decide +kernel, rfl⟩
theorem dX5_give_17 : dec cX5_give 17 .isub 1 18 := ⟨by decide +kernel, rfl⟩
theorem dX5_give_18 : decJ cX5_give 18 .goto 3 21 22 := ⟨4, by decide +kernel, rfl, rfl⟩
theorem dX5_give_21 : dec cX5_give 21 (.iload_n 1) 1 22 := ⟨by decide +kernel, rfl⟩
theorem dX5_give_22 : dec cX5_give 22 .isub 1 23 := ⟨by decide +kernel, rfl⟩
theorem dX5_give_23 : dec cX5_give 23 (.putfield 22) 3 26 := ⟨by decide +kernel, rfl⟩
theorem dX5_give_26 : dec cX5_give 26 (.aload_n 0) 1 27 := ⟨by decide +kernel, rfl⟩
theorem dX5_give_27 : dec cX5_give 27 .dup 1 28 := ⟨by decide +kernel, rfl⟩
theorem dX5_give_28 : dec cX5_give 28 (.getfield 34) 3 31 := ⟨by decide +kernel, rfl⟩
theorem dX5_give_31 : dec cX5_give 31 (.iload_n 1) 1 32 := ⟨by decide +kernel, rfl⟩
theorem dX5_give_32 : dec cX5_give 32 .iadd 1 33 := ⟨by decide +kernel, rfl⟩
theorem dX5_give_33 : dec cX5_give 33 (.putfield 34) 3 36 := ⟨by decide +kernel, rfl⟩
theorem dX5_give_36 : dec cX5_give 36 .return_ 1 37 := ⟨by decide +kernel, rfl⟩
theorem dX5_menHeldOff_0 : dec cX5_menHeldOff 0 (.aload_n 0) 1 1 := ⟨by decide +kernel, rfl⟩
theorem dX5_menHeldOff_1 : dec cX5_menHeldOff 1 (.getfield 28) 3 4 := ⟨by decide +kernel, rfl⟩
theorem dX5_menHeldOff_4 : dec cX5_menHeldOff 4 (.aload_n 0) 1 5 := ⟨by decide +kernel, rfl⟩
theorem dX5_menHeldOff_5 : dec cX5_menHeldOff 5 (.getfield 18) 3 8 := ⟨by decide +kernel, rfl⟩
theorem dX5_menHeldOff_8 : dec cX5_menHeldOff 8 (.iconst 1) 1 9 := ⟨by decide +kernel, rfl⟩
theorem dX5_menHeldOff_9 : decJ cX5_menHeldOff 9 (.if_icmp .ne) 3 12 17 := ⟨8, by decide +kernel, rfl, rfl⟩
theorem dX5_menHeldOff_12 : dec cX5_menHeldOff 12 (.bipush 6) 2 14 := ⟨by decide +kernel, rfl⟩
theorem dX5_menHeldOff_14 : decJ cX5_menHeldOff 14 .goto 3 17 18 := ⟨4, by decide +kernel, rfl, rfl⟩
theorem dX5_menHeldOff_17 : dec cX5_menHeldOff 17 (.iconst 5) 1 18 := ⟨by decide +kernel, rfl⟩
theorem dX5_menHeldOff_18 : dec cX5_menHeldOff 18 .imul 1 19 := ⟨by decide +kernel, rfl⟩
theorem dX5_menHeldOff_19 : dec cX5_menHeldOff 19 .ireturn 1 20 := ⟨by decide +kernel, rfl⟩
theorem dX0_init_0 : dec cX0_init 0 (.aload_n 0) 1 1 := ⟨by decide +kernel, rfl⟩
theorem dX0_init_1 : dec cX0_init 1 (.invokespecial 3) 3 4 := ⟨by decide +kernel, rfl⟩
theorem dX0_init_4 : dec cX0_init 4 (.aload_n 0) 1 5 := ⟨by decide +kernel, rfl⟩
theorem dX0_init_5 : dec cX0_init 5 (.bipush 6) 2 7 := ⟨by decide +kernel, rfl⟩
theorem dX0_init_7 : dec cX0_init 7 (.newarray .int) 2 9 := ⟨by decide +kernel, rfl⟩
theorem dX0_init_9 : dec cX0_init 9 (.putfield 9) 3 12 := ⟨by decide +kernel, rfl⟩
theorem dX0_init_12 : dec cX0_init 12 .return_ 1 13 := ⟨by decide +kernel, rfl⟩
theorem dX0_copy_0 : dec cX0_copy 0 (.aload_n 0) 1 1 := ⟨by decide +kernel, rfl⟩
theorem dX0_copy_1 : dec cX0_copy 1 (.aload_n 1) 1 2 := ⟨by decide +kernel, rfl⟩
theorem dX0_copy_2 : dec cX0_copy 2 (.getfield 15) 3 5 := ⟨by decide +kernel, rfl⟩
theorem dX0_copy_5 : dec cX0_copy 5 (.putfield 15) 3 8 := ⟨by decide +kernel, rfl⟩
theorem dX0_copy_8 : dec cX0_copy 8 (.aload_n 0) 1 9 := ⟨by decide +kernel, rfl⟩
theorem dX0_copy_9 : dec cX0_copy 9 (.aload_n 1) 1 10 := ⟨by decide +kernel, rfl⟩
theorem dX0_copy_10 : dec cX0_copy 10 (.getfield 19) 3 13 := ⟨by decide +kernel, rfl⟩
theorem dX0_copy_13 : dec cX0_copy 13 (.putfield 19) 3 16 := ⟨by decide +kernel, rfl⟩
theorem dX0_copy_16 : dec cX0_copy 16 (.aload_n 0) 1 17 := ⟨by decide +kernel, rfl⟩
theorem dX0_copy_17 : dec cX0_copy 17 (.aload_n 1) 1 18 := ⟨by decide +kernel, rfl⟩
theorem dX0_copy_18 : dec cX0_copy 18 (.getfield 22) 3 21 := ⟨by decide +kernel, rfl⟩
theorem dX0_copy_21 : dec cX0_copy 21 (.putfield 22) 3 24 := ⟨by decide +kernel, rfl⟩
theorem dX0_copy_24 : dec cX0_copy 24 (.aload_n 0) 1 25 := ⟨by decide +kernel, rfl⟩
theorem dX0_copy_25 : dec cX0_copy 25 (.aload_n 1) 1 26 := ⟨by decide +kernel, rfl⟩
theorem dX0_copy_26 : dec cX0_copy 26 (.getfield 26) 3 29 := ⟨by decide +kernel, rfl⟩
theorem dX0_copy_29 : dec cX0_copy 29 (.putfield 26) 3 32 := ⟨by decide +kernel, rfl⟩
theorem dX0_copy_32 : dec cX0_copy 32 (.iconst 0) 1 33 := ⟨by decide +kernel, rfl⟩
theorem dX0_copy_33 : dec cX0_copy 33 (.istore_n 2) 1 34 := ⟨by decide +kernel, rfl⟩
theorem dX0_copy_34 : dec cX0_copy 34 (.iload_n 2) 1 35 := ⟨by decide +kernel, rfl⟩
theorem dX0_copy_35 : dec cX0_copy 35 (.aload_n 0) 1 36 := ⟨by decide +kernel, rfl⟩
theorem dX0_copy_36 : dec cX0_copy 36 (.getfield 9) 3 39 := ⟨by decide +kernel, rfl⟩
theorem dX0_copy_39 : dec cX0_copy 39 .arraylength 1 40 := ⟨by decide +kernel, rfl⟩
theorem dX0_copy_40 : decJ cX0_copy 40 (.if_icmp .ge) 3 43 60 := ⟨20, by decide +kernel, rfl, rfl⟩
theorem dX0_copy_43 : dec cX0_copy 43 (.aload_n 0) 1 44 := ⟨by decide +kernel, rfl⟩
theorem dX0_copy_44 : dec cX0_copy 44 (.getfield 9) 3 47 := ⟨by decide +kernel, rfl⟩
theorem dX0_copy_47 : dec cX0_copy 47 (.iload_n 2) 1 48 := ⟨by decide +kernel, rfl⟩
theorem dX0_copy_48 : dec cX0_copy 48 (.aload_n 1) 1 49 := ⟨by decide +kernel, rfl⟩
theorem dX0_copy_49 : dec cX0_copy 49 (.iload_n 2) 1 50 := ⟨by decide +kernel, rfl⟩
theorem dX0_copy_50 : dec cX0_copy 50 (.invokevirtual 29) 3 53 := ⟨by decide +kernel, rfl⟩
theorem dX0_copy_53 : dec cX0_copy 53 .iastore 1 54 := ⟨by decide +kernel, rfl⟩
theorem dX0_copy_54 : dec cX0_copy 54 (.iinc 2 1) 3 57 := ⟨by decide +kernel, rfl⟩
theorem dX0_copy_57 : decJ cX0_copy 57 .goto 3 60 34 := ⟨-23, by decide +kernel, rfl, rfl⟩
theorem dX0_copy_60 : dec cX0_copy 60 .return_ 1 61 := ⟨by decide +kernel, rfl⟩
theorem dX0_sails_0 : dec cX0_sails 0 (.aload_n 0) 1 1 := ⟨by decide +kernel, rfl⟩
theorem dX0_sails_1 : dec cX0_sails 1 (.getfield 15) 3 4 := ⟨by decide +kernel, rfl⟩
theorem dX0_sails_4 : decJ cX0_sails 4 (.ifCond .eq) 3 7 18 := ⟨14, by decide +kernel, rfl, rfl⟩
theorem dX0_sails_7 : dec cX0_sails 7 (.aload_n 0) 1 8 := ⟨by decide +kernel, rfl⟩
theorem dX0_sails_8 : dec cX0_sails 8 (.getfield 19) 3 11 := ⟨by decide +kernel, rfl⟩
theorem dX0_sails_11 : decJ cX0_sails 11 (.ifCond .ne) 3 14 18 := ⟨7, by decide +kernel, rfl, rfl⟩
theorem dX0_sails_14 : dec cX0_sails 14 (.iconst 1) 1 15 := ⟨by decide +kernel, rfl⟩
theorem dX0_sails_15 : decJ cX0_sails 15 .goto 3 18 19 := ⟨4, by decide +kernel, rfl, rfl⟩
theorem dX0_sails_18 : dec cX0_sails 18 (.iconst 0) 1 19 := ⟨by decide +kernel, rfl⟩
theorem dX0_sails_19 : dec cX0_sails 19 .ireturn 1 20 := ⟨by decide +kernel, rfl⟩
theorem dX0_beliefOf_0 : dec cX0_beliefOf 0 (.iload_n 1) 1 1 := ⟨by decide +kernel, rfl⟩
theorem dX0_beliefOf_1 : decJ cX0_beliefOf 1 (.ifCond .lt) 3 4 22 := ⟨21, by decide +kernel, rfl, rfl⟩
theorem dX0_beliefOf_4 : dec cX0_beliefOf 4 (.iload_n 1) 1 5 := ⟨by decide +kernel, rfl⟩
theorem dX0_beliefOf_5 : dec cX0_beliefOf 5 (.aload_n 0) 1 6 := ⟨by decide +kernel, rfl⟩
theorem dX0_beliefOf_6 : dec cX0_beliefOf 6 (.getfield 9) 3 9 := ⟨by decide +kernel, rfl⟩
theorem dX0_beliefOf_9 : dec cX0_beliefOf 9 .arraylength 1 10 := ⟨by decide +kernel, rfl⟩
theorem dX0_beliefOf_10 : decJ cX0_beliefOf 10 (.if_icmp .ge) 3 13 22 := ⟨12, by decide +kernel, rfl, rfl⟩
theorem dX0_beliefOf_13 : dec cX0_beliefOf 13 (.aload_n 0) 1 14 := ⟨by decide +kernel, rfl⟩
theorem dX0_beliefOf_14 : dec cX0_beliefOf 14 (.getfield 9) 3 17 := ⟨by decide +kernel, rfl⟩
theorem dX0_beliefOf_17 : dec cX0_beliefOf 17 (.iload_n 1) 1 18 := ⟨by decide +kernel, rfl⟩
theorem dX0_beliefOf_18 : dec cX0_beliefOf 18 .iaload 1 19 := ⟨by decide +kernel, rfl⟩
theorem dX0_beliefOf_19 : decJ cX0_beliefOf 19 .goto 3 22 23 := ⟨4, by decide +kernel, rfl, rfl⟩
theorem dX0_beliefOf_22 : dec cX0_beliefOf 22 (.iconst 0) 1 23 := ⟨by decide +kernel, rfl⟩
theorem dX0_beliefOf_23 : dec cX0_beliefOf 23 .ireturn 1 24 := ⟨by decide +kernel, rfl⟩
theorem dX0_believe_0 : dec cX0_believe 0 (.iload_n 1) 1 1 := ⟨by decide +kernel, rfl⟩
theorem dX0_believe_1 : decJ cX0_believe 1 (.ifCond .lt) 3 4 20 := ⟨19, by decide +kernel, rfl, rfl⟩
theorem dX0_believe_4 : dec cX0_believe 4 (.iload_n 1) 1 5 := ⟨by decide +kernel, rfl⟩
theorem dX0_believe_5 : dec cX0_believe 5 (.aload_n 0) 1 6 := ⟨by decide +kernel, rfl⟩
theorem dX0_believe_6 : dec cX0_believe 6 (.getfield 9) 3 9 := ⟨by decide +kernel, rfl⟩
theorem dX0_believe_9 : dec cX0_believe 9 .arraylength 1 10 := ⟨by decide +kernel, rfl⟩
theorem dX0_believe_10 : decJ cX0_believe 10 (.if_icmp .ge) 3 13 20 := ⟨10, by decide +kernel, rfl, rfl⟩
theorem dX0_believe_13 : dec cX0_believe 13 (.aload_n 0) 1 14 := ⟨by decide +kernel, rfl⟩
theorem dX0_believe_14 : dec cX0_believe 14 (.getfield 9) 3 17 := ⟨by decide +kernel, rfl⟩
theorem dX0_believe_17 : dec cX0_believe 17 (.iload_n 1) 1 18 := ⟨by decide +kernel, rfl⟩
theorem dX0_believe_18 : dec cX0_believe 18 (.iload_n 2) 1 19 := ⟨by decide +kernel, rfl⟩
theorem dX0_believe_19 : dec cX0_believe 19 .iastore 1 20 := ⟨by decide +kernel, rfl⟩
theorem dX0_believe_20 : dec cX0_believe 20 .return_ 1 21 := ⟨by decide +kernel, rfl⟩
theorem dX0_wouldAsk_0 : dec cX0_wouldAsk 0 (.aload_n 0) 1 1 := ⟨by decide +kernel, rfl⟩
theorem dX0_wouldAsk_1 : dec cX0_wouldAsk 1 (.getfield 26) 3 4 := ⟨by decide +kernel, rfl⟩
theorem dX0_wouldAsk_4 : dec cX0_wouldAsk 4 (.aload_n 0) 1 5 := ⟨by decide +kernel, rfl⟩
theorem dX0_wouldAsk_5 : dec cX0_wouldAsk 5 (.iload_n 2) 1 6 := ⟨by decide +kernel, rfl⟩
theorem dX0_wouldAsk_6 : dec cX0_wouldAsk 6 (.invokevirtual 29) 3 9 := ⟨by decide +kernel, rfl⟩
theorem dX0_wouldAsk_9 : dec cX0_wouldAsk 9 (.iconst 2) 1 10 := ⟨by decide +kernel, rfl⟩
theorem dX0_wouldAsk_10 : dec cX0_wouldAsk 10 .idiv 1 11 := ⟨by decide +kernel, rfl⟩
theorem dX0_wouldAsk_11 : dec cX0_wouldAsk 11 (.invokestatic 33) 3 14 := ⟨by decide +kernel, rfl⟩
theorem dX0_wouldAsk_14 : dec cX0_wouldAsk 14 (.istore_n 3) 1 15 := ⟨by decide +kernel, rfl⟩
theorem dX0_wouldAsk_15 : dec cX0_wouldAsk 15 (.aload_n 1) 1 16 := ⟨by decide +kernel, rfl⟩
theorem dX0_wouldAsk_16 : dec cX0_wouldAsk 16 (.getfield 39) 3 19 := ⟨by decide +kernel, rfl⟩
theorem dX0_wouldAsk_19 : dec cX0_wouldAsk 19 (.iconst 3) 1 20 := ⟨by decide +kernel, rfl⟩
theorem dX0_wouldAsk_20 : decJ cX0_wouldAsk 20 (.if_icmp .ne) 3 23 29 := ⟨9, by decide +kernel, rfl, rfl⟩
theorem dX0_wouldAsk_23 : dec cX0_wouldAsk 23 (.iload_n 3) 1 24 := ⟨by decide +kernel, rfl⟩
theorem dX0_wouldAsk_24 : dec cX0_wouldAsk 24 (.iconst 2) 1 25 := ⟨by decide +kernel, rfl⟩
theorem dX0_wouldAsk_25 : dec cX0_wouldAsk 25 .idiv 1 26 := ⟨by decide +kernel, rfl⟩
theorem dX0_wouldAsk_26 : decJ cX0_wouldAsk 26 .goto 3 29 30 := ⟨4, by decide +kernel, rfl, rfl⟩
theorem dX0_wouldAsk_29 : dec cX0_wouldAsk 29 (.iload_n 3) 1 30 := ⟨by decide +kernel, rfl⟩
theorem dX0_wouldAsk_30 : dec cX0_wouldAsk 30 .ireturn 1 31 := ⟨by decide +kernel, rfl⟩
theorem dX0_takePay_0 : dec cX0_takePay 0 (.aload_n 1) 1 1 := ⟨by decide +kernel, rfl⟩
theorem dX0_takePay_1 : dec cX0_takePay 1 (.iload_n 3) 1 2 := ⟨by decide +kernel, rfl⟩
theorem dX0_takePay_2 : dec cX0_takePay 2 (.invokevirtual 44) 3 5 := ⟨by decide +kernel, rfl⟩
theorem dX0_takePay_5 : dec cX0_takePay 5 (.aload_n 0) 1 6 := ⟨by decide +kernel, rfl⟩
theorem dX0_takePay_6 : dec cX0_takePay 6 .dup 1 7 := ⟨by decide +kernel, rfl⟩
theorem dX0_takePay_7 : dec cX0_takePay 7 (.getfield 48) 3 10 := ⟨by decide +kernel, rfl⟩
theorem dX0_takePay_10 : dec cX0_takePay 10 (.iload_n 3) 1 11 := ⟨by decide +kernel, rfl⟩
theorem dX0_takePay_11 : dec cX0_takePay 11 .iadd 1 12 := ⟨by decide +kernel, rfl⟩
theorem dX0_takePay_12 : dec cX0_takePay 12 (.putfield 48) 3 15 := ⟨by decide +kernel, rfl⟩
theorem dX0_takePay_15 : dec cX0_takePay 15 (.aload_n 0) 1 16 := ⟨by decide +kernel, rfl⟩
theorem dX0_takePay_16 : dec cX0_takePay 16 (.iload_n 2) 1 17 := ⟨by decide +kernel, rfl⟩
theorem dX0_takePay_17 : dec cX0_takePay 17 (.iconst 2) 1 18 := ⟨by decide +kernel, rfl⟩
theorem dX0_takePay_18 : dec cX0_takePay 18 (.iload_n 3) 1 19 := ⟨by decide +kernel, rfl⟩
theorem dX0_takePay_19 : dec cX0_takePay 19 .imul 1 20 := ⟨by decide +kernel, rfl⟩
theorem dX0_takePay_20 : dec cX0_takePay 20 (.invokevirtual 51) 3 23 := ⟨by decide +kernel, rfl⟩
theorem dX0_takePay_23 : dec cX0_takePay 23 .return_ 1 24 := ⟨by decide +kernel, rfl⟩
theorem dX0_burn_0 : dec cX0_burn 0 (.aload_n 0) 1 1 := ⟨by decide +kernel, rfl⟩
theorem dX0_burn_1 : dec cX0_burn 1 .dup 1 2 := ⟨by decide +kernel, rfl⟩
theorem dX0_burn_2 : dec cX0_burn 2 (.getfield 48) 3 5 := ⟨by decide +kernel, rfl⟩
theorem dX0_burn_5 : dec cX0_burn 5 (.aload_n 1) 1 6 := ⟨by decide +kernel, rfl⟩
theorem dX0_burn_6 : dec cX0_burn 6 (.getfield 55) 3 9 := ⟨by decide +kernel, rfl⟩
theorem dX0_burn_9 : dec cX0_burn 9 .iadd 1 10 := ⟨by decide +kernel, rfl⟩
theorem dX0_burn_10 : dec cX0_burn 10 (.putfield 48) 3 13 := ⟨by decide +kernel, rfl⟩
theorem dX0_burn_13 : dec cX0_burn 13 (.aload_n 1) 1 14 := ⟨by decide +kernel, rfl⟩
theorem dX0_burn_14 : dec cX0_burn 14 (.iconst 0) 1 15 := ⟨by decide +kernel, rfl⟩
theorem dX0_burn_15 : dec cX0_burn 15 (.putfield 55) 3 18 := ⟨by decide +kernel, rfl⟩
theorem dX0_burn_18 : dec cX0_burn 18 (.aload_n 1) 1 19 := ⟨by decide +kernel, rfl⟩
theorem dX0_burn_19 : dec cX0_burn 19 (.iconst 1) 1 20 := ⟨by decide +kernel, rfl⟩
theorem dX0_burn_20 : dec cX0_burn 20 (.putfield 58) 3 23 := ⟨by decide +kernel, rfl⟩
theorem dX0_burn_23 : dec cX0_burn 23 (.aload_n 0) 1 24 := ⟨by decide +kernel, rfl⟩
theorem dX0_burn_24 : dec cX0_burn 24 (.iload_n 2) 1 25 := ⟨by decide +kernel, rfl⟩
theorem dX0_burn_25 : dec cX0_burn 25 (.iconst 0) 1 26 := ⟨by decide +kernel, rfl⟩
theorem dX0_burn_26 : dec cX0_burn 26 (.invokevirtual 51) 3 29 := ⟨by decide +kernel, rfl⟩
theorem dX0_burn_29 : dec cX0_burn 29 .return_ 1 30 := ⟨by decide +kernel, rfl⟩
theorem dX0_goHome_0 : dec cX0_goHome 0 (.aload_n 0) 1 1 := ⟨by decide +kernel, rfl⟩
theorem dX0_goHome_1 : dec cX0_goHome 1 (.aload_n 0) 1 2 := ⟨by decide +kernel, rfl⟩
theorem dX0_goHome_2 : dec cX0_goHome 2 (.getfield 48) 3 5 := ⟨by decide +kernel, rfl⟩
theorem dX0_goHome_5 : dec cX0_goHome 5 (.bipush 10) 2 7 := ⟨by decide +kernel, rfl⟩
theorem dX0_goHome_7 : dec cX0_goHome 7 .idiv 1 8 := ⟨by decide +kernel, rfl⟩
theorem dX0_goHome_8 : dec cX0_goHome 8 (.invokevirtual 61) 3 11 := ⟨by decide +kernel, rfl⟩
theorem dX0_goHome_11 : dec cX0_goHome 11 (.aload_n 0) 1 12 := ⟨by decide +kernel, rfl⟩
theorem dX0_goHome_12 : dec cX0_goHome 12 (.iconst 0) 1 13 := ⟨by decide +kernel, rfl⟩
theorem dX0_goHome_13 : dec cX0_goHome 13 (.putfield 48) 3 16 := ⟨by decide +kernel, rfl⟩
theorem dX0_goHome_16 : dec cX0_goHome 16 .return_ 1 17 := ⟨by decide +kernel, rfl⟩
theorem dX0_grow_0 : dec cX0_grow 0 (.aload_n 0) 1 1 := ⟨by decide +kernel, rfl⟩
theorem dX0_grow_1 : dec cX0_grow 1 (.bipush 99) 2 3 := ⟨by decide +kernel, rfl⟩
theorem dX0_grow_3 : dec cX0_grow 3 (.aload_n 0) 1 4 := ⟨by decide +kernel, rfl⟩
theorem dX0_grow_4 : dec cX0_grow 4 (.getfield 22) 3 7 := ⟨by decide +kernel, rfl⟩
theorem dX0_grow_7 : dec cX0_grow 7 (.iload_n 1) 1 8 := ⟨by decide +kernel, rfl⟩
theorem dX0_grow_8 : dec cX0_grow 8 .iadd 1 9 := ⟨by decide +kernel, rfl⟩
theorem dX0_grow_9 : dec cX0_grow 9 (.invokestatic 64) 3 12 := ⟨by decide +kernel, rfl⟩
theorem dX0_grow_12 : dec cX0_grow 12 (.putfield 22) 3 15 := ⟨by decide +kernel, rfl⟩
theorem dX0_grow_15 : dec cX0_grow 15 .return_ 1 16 := ⟨by decide +kernel, rfl⟩
theorem dX0_fightLosing_0 : dec cX0_fightLosing 0 (.aload_n 0) 1 1 := ⟨by decide +kernel, rfl⟩
theorem dX0_fightLosing_1 : dec cX0_fightLosing 1 .dup 1 2 := ⟨by decide +kernel, rfl⟩
theorem dX0_fightLosing_2 : dec cX0_fightLosing 2 (.getfield 22) 3 5 := ⟨by decide +kernel, rfl⟩
theorem dX0_fightLosing_5 : dec cX0_fightLosing 5 (.iload_n 1) 1 6 := ⟨by decide +kernel, rfl⟩
theorem dX0_fightLosing_6 : dec cX0_fightLosing 6 .isub 1 7 := ⟨by decide +kernel, rfl⟩
theorem dX0_fightLosing_7 : dec cX0_fightLosing 7 (.putfield 22) 3 10 := ⟨by decide +kernel, rfl⟩
theorem dX0_fightLosing_10 : dec cX0_fightLosing 10 (.aload_n 0) 1 11 := ⟨by decide +kernel, rfl⟩
theorem dX0_fightLosing_11 : dec cX0_fightLosing 11 (.aload_n 0) 1 12 := ⟨by decide +kernel, rfl⟩
theorem dX0_fightLosing_12 : dec cX0_fightLosing 12 (.getfield 22) 3 15 := ⟨by decide +kernel, rfl⟩
theorem dX0_fightLosing_15 : decJ cX0_fightLosing 15 (.ifCond .gt) 3 18 22 := ⟨7, by decide +kernel, rfl, rfl⟩
theorem dX0_fightLosing_18 : dec cX0_fightLosing 18 (.iconst 1) 1 19 := ⟨by decide +kernel, rfl⟩
theorem dX0_fightLosing_19 : decJ cX0_fightLosing 19 .goto 3 22 23 := ⟨4, by decide +kernel, rfl, rfl⟩
theorem dX0_fightLosing_22 : dec cX0_fightLosing 22 (.iconst 0) 1 23 := ⟨by decide +kernel, rfl⟩
theorem dX0_fightLosing_23 : dec cX0_fightLosing 23 (.putfield 19) 3 26 := ⟨by decide +kernel, rfl⟩
theorem dX0_fightLosing_26 : dec cX0_fightLosing 26 .return_ 1 27 := ⟨by decide +kernel, rfl⟩
def d_X5_stands (R_t : Nat → Nat → Int32) : Int32 :=
  if (R_t 0 0) = 0 then
    (0 : Int32)
  else
    if (R_t 0 1) = 0 then
      (1 : Int32)
    else
      (0 : Int32)
set_option maxHeartbeats 4000000 in
set_option maxRecDepth 100000 in
theorem c_X5_stands (l : Launch) (D : DD) (o_t : Nat) (R_t : Nat → Nat → Int32)  (res : Int32) (hres : res = d_X5_stands R_t) : Mt l D yX5_stands cX5_stands 1 (some .boolean) 0 0 0 0 [.ref o_t] (fun H => blk D ksTown o_t R_t H) (fun v H => v = some (.int res) ∧ bl res) fp0 := by
  refine mt_of (own := RX5) (ls := [.val (.ref o_t)]) rfl (by decide +kernel) rfl ?_
  intro x H C hP
  have hb_t := hP
  refine r_aload_n C dX5_stands_0 rfl ?_
  refine r_get C hb_t (k := 0) rfl rfl celO_5 fw_X5_9 (z := .int (R_t 0 0)) rfl dX5_stands_1 ?_
  refine r_if_eq C dX5_stands_4 (fun c1 => ?_) (fun c1 => ?_)
  · skip
    refine r_iconst C dX5_stands_18 (0 : Int32) (by decide) ?_
    refine r_zret C dX5_stands_19 (Or.inl rfl) ?_
    have er : res = (0 : Int32) := by rw [hres, d_X5_stands]; try exact (if_pos c1).trans (rfl)
    rw [er]
    exact ⟨rfl, (Or.inl rfl)⟩
  · skip
    refine r_aload_n C dX5_stands_7 rfl ?_
    refine r_get C hb_t (k := 0) rfl rfl celO_5 fw_X5_15 (z := .int (R_t 0 1)) rfl dX5_stands_8 ?_
    refine r_if_ne C dX5_stands_11 (fun c2 => ?_) (fun c2 => ?_)
    · skip
      refine r_iconst C dX5_stands_18 (0 : Int32) (by decide) ?_
      refine r_zret C dX5_stands_19 (Or.inl rfl) ?_
      have er : res = (0 : Int32) := by rw [hres, d_X5_stands]; try exact (if_neg c1).trans ((if_neg c2).trans (rfl))
      rw [er]
      exact ⟨rfl, (Or.inl rfl)⟩
    · skip
      refine r_iconst C dX5_stands_14 (1 : Int32) (by decide) ?_
      refine r_goto C dX5_stands_15 ?_
      refine r_zret C dX5_stands_19 (Or.inr rfl) ?_
      have er : res = (1 : Int32) := by rw [hres, d_X5_stands]; try exact (if_neg c1).trans ((if_pos c2).trans (rfl))
      rw [er]
      exact ⟨rfl, (Or.inr rfl)⟩

def d_X5_earn (R_t : Nat → Nat → Int32) : (Nat → Nat → Int32) :=
  (pt R_t 0 3 (imin (999 : Int32) ((R_t 0 3) + (R_t 0 4))))
set_option maxHeartbeats 4000000 in
set_option maxRecDepth 100000 in
theorem c_X5_earn (l : Launch) (D : DD) (o_t : Nat) (R_t : Nat → Nat → Int32)  (res : (Nat → Nat → Int32)) (hres : res = d_X5_earn R_t) : Mt l D yX5_earn cX5_earn 1 none 1 21 0 0 [.ref o_t] (fun H => blk D ksTown o_t R_t H) (fun v H => v = none ∧ blk D ksTown o_t res H) (fp1 o_t 1) := by
  refine mt_of (own := RX5) (ls := [.val (.ref o_t)]) rfl (by decide +kernel) rfl ?_
  intro x H C hP
  have hb_t := hP
  refine r_aload_n C dX5_earn_0 rfl ?_
  refine r_sipush C dX5_earn_1 (999 : Int32) (by decide) ?_
  refine r_aload_n C dX5_earn_4 rfl ?_
  refine r_get C hb_t (k := 0) rfl rfl celO_5 fw_X5_22 (z := .int (R_t 0 3)) rfl dX5_earn_5 ?_
  refine r_aload_n C dX5_earn_8 rfl ?_
  refine r_get C hb_t (k := 0) rfl rfl celO_5 fw_X5_25 (z := .int (R_t 0 4)) rfl dX5_earn_9 ?_
  refine r_iadd C dX5_earn_12 ?_
  refine r_mmin C mw_X5_37 rfl ⟨Nat.le_of_ble_eq_true rfl, Nat.le_of_ble_eq_true rfl, Nat.le_refl 0, Nat.le_refl 0⟩ dX5_earn_13 ?_
  refine r_put C hb_t (k := 0) rfl rfl (by unfold fp1; omega) fw_X5_22 fp_5_3 (Or.inr rfl) dX5_earn_16 (fun H1 hb3 hq2 => ?_)
  refine r_vret C dX5_earn_19 ?_
  have er : res = (pt R_t 0 3 (imin (999 : Int32) ((R_t 0 3) + (R_t 0 4)))) := by rw [hres, d_X5_earn]; try exact rfl
  rw [er]
  exact ⟨rfl, hb3⟩

def d_X5_build (R_t : Nat → Nat → Int32) (cost : Int32) : (Nat → Nat → Int32) :=
  if (R_t 0 6) = (3 : Int32) then
    if (R_t 0 3) < cost then
      R_t
    else
      if (20 : Int32) ≤ (R_t 0 5) then
        R_t
      else
        (pt (pt R_t 0 3 ((R_t 0 3) - cost)) 0 5 ((R_t 0 5) + (1 : Int32)))
  else
    R_t
set_option maxHeartbeats 4000000 in
set_option maxRecDepth 100000 in
theorem c_X5_build (l : Launch) (D : DD) (o_t : Nat) (R_t : Nat → Nat → Int32) (cost : Int32)  (res : (Nat → Nat → Int32)) (hres : res = d_X5_build R_t cost) : Mt l D yX5_build cX5_build 2 none 0 0 0 0 [.ref o_t, .int cost] (fun H => blk D ksTown o_t R_t H) (fun v H => v = none ∧ blk D ksTown o_t res H) (fp1 o_t 1) := by
  refine mt_of (own := RX5) (ls := [.val (.ref o_t), .val (.int cost)]) rfl (by decide +kernel) rfl ?_
  intro x H C hP
  have hb_t := hP
  refine r_aload_n C dX5_build_0 rfl ?_
  refine r_get C hb_t (k := 0) rfl rfl celO_5 fw_X5_31 (z := .int (R_t 0 6)) rfl dX5_build_1 ?_
  refine r_iconst C dX5_build_4 (3 : Int32) (by decide) ?_
  refine r_ic_ne C dX5_build_5 (fun c1 => ?_) (fun c1 => ?_)
  · skip
    refine r_vret C dX5_build_45 ?_
    have er : res = R_t := by rw [hres, d_X5_build]; try exact (if_neg c1).trans (rfl)
    rw [er]
    exact ⟨rfl, hb_t⟩
  · skip
    refine r_aload_n C dX5_build_8 rfl ?_
    refine r_get C hb_t (k := 0) rfl rfl celO_5 fw_X5_22 (z := .int (R_t 0 3)) rfl dX5_build_9 ?_
    refine r_iload_n C dX5_build_12 rfl ?_
    refine r_ic_lt C dX5_build_13 (fun c2 => ?_) (fun c2 => ?_)
    · skip
      refine r_vret C dX5_build_45 ?_
      have er : res = R_t := by rw [hres, d_X5_build]; try exact (if_pos c1).trans ((if_pos c2).trans (rfl))
      rw [er]
      exact ⟨rfl, hb_t⟩
    · skip
      refine r_aload_n C dX5_build_16 rfl ?_
      refine r_get C hb_t (k := 0) rfl rfl celO_5 fw_X5_28 (z := .int (R_t 0 5)) rfl dX5_build_17 ?_
      refine r_bipush C dX5_build_20 (20 : Int32) (by decide) ?_
      refine r_ic_ge C dX5_build_22 (fun c3 => ?_) (fun c3 => ?_)
      · skip
        refine r_vret C dX5_build_45 ?_
        have er : res = R_t := by rw [hres, d_X5_build]; try exact (if_pos c1).trans ((if_neg c2).trans ((if_pos c3).trans (rfl)))
        rw [er]
        exact ⟨rfl, hb_t⟩
      · skip
        refine r_aload_n C dX5_build_25 rfl ?_
        refine r_dup C dX5_build_26 rfl ?_
        refine r_get C hb_t (k := 0) rfl rfl celO_5 fw_X5_22 (z := .int (R_t 0 3)) rfl dX5_build_27 ?_
        refine r_iload_n C dX5_build_30 rfl ?_
        refine r_isub C dX5_build_31 ?_
        refine r_put C hb_t (k := 0) rfl rfl (by unfold fp1; omega) fw_X5_22 fp_5_3 (Or.inr rfl) dX5_build_32 (fun H4 hb6 hq5 => ?_)
        refine r_aload_n C dX5_build_35 rfl ?_
        refine r_dup C dX5_build_36 rfl ?_
        refine r_get C hb6 (k := 0) rfl rfl celO_5 fw_X5_28 (z := .int (R_t 0 5)) rfl dX5_build_37 ?_
        refine r_iconst C dX5_build_40 (1 : Int32) (by decide) ?_
        refine r_iadd C dX5_build_41 ?_
        refine r_put C hb6 (k := 0) rfl rfl (by unfold fp1; omega) fw_X5_28 fp_5_5 (Or.inr rfl) dX5_build_42 (fun H7 hb9 hq8 => ?_)
        refine r_vret C dX5_build_45 ?_
        have er : res = (pt (pt R_t 0 3 ((R_t 0 3) - cost)) 0 5 ((R_t 0 5) + (1 : Int32))) := by rw [hres, d_X5_build]; try exact (if_pos c1).trans ((if_neg c2).trans ((if_neg c3).trans (rfl)))
        rw [er]
        exact ⟨rfl, hb9⟩

def d_X5_give (R_t : Nat → Nat → Int32) (asked : Int32) : (Nat → Nat → Int32) :=
  if (R_t 0 2) = (2 : Int32) then
    (pt (pt R_t 0 3 ((R_t 0 3) - (asked - (asked / (2 : Int32))))) 0 7 ((R_t 0 7) + asked))
  else
    (pt (pt R_t 0 3 ((R_t 0 3) - asked)) 0 7 ((R_t 0 7) + asked))
set_option maxHeartbeats 4000000 in
set_option maxRecDepth 100000 in
theorem c_X5_give (l : Launch) (D : DD) (o_t : Nat) (R_t : Nat → Nat → Int32) (asked : Int32)  (res : (Nat → Nat → Int32)) (hres : res = d_X5_give R_t asked) : Mt l D yX5_give cX5_give 2 none 0 0 0 0 [.ref o_t, .int asked] (fun H => blk D ksTown o_t R_t H) (fun v H => v = none ∧ blk D ksTown o_t res H) (fp1 o_t 1) := by
  refine mt_of (own := RX5) (ls := [.val (.ref o_t), .val (.int asked)]) rfl (by decide +kernel) rfl ?_
  intro x H C hP
  have hb_t := hP
  refine r_aload_n C dX5_give_0 rfl ?_
  refine r_dup C dX5_give_1 rfl ?_
  refine r_get C hb_t (k := 0) rfl rfl celO_5 fw_X5_22 (z := .int (R_t 0 3)) rfl dX5_give_2 ?_
  refine r_aload_n C dX5_give_5 rfl ?_
  refine r_get C hb_t (k := 0) rfl rfl celO_5 fw_X5_18 (z := .int (R_t 0 2)) rfl dX5_give_6 ?_
  refine r_iconst C dX5_give_9 (2 : Int32) (by decide) ?_
  refine r_ic_ne C dX5_give_10 (fun c1 => ?_) (fun c1 => ?_)
  · skip
    refine r_iload_n C dX5_give_21 rfl ?_
    refine r_isub C dX5_give_22 ?_
    refine r_put C hb_t (k := 0) rfl rfl (by unfold fp1; omega) fw_X5_22 fp_5_3 (Or.inr rfl) dX5_give_23 (fun H2 hb4 hq3 => ?_)
    refine r_aload_n C dX5_give_26 rfl ?_
    refine r_dup C dX5_give_27 rfl ?_
    refine r_get C hb4 (k := 0) rfl rfl celO_5 fw_X5_34 (z := .int (R_t 0 7)) rfl dX5_give_28 ?_
    refine r_iload_n C dX5_give_31 rfl ?_
    refine r_iadd C dX5_give_32 ?_
    refine r_put C hb4 (k := 0) rfl rfl (by unfold fp1; omega) fw_X5_34 fp_5_7 (Or.inr rfl) dX5_give_33 (fun H5 hb7 hq6 => ?_)
    refine r_vret C dX5_give_36 ?_
    have er : res = (pt (pt R_t 0 3 ((R_t 0 3) - asked)) 0 7 ((R_t 0 7) + asked)) := by rw [hres, d_X5_give]; try exact (if_neg c1).trans (rfl)
    rw [er]
    exact ⟨rfl, hb7⟩
  · skip
    refine r_iload_n C dX5_give_13 rfl ?_
    refine r_iload_n C dX5_give_14 rfl ?_
    refine r_iconst C dX5_give_15 (2 : Int32) (by decide) ?_
    refine r_idiv C dX5_give_16 (by decide) ?_
    refine r_isub C dX5_give_17 ?_
    refine r_goto C dX5_give_18 ?_
    refine r_isub C dX5_give_22 ?_
    refine r_put C hb_t (k := 0) rfl rfl (by unfold fp1; omega) fw_X5_22 fp_5_3 (Or.inr rfl) dX5_give_23 (fun H8 hb10 hq9 => ?_)
    refine r_aload_n C dX5_give_26 rfl ?_
    refine r_dup C dX5_give_27 rfl ?_
    refine r_get C hb10 (k := 0) rfl rfl celO_5 fw_X5_34 (z := .int (R_t 0 7)) rfl dX5_give_28 ?_
    refine r_iload_n C dX5_give_31 rfl ?_
    refine r_iadd C dX5_give_32 ?_
    refine r_put C hb10 (k := 0) rfl rfl (by unfold fp1; omega) fw_X5_34 fp_5_7 (Or.inr rfl) dX5_give_33 (fun H11 hb13 hq12 => ?_)
    refine r_vret C dX5_give_36 ?_
    have er : res = (pt (pt R_t 0 3 ((R_t 0 3) - (asked - (asked / (2 : Int32))))) 0 7 ((R_t 0 7) + asked)) := by rw [hres, d_X5_give]; try exact (if_pos c1).trans (rfl)
    rw [er]
    exact ⟨rfl, hb13⟩

def d_X5_menHeldOff (R_t : Nat → Nat → Int32) : Int32 :=
  if (R_t 0 2) = (1 : Int32) then
    ((R_t 0 5) * (6 : Int32))
  else
    ((R_t 0 5) * (5 : Int32))
set_option maxHeartbeats 4000000 in
set_option maxRecDepth 100000 in
theorem c_X5_menHeldOff (l : Launch) (D : DD) (o_t : Nat) (R_t : Nat → Nat → Int32)  (res : Int32) (hres : res = d_X5_menHeldOff R_t) : Mt l D yX5_menHeldOff cX5_menHeldOff 1 (some .int) 0 0 0 0 [.ref o_t] (fun H => blk D ksTown o_t R_t H) (fun v H => v = some (.int res)) fp0 := by
  refine mt_of (own := RX5) (ls := [.val (.ref o_t)]) rfl (by decide +kernel) rfl ?_
  intro x H C hP
  have hb_t := hP
  refine r_aload_n C dX5_menHeldOff_0 rfl ?_
  refine r_get C hb_t (k := 0) rfl rfl celO_5 fw_X5_28 (z := .int (R_t 0 5)) rfl dX5_menHeldOff_1 ?_
  refine r_aload_n C dX5_menHeldOff_4 rfl ?_
  refine r_get C hb_t (k := 0) rfl rfl celO_5 fw_X5_18 (z := .int (R_t 0 2)) rfl dX5_menHeldOff_5 ?_
  refine r_iconst C dX5_menHeldOff_8 (1 : Int32) (by decide) ?_
  refine r_ic_ne C dX5_menHeldOff_9 (fun c1 => ?_) (fun c1 => ?_)
  · skip
    refine r_iconst C dX5_menHeldOff_17 (5 : Int32) (by decide) ?_
    refine r_imul C dX5_menHeldOff_18 ?_
    refine r_iret C dX5_menHeldOff_19 ?_
    have er : res = ((R_t 0 5) * (5 : Int32)) := by rw [hres, d_X5_menHeldOff]; try exact (if_neg c1).trans (rfl)
    rw [er]
  · skip
    refine r_bipush C dX5_menHeldOff_12 (6 : Int32) (by decide) ?_
    refine r_goto C dX5_menHeldOff_14 ?_
    refine r_imul C dX5_menHeldOff_18 ?_
    refine r_iret C dX5_menHeldOff_19 ?_
    have er : res = ((R_t 0 5) * (6 : Int32)) := by rw [hres, d_X5_menHeldOff]; try exact (if_pos c1).trans (rfl)
    rw [er]

def d_X5_copy (R_t : Nat → Nat → Int32) (R_f : Nat → Nat → Int32) : (Nat → Nat → Int32) :=
  (pt (pt (pt (pt (pt (pt (pt (pt R_t 0 0 (R_f 0 0)) 0 1 (R_f 0 1)) 0 2 (R_f 0 2)) 0 3 (R_f 0 3)) 0 4 (R_f 0 4)) 0 5 (R_f 0 5)) 0 6 (R_f 0 6)) 0 7 (R_f 0 7))
set_option maxHeartbeats 4000000 in
set_option maxRecDepth 100000 in
theorem c_X5_copy (l : Launch) (D : DD) (o_t o_f : Nat) (R_t : Nat → Nat → Int32) (R_f : Nat → Nat → Int32) (hd : o_t ≠ o_f) (res : (Nat → Nat → Int32)) (hres : res = d_X5_copy R_t R_f) : Mt l D yX5_copy cX5_copy 2 none 0 0 0 0 [.ref o_t, .ref o_f] (fun H => blk D ksTown o_t R_t H ∧ blk D ksTown o_f R_f H) (fun v H => v = none ∧ blk D ksTown o_t res H) (fp1 o_t 1) := by
  refine mt_of (own := RX5) (ls := [.val (.ref o_t), .val (.ref o_f)]) rfl (by decide +kernel) rfl ?_
  intro x H C hP
  obtain ⟨hb_t, hb_f⟩ := hP
  refine r_aload_n C dX5_copy_0 rfl ?_
  refine r_aload_n C dX5_copy_1 rfl ?_
  refine r_get C hb_f (k := 0) rfl rfl celO_5 fw_X5_9 (z := .int (R_f 0 0)) rfl dX5_copy_2 ?_
  refine r_put C hb_t (k := 0) rfl rfl (by unfold fp1; omega) fw_X5_9 fp_5_0 (Or.inl ⟨rfl, (bl_a hb_f (Or.inr rfl))⟩) dX5_copy_5 (fun H1 hb3 hq2 => ?_)
  have hb4 := blk_kept hb_f (n := 1) rfl (fun q h1 h2 => hq2 q (by omega))
  refine r_aload_n C dX5_copy_8 rfl ?_
  refine r_aload_n C dX5_copy_9 rfl ?_
  refine r_get C hb4 (k := 0) rfl rfl celO_5 fw_X5_15 (z := .int (R_f 0 1)) rfl dX5_copy_10 ?_
  refine r_put C hb3 (k := 0) rfl rfl (by unfold fp1; omega) fw_X5_15 fp_5_1 (Or.inl ⟨rfl, (bl_b hb4 (Or.inr rfl))⟩) dX5_copy_13 (fun H5 hb7 hq6 => ?_)
  have hb8 := blk_kept hb4 (n := 1) rfl (fun q h1 h2 => hq6 q (by omega))
  refine r_aload_n C dX5_copy_16 rfl ?_
  refine r_aload_n C dX5_copy_17 rfl ?_
  refine r_get C hb8 (k := 0) rfl rfl celO_5 fw_X5_18 (z := .int (R_f 0 2)) rfl dX5_copy_18 ?_
  refine r_put C hb7 (k := 0) rfl rfl (by unfold fp1; omega) fw_X5_18 fp_5_2 (Or.inr rfl) dX5_copy_21 (fun H9 hb11 hq10 => ?_)
  have hb12 := blk_kept hb8 (n := 1) rfl (fun q h1 h2 => hq10 q (by omega))
  refine r_aload_n C dX5_copy_24 rfl ?_
  refine r_aload_n C dX5_copy_25 rfl ?_
  refine r_get C hb12 (k := 0) rfl rfl celO_5 fw_X5_22 (z := .int (R_f 0 3)) rfl dX5_copy_26 ?_
  refine r_put C hb11 (k := 0) rfl rfl (by unfold fp1; omega) fw_X5_22 fp_5_3 (Or.inr rfl) dX5_copy_29 (fun H13 hb15 hq14 => ?_)
  have hb16 := blk_kept hb12 (n := 1) rfl (fun q h1 h2 => hq14 q (by omega))
  refine r_aload_n C dX5_copy_32 rfl ?_
  refine r_aload_n C dX5_copy_33 rfl ?_
  refine r_get C hb16 (k := 0) rfl rfl celO_5 fw_X5_25 (z := .int (R_f 0 4)) rfl dX5_copy_34 ?_
  refine r_put C hb15 (k := 0) rfl rfl (by unfold fp1; omega) fw_X5_25 fp_5_4 (Or.inr rfl) dX5_copy_37 (fun H17 hb19 hq18 => ?_)
  have hb20 := blk_kept hb16 (n := 1) rfl (fun q h1 h2 => hq18 q (by omega))
  refine r_aload_n C dX5_copy_40 rfl ?_
  refine r_aload_n C dX5_copy_41 rfl ?_
  refine r_get C hb20 (k := 0) rfl rfl celO_5 fw_X5_28 (z := .int (R_f 0 5)) rfl dX5_copy_42 ?_
  refine r_put C hb19 (k := 0) rfl rfl (by unfold fp1; omega) fw_X5_28 fp_5_5 (Or.inr rfl) dX5_copy_45 (fun H21 hb23 hq22 => ?_)
  have hb24 := blk_kept hb20 (n := 1) rfl (fun q h1 h2 => hq22 q (by omega))
  refine r_aload_n C dX5_copy_48 rfl ?_
  refine r_aload_n C dX5_copy_49 rfl ?_
  refine r_get C hb24 (k := 0) rfl rfl celO_5 fw_X5_31 (z := .int (R_f 0 6)) rfl dX5_copy_50 ?_
  refine r_put C hb23 (k := 0) rfl rfl (by unfold fp1; omega) fw_X5_31 fp_5_6 (Or.inr rfl) dX5_copy_53 (fun H25 hb27 hq26 => ?_)
  have hb28 := blk_kept hb24 (n := 1) rfl (fun q h1 h2 => hq26 q (by omega))
  refine r_aload_n C dX5_copy_56 rfl ?_
  refine r_aload_n C dX5_copy_57 rfl ?_
  refine r_get C hb28 (k := 0) rfl rfl celO_5 fw_X5_34 (z := .int (R_f 0 7)) rfl dX5_copy_58 ?_
  refine r_put C hb27 (k := 0) rfl rfl (by unfold fp1; omega) fw_X5_34 fp_5_7 (Or.inr rfl) dX5_copy_61 (fun H29 hb31 hq30 => ?_)
  have hb32 := blk_kept hb28 (n := 1) rfl (fun q h1 h2 => hq30 q (by omega))
  refine r_vret C dX5_copy_64 ?_
  have er : res = (pt (pt (pt (pt (pt (pt (pt (pt R_t 0 0 (R_f 0 0)) 0 1 (R_f 0 1)) 0 2 (R_f 0 2)) 0 3 (R_f 0 3)) 0 4 (R_f 0 4)) 0 5 (R_f 0 5)) 0 6 (R_f 0 6)) 0 7 (R_f 0 7)) := by rw [hres, d_X5_copy]; try exact rfl
  rw [er]
  exact ⟨rfl, hb31⟩

def d_X0_sails (R_c : Nat → Nat → Int32) : Int32 :=
  if (R_c 0 0) = 0 then
    (0 : Int32)
  else
    if (R_c 0 1) = 0 then
      (1 : Int32)
    else
      (0 : Int32)
set_option maxHeartbeats 4000000 in
set_option maxRecDepth 100000 in
theorem c_X0_sails (l : Launch) (D : DD) (o_c : Nat) (R_c : Nat → Nat → Int32)  (res : Int32) (hres : res = d_X0_sails R_c) : Mt l D yX0_sails cX0_sails 1 (some .boolean) 0 0 0 0 [.ref o_c] (fun H => blk D ksCrew o_c R_c H) (fun v H => v = some (.int res) ∧ bl res) fp0 := by
  refine mt_of (own := RX0) (ls := [.val (.ref o_c)]) rfl (by decide +kernel) rfl ?_
  intro x H C hP
  have hb_c := hP
  refine r_aload_n C dX0_sails_0 rfl ?_
  refine r_get C hb_c (k := 0) rfl rfl celO_0 fw_X0_15 (z := .int (R_c 0 0)) rfl dX0_sails_1 ?_
  refine r_if_eq C dX0_sails_4 (fun c1 => ?_) (fun c1 => ?_)
  · skip
    refine r_iconst C dX0_sails_18 (0 : Int32) (by decide) ?_
    refine r_zret C dX0_sails_19 (Or.inl rfl) ?_
    have er : res = (0 : Int32) := by rw [hres, d_X0_sails]; try exact (if_pos c1).trans (rfl)
    rw [er]
    exact ⟨rfl, (Or.inl rfl)⟩
  · skip
    refine r_aload_n C dX0_sails_7 rfl ?_
    refine r_get C hb_c (k := 0) rfl rfl celO_0 fw_X0_19 (z := .int (R_c 0 1)) rfl dX0_sails_8 ?_
    refine r_if_ne C dX0_sails_11 (fun c2 => ?_) (fun c2 => ?_)
    · skip
      refine r_iconst C dX0_sails_18 (0 : Int32) (by decide) ?_
      refine r_zret C dX0_sails_19 (Or.inl rfl) ?_
      have er : res = (0 : Int32) := by rw [hres, d_X0_sails]; try exact (if_neg c1).trans ((if_neg c2).trans (rfl))
      rw [er]
      exact ⟨rfl, (Or.inl rfl)⟩
    · skip
      refine r_iconst C dX0_sails_14 (1 : Int32) (by decide) ?_
      refine r_goto C dX0_sails_15 ?_
      refine r_zret C dX0_sails_19 (Or.inr rfl) ?_
      have er : res = (1 : Int32) := by rw [hres, d_X0_sails]; try exact (if_neg c1).trans ((if_pos c2).trans (rfl))
      rw [er]
      exact ⟨rfl, (Or.inr rfl)⟩

def d_X0_beliefOf (R_c : Nat → Nat → Int32) (t : Int32) : Int32 :=
  if t < 0 then
    (0 : Int32)
  else
    if (nI 6) ≤ t then
      (0 : Int32)
    else
      (R_c 1 t.toNatClampNeg)
set_option maxHeartbeats 4000000 in
set_option maxRecDepth 100000 in
theorem c_X0_beliefOf (l : Launch) (D : DD) (o_c : Nat) (R_c : Nat → Nat → Int32) (t : Int32)  (res : Int32) (hres : res = d_X0_beliefOf R_c t) : Mt l D yX0_beliefOf cX0_beliefOf 2 (some .int) 0 0 0 0 [.ref o_c, .int t] (fun H => blk D ksCrew o_c R_c H) (fun v H => v = some (.int res)) fp0 := by
  refine mt_of (own := RX0) (ls := [.val (.ref o_c), .val (.int t)]) rfl (by decide +kernel) rfl ?_
  intro x H C hP
  have hb_c := hP
  refine r_iload_n C dX0_beliefOf_0 rfl ?_
  refine r_if_lt C dX0_beliefOf_1 (fun c1 => ?_) (fun c1 => ?_)
  · skip
    refine r_iconst C dX0_beliefOf_22 (0 : Int32) (by decide) ?_
    refine r_iret C dX0_beliefOf_23 ?_
    have er : res = (0 : Int32) := by rw [hres, d_X0_beliefOf]; try exact (if_pos c1).trans (rfl)
    rw [er]
  · skip
    refine r_iload_n C dX0_beliefOf_4 rfl ?_
    refine r_aload_n C dX0_beliefOf_5 rfl ?_
    refine r_get C hb_c (k := 0) rfl rfl celO_0 fw_X0_9 rfl dX0_beliefOf_6 ?_
    refine r_alen C hb_c (k := 1) rfl rfl 6 (Or.inl ⟨rfl, rfl⟩) dX0_beliefOf_9 ?_
    refine r_ic_ge C dX0_beliefOf_10 (fun c2 => ?_) (fun c2 => ?_)
    · skip
      refine r_iconst C dX0_beliefOf_22 (0 : Int32) (by decide) ?_
      refine r_iret C dX0_beliefOf_23 ?_
      have er : res = (0 : Int32) := by rw [hres, d_X0_beliefOf]; try exact (if_neg c1).trans ((if_pos c2).trans (rfl))
      rw [er]
    · skip
      refine r_aload_n C dX0_beliefOf_13 rfl ?_
      refine r_get C hb_c (k := 0) rfl rfl celO_0 fw_X0_9 rfl dX0_beliefOf_14 ?_
      refine r_iload_n C dX0_beliefOf_17 rfl ?_
      refine r_iald C hb_c (k := 1) rfl rfl (vp_in_lh (x_lo1 c1) (x_hi1 (N := 6) c2 (by omega)) (by omega)) (j := t.toNatClampNeg) rfl dX0_beliefOf_18 ?_
      refine r_goto C dX0_beliefOf_19 ?_
      refine r_iret C dX0_beliefOf_23 ?_
      have er : res = (R_c 1 t.toNatClampNeg) := by rw [hres, d_X0_beliefOf]; try exact (if_neg c1).trans ((if_neg c2).trans (rfl))
      rw [er]

def d_X0_believe (R_c : Nat → Nat → Int32) (t : Int32) (silver : Int32) : (Nat → Nat → Int32) :=
  if t < 0 then
    R_c
  else
    if (nI 6) ≤ t then
      R_c
    else
      (pt R_c 1 t.toNatClampNeg silver)
set_option maxHeartbeats 4000000 in
set_option maxRecDepth 100000 in
theorem c_X0_believe (l : Launch) (D : DD) (o_c : Nat) (R_c : Nat → Nat → Int32) (t : Int32) (silver : Int32)  (res : (Nat → Nat → Int32)) (hres : res = d_X0_believe R_c t silver) : Mt l D yX0_believe cX0_believe 3 none 0 0 0 0 [.ref o_c, .int t, .int silver] (fun H => blk D ksCrew o_c R_c H) (fun v H => v = none ∧ blk D ksCrew o_c res H) (fp1 o_c 2) := by
  refine mt_of (own := RX0) (ls := [.val (.ref o_c), .val (.int t), .val (.int silver)]) rfl (by decide +kernel) rfl ?_
  intro x H C hP
  have hb_c := hP
  refine r_iload_n C dX0_believe_0 rfl ?_
  refine r_if_lt C dX0_believe_1 (fun c1 => ?_) (fun c1 => ?_)
  · skip
    refine r_vret C dX0_believe_20 ?_
    have er : res = R_c := by rw [hres, d_X0_believe]; try exact (if_pos c1).trans (rfl)
    rw [er]
    exact ⟨rfl, hb_c⟩
  · skip
    refine r_iload_n C dX0_believe_4 rfl ?_
    refine r_aload_n C dX0_believe_5 rfl ?_
    refine r_get C hb_c (k := 0) rfl rfl celO_0 fw_X0_9 rfl dX0_believe_6 ?_
    refine r_alen C hb_c (k := 1) rfl rfl 6 (Or.inl ⟨rfl, rfl⟩) dX0_believe_9 ?_
    refine r_ic_ge C dX0_believe_10 (fun c2 => ?_) (fun c2 => ?_)
    · skip
      refine r_vret C dX0_believe_20 ?_
      have er : res = R_c := by rw [hres, d_X0_believe]; try exact (if_neg c1).trans ((if_pos c2).trans (rfl))
      rw [er]
      exact ⟨rfl, hb_c⟩
    · skip
      refine r_aload_n C dX0_believe_13 rfl ?_
      refine r_get C hb_c (k := 0) rfl rfl celO_0 fw_X0_9 rfl dX0_believe_14 ?_
      refine r_iload_n C dX0_believe_17 rfl ?_
      refine r_iload_n C dX0_believe_18 rfl ?_
      refine r_iast C hb_c (k := 1) rfl rfl (by unfold fp1; omega) (vp_in_lh (x_lo1 c1) (x_hi1 (N := 6) c2 (by omega)) (by omega)) (j := t.toNatClampNeg) rfl dX0_believe_19 (fun H3 hb5 hq4 => ?_)
      refine r_vret C dX0_believe_20 ?_
      have er : res = (pt R_c 1 t.toNatClampNeg silver) := by rw [hres, d_X0_believe]; try exact (if_neg c1).trans ((if_neg c2).trans (rfl))
      rw [er]
      exact ⟨rfl, hb5⟩

def d_X0_wouldAsk (R_c : Nat → Nat → Int32) (R_t : Nat → Nat → Int32) (i : Int32) : Int32 :=
  lt (d_X0_beliefOf R_c i) fun u1 =>
  if (R_t 0 2) = (3 : Int32) then
    ((imax (R_c 0 3) (u1 / (2 : Int32))) / (2 : Int32))
  else
    (imax (R_c 0 3) (u1 / (2 : Int32)))
set_option maxHeartbeats 4000000 in
set_option maxRecDepth 100000 in
theorem c_X0_wouldAsk (l : Launch) (D : DD) (o_c o_t : Nat) (R_c : Nat → Nat → Int32) (R_t : Nat → Nat → Int32) (i : Int32)  (res : Int32) (hres : res = d_X0_wouldAsk R_c R_t i) : Mt l D yX0_wouldAsk cX0_wouldAsk 4 (some .int) 1 21 0 0 [.ref o_c, .ref o_t, .int i] (fun H => blk D ksCrew o_c R_c H ∧ blk D ksTown o_t R_t H) (fun v H => v = some (.int res)) fp0 := by
  refine mt_of (own := RX0) (ls := [.val (.ref o_c), .val (.ref o_t), .val (.int i), .unset]) rfl (by decide +kernel) rfl ?_
  intro x H C hP
  obtain ⟨hb_c, hb_t⟩ := hP
  refine r_aload_n C dX0_wouldAsk_0 rfl ?_
  refine r_get C hb_c (k := 0) rfl rfl celO_0 fw_X0_26 (z := .int (R_c 0 3)) rfl dX0_wouldAsk_1 ?_
  refine r_aload_n C dX0_wouldAsk_4 rfl ?_
  refine r_iload_n C dX0_wouldAsk_5 rfl ?_
  obtain ⟨u1, hu1⟩ : ∃ r, r = d_X0_beliefOf R_c i := ⟨_, rfl⟩
  refine r_callV0 C cw_X0_29 (fun l => c_X0_beliefOf l D o_c R_c i u1 hu1) (rest := [.int (R_c 0 3)]) hb_c (k := 0) rfl rfl celO_0 hb_c (fun q h => h.elim) rfl rfl rfl (Nat.le_of_ble_eq_true rfl) ⟨Nat.le_of_ble_eq_true rfl, Nat.le_of_ble_eq_true rfl, Nat.le_refl 0, Nat.le_refl 0⟩ dX0_wouldAsk_6 (fun v H2 hp3 hq4 => ?_)
  subst hp3
  have hb5 := blk_kept hb_c (n := 2) rfl (fun q h1 h2 => hq4 q (fun h => h))
  have hb6 := blk_kept hb_t (n := 1) rfl (fun q h1 h2 => hq4 q (fun h => h))
  dsimp only [psh]
  refine r_iconst C dX0_wouldAsk_9 (2 : Int32) (by decide) ?_
  refine r_idiv C dX0_wouldAsk_10 (by decide) ?_
  refine r_mmax C mw_X0_33 rfl ⟨Nat.le_of_ble_eq_true rfl, Nat.le_of_ble_eq_true rfl, Nat.le_refl 0, Nat.le_refl 0⟩ dX0_wouldAsk_11 ?_
  refine r_istore_n C dX0_wouldAsk_14 (ls' := [.val (.ref o_c), .val (.ref o_t), .val (.int i), .val (.int (imax (R_c 0 3) (u1 / (2 : Int32))))]) rfl trivial rfl ?_
  refine r_aload_n C dX0_wouldAsk_15 rfl ?_
  refine r_get C hb6 (k := 0) rfl rfl celO_5 fw_X0_39 (z := .int (R_t 0 2)) rfl dX0_wouldAsk_16 ?_
  refine r_iconst C dX0_wouldAsk_19 (3 : Int32) (by decide) ?_
  refine r_ic_ne C dX0_wouldAsk_20 (fun c7 => ?_) (fun c7 => ?_)
  · skip
    refine r_iload_n C dX0_wouldAsk_29 rfl ?_
    refine r_iret C dX0_wouldAsk_30 ?_
    have er : res = (imax (R_c 0 3) (u1 / (2 : Int32))) := by rw [hres, d_X0_wouldAsk]; try exact (lt_eq hu1).trans ((if_neg c7).trans (rfl))
    rw [er]
  · skip
    refine r_iload_n C dX0_wouldAsk_23 rfl ?_
    refine r_iconst C dX0_wouldAsk_24 (2 : Int32) (by decide) ?_
    refine r_idiv C dX0_wouldAsk_25 (by decide) ?_
    refine r_goto C dX0_wouldAsk_26 ?_
    refine r_iret C dX0_wouldAsk_30 ?_
    have er : res = ((imax (R_c 0 3) (u1 / (2 : Int32))) / (2 : Int32)) := by rw [hres, d_X0_wouldAsk]; try exact (lt_eq hu1).trans ((if_pos c7).trans (rfl))
    rw [er]

def d_X0_takePay (R_c : Nat → Nat → Int32) (R_t : Nat → Nat → Int32) (i : Int32) (silver : Int32) : (Nat → Nat → Int32) × (Nat → Nat → Int32) :=
  lt (d_X5_give R_t silver) fun u1 =>
  lt (d_X0_believe (pt R_c 0 4 ((R_c 0 4) + silver)) i ((2 : Int32) * silver)) fun u11 =>
  (u11, u1)
set_option maxHeartbeats 4000000 in
set_option maxRecDepth 100000 in
theorem c_X0_takePay (l : Launch) (D : DD) (o_c o_t : Nat) (R_c : Nat → Nat → Int32) (R_t : Nat → Nat → Int32) (i : Int32) (silver : Int32) (hd : o_t < o_c ∨ o_c + 2 ≤ o_t) (res : (Nat → Nat → Int32) × (Nat → Nat → Int32)) (hres : res = d_X0_takePay R_c R_t i silver) : Mt l D yX0_takePay cX0_takePay 4 none 1 22 0 0 [.ref o_c, .ref o_t, .int i, .int silver] (fun H => blk D ksCrew o_c R_c H ∧ blk D ksTown o_t R_t H) (fun v H => v = none ∧ blk D ksCrew o_c res.1 H ∧ blk D ksTown o_t res.2 H) (fp2 o_c 2 o_t 1) := by
  refine mt_of (own := RX0) (ls := [.val (.ref o_c), .val (.ref o_t), .val (.int i), .val (.int silver)]) rfl (by decide +kernel) rfl ?_
  intro x H C hP
  obtain ⟨hb_c, hb_t⟩ := hP
  refine r_aload_n C dX0_takePay_0 rfl ?_
  refine r_iload_n C dX0_takePay_1 rfl ?_
  obtain ⟨u1, hu1⟩ : ∃ r, r = d_X5_give R_t silver := ⟨_, rfl⟩
  refine r_callV0 C cw_X0_44 (fun l => c_X5_give l D o_t R_t silver u1 hu1) (rest := []) hb_t (k := 0) rfl rfl celO_5 hb_t (fun q h => by unfold fp1 at h; unfold fp2; omega) rfl rfl rfl (Nat.le_of_ble_eq_true rfl) ⟨Nat.le_of_ble_eq_true rfl, Nat.le_of_ble_eq_true rfl, Nat.le_refl 0, Nat.le_refl 0⟩ dX0_takePay_2 (fun v H2 hp3 hq4 => ?_)
  obtain ⟨rfl, hn5⟩ := hp3
  have hb6 := blk_kept hb_c (n := 2) rfl (fun q h1 h2 => hq4 q (by unfold fp1; omega))
  dsimp only [psh]
  refine r_aload_n C dX0_takePay_5 rfl ?_
  refine r_dup C dX0_takePay_6 rfl ?_
  refine r_get C hb6 (k := 0) rfl rfl celO_0 fw_X0_48 (z := .int (R_c 0 4)) rfl dX0_takePay_7 ?_
  refine r_iload_n C dX0_takePay_10 rfl ?_
  refine r_iadd C dX0_takePay_11 ?_
  refine r_put C hb6 (k := 0) rfl rfl (by unfold fp2; omega) fw_X0_48 fp_0_4 (Or.inr rfl) dX0_takePay_12 (fun H7 hb9 hq8 => ?_)
  have hb10 := blk_kept hn5 (n := 1) rfl (fun q h1 h2 => hq8 q (by omega))
  refine r_aload_n C dX0_takePay_15 rfl ?_
  refine r_iload_n C dX0_takePay_16 rfl ?_
  refine r_iconst C dX0_takePay_17 (2 : Int32) (by decide) ?_
  refine r_iload_n C dX0_takePay_18 rfl ?_
  refine r_imul C dX0_takePay_19 ?_
  obtain ⟨u11, hu11⟩ : ∃ r, r = d_X0_believe (pt R_c 0 4 ((R_c 0 4) + silver)) i ((2 : Int32) * silver) := ⟨_, rfl⟩
  refine r_callV0 C cw_X0_51 (fun l => c_X0_believe l D o_c (pt R_c 0 4 ((R_c 0 4) + silver)) i ((2 : Int32) * silver) u11 hu11) (rest := []) hb9 (k := 0) rfl rfl celO_0 hb9 (fun q h => by unfold fp1 at h; unfold fp2; omega) rfl rfl rfl (Nat.le_of_ble_eq_true rfl) ⟨Nat.le_of_ble_eq_true rfl, Nat.le_of_ble_eq_true rfl, Nat.le_refl 0, Nat.le_refl 0⟩ dX0_takePay_20 (fun v H12 hp13 hq14 => ?_)
  obtain ⟨rfl, hn15⟩ := hp13
  have hb16 := blk_kept hb10 (n := 1) rfl (fun q h1 h2 => hq14 q (by unfold fp1; omega))
  dsimp only [psh]
  refine r_vret C dX0_takePay_23 ?_
  have er : res = (u11, u1) := by rw [hres, d_X0_takePay]; try exact (lt_eq hu1).trans ((lt_eq hu11).trans (rfl))
  rw [er]
  exact ⟨rfl, hn15, hb16⟩

def d_X0_burn (R_c : Nat → Nat → Int32) (R_t : Nat → Nat → Int32) (i : Int32) : (Nat → Nat → Int32) × (Nat → Nat → Int32) :=
  lt (d_X0_believe (pt R_c 0 4 ((R_c 0 4) + (R_t 0 3))) i (0 : Int32)) fun u13 =>
  (u13, (pt (pt R_t 0 3 (0 : Int32)) 0 1 (1 : Int32)))
set_option maxHeartbeats 4000000 in
set_option maxRecDepth 100000 in
theorem c_X0_burn (l : Launch) (D : DD) (o_c o_t : Nat) (R_c : Nat → Nat → Int32) (R_t : Nat → Nat → Int32) (i : Int32) (hd : o_t < o_c ∨ o_c + 2 ≤ o_t) (res : (Nat → Nat → Int32) × (Nat → Nat → Int32)) (hres : res = d_X0_burn R_c R_t i) : Mt l D yX0_burn cX0_burn 3 none 1 22 0 0 [.ref o_c, .ref o_t, .int i] (fun H => blk D ksCrew o_c R_c H ∧ blk D ksTown o_t R_t H) (fun v H => v = none ∧ blk D ksCrew o_c res.1 H ∧ blk D ksTown o_t res.2 H) (fp2 o_c 2 o_t 1) := by
  refine mt_of (own := RX0) (ls := [.val (.ref o_c), .val (.ref o_t), .val (.int i)]) rfl (by decide +kernel) rfl ?_
  intro x H C hP
  obtain ⟨hb_c, hb_t⟩ := hP
  refine r_aload_n C dX0_burn_0 rfl ?_
  refine r_dup C dX0_burn_1 rfl ?_
  refine r_get C hb_c (k := 0) rfl rfl celO_0 fw_X0_48 (z := .int (R_c 0 4)) rfl dX0_burn_2 ?_
  refine r_aload_n C dX0_burn_5 rfl ?_
  refine r_get C hb_t (k := 0) rfl rfl celO_5 fw_X0_55 (z := .int (R_t 0 3)) rfl dX0_burn_6 ?_
  refine r_iadd C dX0_burn_9 ?_
  refine r_put C hb_c (k := 0) rfl rfl (by unfold fp2; omega) fw_X0_48 fp_0_4 (Or.inr rfl) dX0_burn_10 (fun H1 hb3 hq2 => ?_)
  have hb4 := blk_kept hb_t (n := 1) rfl (fun q h1 h2 => hq2 q (by omega))
  refine r_aload_n C dX0_burn_13 rfl ?_
  refine r_iconst C dX0_burn_14 (0 : Int32) (by decide) ?_
  refine r_put C hb4 (k := 0) rfl rfl (by unfold fp2; omega) fw_X0_55 fp_5_3 (Or.inr rfl) dX0_burn_15 (fun H5 hb7 hq6 => ?_)
  have hb8 := blk_kept hb3 (n := 2) rfl (fun q h1 h2 => hq6 q (by omega))
  refine r_aload_n C dX0_burn_18 rfl ?_
  refine r_iconst C dX0_burn_19 (1 : Int32) (by decide) ?_
  refine r_put C hb7 (k := 0) rfl rfl (by unfold fp2; omega) fw_X0_58 fp_5_1 (Or.inl ⟨rfl, Or.inr rfl⟩) dX0_burn_20 (fun H9 hb11 hq10 => ?_)
  have hb12 := blk_kept hb8 (n := 2) rfl (fun q h1 h2 => hq10 q (by omega))
  refine r_aload_n C dX0_burn_23 rfl ?_
  refine r_iload_n C dX0_burn_24 rfl ?_
  refine r_iconst C dX0_burn_25 (0 : Int32) (by decide) ?_
  obtain ⟨u13, hu13⟩ : ∃ r, r = d_X0_believe (pt R_c 0 4 ((R_c 0 4) + (R_t 0 3))) i (0 : Int32) := ⟨_, rfl⟩
  refine r_callV0 C cw_X0_51 (fun l => c_X0_believe l D o_c (pt R_c 0 4 ((R_c 0 4) + (R_t 0 3))) i (0 : Int32) u13 hu13) (rest := []) hb12 (k := 0) rfl rfl celO_0 hb12 (fun q h => by unfold fp1 at h; unfold fp2; omega) rfl rfl rfl (Nat.le_of_ble_eq_true rfl) ⟨Nat.le_of_ble_eq_true rfl, Nat.le_of_ble_eq_true rfl, Nat.le_refl 0, Nat.le_refl 0⟩ dX0_burn_26 (fun v H14 hp15 hq16 => ?_)
  obtain ⟨rfl, hn17⟩ := hp15
  have hb18 := blk_kept hb11 (n := 1) rfl (fun q h1 h2 => hq16 q (by unfold fp1; omega))
  dsimp only [psh]
  refine r_vret C dX0_burn_29 ?_
  have er : res = (u13, (pt (pt R_t 0 3 (0 : Int32)) 0 1 (1 : Int32))) := by rw [hres, d_X0_burn]; try exact (lt_eq hu13).trans (rfl)
  rw [er]
  exact ⟨rfl, hn17, hb18⟩

def d_X0_grow (R_c : Nat → Nat → Int32) (more : Int32) : (Nat → Nat → Int32) :=
  (pt R_c 0 2 (imin (99 : Int32) ((R_c 0 2) + more)))
set_option maxHeartbeats 4000000 in
set_option maxRecDepth 100000 in
theorem c_X0_grow (l : Launch) (D : DD) (o_c : Nat) (R_c : Nat → Nat → Int32) (more : Int32)  (res : (Nat → Nat → Int32)) (hres : res = d_X0_grow R_c more) : Mt l D yX0_grow cX0_grow 2 none 1 21 0 0 [.ref o_c, .int more] (fun H => blk D ksCrew o_c R_c H) (fun v H => v = none ∧ blk D ksCrew o_c res H) (fp1 o_c 2) := by
  refine mt_of (own := RX0) (ls := [.val (.ref o_c), .val (.int more)]) rfl (by decide +kernel) rfl ?_
  intro x H C hP
  have hb_c := hP
  refine r_aload_n C dX0_grow_0 rfl ?_
  refine r_bipush C dX0_grow_1 (99 : Int32) (by decide) ?_
  refine r_aload_n C dX0_grow_3 rfl ?_
  refine r_get C hb_c (k := 0) rfl rfl celO_0 fw_X0_22 (z := .int (R_c 0 2)) rfl dX0_grow_4 ?_
  refine r_iload_n C dX0_grow_7 rfl ?_
  refine r_iadd C dX0_grow_8 ?_
  refine r_mmin C mw_X0_64 rfl ⟨Nat.le_of_ble_eq_true rfl, Nat.le_of_ble_eq_true rfl, Nat.le_refl 0, Nat.le_refl 0⟩ dX0_grow_9 ?_
  refine r_put C hb_c (k := 0) rfl rfl (by unfold fp1; omega) fw_X0_22 fp_0_2 (Or.inr rfl) dX0_grow_12 (fun H1 hb3 hq2 => ?_)
  refine r_vret C dX0_grow_15 ?_
  have er : res = (pt R_c 0 2 (imin (99 : Int32) ((R_c 0 2) + more))) := by rw [hres, d_X0_grow]; try exact rfl
  rw [er]
  exact ⟨rfl, hb3⟩

def d_X0_goHome (R_c : Nat → Nat → Int32) : (Nat → Nat → Int32) :=
  lt (d_X0_grow R_c ((R_c 0 4) / (10 : Int32))) fun u1 =>
  (pt u1 0 4 (0 : Int32))
set_option maxHeartbeats 4000000 in
set_option maxRecDepth 100000 in
theorem c_X0_goHome (l : Launch) (D : DD) (o_c : Nat) (R_c : Nat → Nat → Int32)  (res : (Nat → Nat → Int32)) (hres : res = d_X0_goHome R_c) : Mt l D yX0_goHome cX0_goHome 1 none 2 42 0 0 [.ref o_c] (fun H => blk D ksCrew o_c R_c H) (fun v H => v = none ∧ blk D ksCrew o_c res H) (fp1 o_c 2) := by
  refine mt_of (own := RX0) (ls := [.val (.ref o_c)]) rfl (by decide +kernel) rfl ?_
  intro x H C hP
  have hb_c := hP
  refine r_aload_n C dX0_goHome_0 rfl ?_
  refine r_aload_n C dX0_goHome_1 rfl ?_
  refine r_get C hb_c (k := 0) rfl rfl celO_0 fw_X0_48 (z := .int (R_c 0 4)) rfl dX0_goHome_2 ?_
  refine r_bipush C dX0_goHome_5 (10 : Int32) (by decide) ?_
  refine r_idiv C dX0_goHome_7 (by decide) ?_
  obtain ⟨u1, hu1⟩ : ∃ r, r = d_X0_grow R_c ((R_c 0 4) / (10 : Int32)) := ⟨_, rfl⟩
  refine r_callV0 C cw_X0_61 (fun l => c_X0_grow l D o_c R_c ((R_c 0 4) / (10 : Int32)) u1 hu1) (rest := []) hb_c (k := 0) rfl rfl celO_0 hb_c (fun q h => by unfold fp1 at h; unfold fp1; omega) rfl rfl rfl (Nat.le_of_ble_eq_true rfl) ⟨Nat.le_of_ble_eq_true rfl, Nat.le_of_ble_eq_true rfl, Nat.le_refl 0, Nat.le_refl 0⟩ dX0_goHome_8 (fun v H2 hp3 hq4 => ?_)
  obtain ⟨rfl, hn5⟩ := hp3
  dsimp only [psh]
  refine r_aload_n C dX0_goHome_11 rfl ?_
  refine r_iconst C dX0_goHome_12 (0 : Int32) (by decide) ?_
  refine r_put C hn5 (k := 0) rfl rfl (by unfold fp1; omega) fw_X0_48 fp_0_4 (Or.inr rfl) dX0_goHome_13 (fun H6 hb8 hq7 => ?_)
  refine r_vret C dX0_goHome_16 ?_
  have er : res = (pt u1 0 4 (0 : Int32)) := by rw [hres, d_X0_goHome]; try exact (lt_eq hu1).trans (rfl)
  rw [er]
  exact ⟨rfl, hb8⟩

def d_X0_fightLosing (R_c : Nat → Nat → Int32) (fallen : Int32) : (Nat → Nat → Int32) :=
  if 0 < ((R_c 0 2) - fallen) then
    (pt (pt R_c 0 2 ((R_c 0 2) - fallen)) 0 1 (0 : Int32))
  else
    (pt (pt R_c 0 2 ((R_c 0 2) - fallen)) 0 1 (1 : Int32))
set_option maxHeartbeats 4000000 in
set_option maxRecDepth 100000 in
theorem c_X0_fightLosing (l : Launch) (D : DD) (o_c : Nat) (R_c : Nat → Nat → Int32) (fallen : Int32)  (res : (Nat → Nat → Int32)) (hres : res = d_X0_fightLosing R_c fallen) : Mt l D yX0_fightLosing cX0_fightLosing 2 none 0 0 0 0 [.ref o_c, .int fallen] (fun H => blk D ksCrew o_c R_c H) (fun v H => v = none ∧ blk D ksCrew o_c res H) (fp1 o_c 2) := by
  refine mt_of (own := RX0) (ls := [.val (.ref o_c), .val (.int fallen)]) rfl (by decide +kernel) rfl ?_
  intro x H C hP
  have hb_c := hP
  refine r_aload_n C dX0_fightLosing_0 rfl ?_
  refine r_dup C dX0_fightLosing_1 rfl ?_
  refine r_get C hb_c (k := 0) rfl rfl celO_0 fw_X0_22 (z := .int (R_c 0 2)) rfl dX0_fightLosing_2 ?_
  refine r_iload_n C dX0_fightLosing_5 rfl ?_
  refine r_isub C dX0_fightLosing_6 ?_
  refine r_put C hb_c (k := 0) rfl rfl (by unfold fp1; omega) fw_X0_22 fp_0_2 (Or.inr rfl) dX0_fightLosing_7 (fun H1 hb3 hq2 => ?_)
  refine r_aload_n C dX0_fightLosing_10 rfl ?_
  refine r_aload_n C dX0_fightLosing_11 rfl ?_
  refine r_get C hb3 (k := 0) rfl rfl celO_0 fw_X0_22 (z := .int ((R_c 0 2) - fallen)) rfl dX0_fightLosing_12 ?_
  refine r_if_gt C dX0_fightLosing_15 (fun c4 => ?_) (fun c4 => ?_)
  · skip
    refine r_iconst C dX0_fightLosing_22 (0 : Int32) (by decide) ?_
    refine r_put C hb3 (k := 0) rfl rfl (by unfold fp1; omega) fw_X0_19 fp_0_1 (Or.inl ⟨rfl, Or.inl rfl⟩) dX0_fightLosing_23 (fun H5 hb7 hq6 => ?_)
    refine r_vret C dX0_fightLosing_26 ?_
    have er : res = (pt (pt R_c 0 2 ((R_c 0 2) - fallen)) 0 1 (0 : Int32)) := by rw [hres, d_X0_fightLosing]; try exact (if_pos c4).trans (rfl)
    rw [er]
    exact ⟨rfl, hb7⟩
  · skip
    refine r_iconst C dX0_fightLosing_18 (1 : Int32) (by decide) ?_
    refine r_goto C dX0_fightLosing_19 ?_
    refine r_put C hb3 (k := 0) rfl rfl (by unfold fp1; omega) fw_X0_19 fp_0_1 (Or.inl ⟨rfl, Or.inr rfl⟩) dX0_fightLosing_23 (fun H8 hb10 hq9 => ?_)
    refine r_vret C dX0_fightLosing_26 ?_
    have er : res = (pt (pt R_c 0 2 ((R_c 0 2) - fallen)) 0 1 (1 : Int32)) := by rw [hres, d_X0_fightLosing]; try exact (if_neg c4).trans (rfl)
    rw [er]
    exact ⟨rfl, hb10⟩

def d_X0_copy_L34 (R_f : Nat → Nat → Int32) : Nat → (Nat → Nat → Int32) → Nat → (Nat → Nat → Int32)
  | 0, R, _ => R
  | n17 + 1, R, i =>
    if (nI 6) ≤ (nI i) then
      R
    else
      lt (d_X0_beliefOf R_f (nI i)) fun u30 =>
      d_X0_copy_L34 R_f n17 (pt R 1 i u30) (i + 1)
def d_X0_copy (R_c : Nat → Nat → Int32) (R_f : Nat → Nat → Int32) : (Nat → Nat → Int32) :=
  lt (d_X0_copy_L34 R_f 7 (pt (pt (pt (pt R_c 0 0 (R_f 0 0)) 0 1 (R_f 0 1)) 0 2 (R_f 0 2)) 0 3 (R_f 0 3)) 0) fun s41 =>
  s41
set_option maxHeartbeats 4000000 in
set_option maxRecDepth 100000 in
theorem c_X0_copy (l : Launch) (D : DD) (o_c o_f : Nat) (R_c : Nat → Nat → Int32) (R_f : Nat → Nat → Int32) (hd : o_c + 2 ≤ o_f ∨ o_f + 2 ≤ o_c) (res : (Nat → Nat → Int32)) (hres : res = d_X0_copy R_c R_f) : Mt l D yX0_copy cX0_copy 3 none 1 21 0 0 [.ref o_c, .ref o_f] (fun H => blk D ksCrew o_c R_c H ∧ blk D ksCrew o_f R_f H) (fun v H => v = none ∧ blk D ksCrew o_c res H) (fp1 o_c 2) := by
  refine mt_of (own := RX0) (ls := [.val (.ref o_c), .val (.ref o_f), .unset]) rfl (by decide +kernel) rfl ?_
  intro x H C hP
  obtain ⟨hb_c, hb_f⟩ := hP
  refine r_aload_n C dX0_copy_0 rfl ?_
  refine r_aload_n C dX0_copy_1 rfl ?_
  refine r_get C hb_f (k := 0) rfl rfl celO_0 fw_X0_15 (z := .int (R_f 0 0)) rfl dX0_copy_2 ?_
  refine r_put C hb_c (k := 0) rfl rfl (by unfold fp1; omega) fw_X0_15 fp_0_0 (Or.inl ⟨rfl, (bl_a hb_f (Or.inl rfl))⟩) dX0_copy_5 (fun H1 hb3 hq2 => ?_)
  have hb4 := blk_kept hb_f (n := 2) rfl (fun q h1 h2 => hq2 q (by omega))
  refine r_aload_n C dX0_copy_8 rfl ?_
  refine r_aload_n C dX0_copy_9 rfl ?_
  refine r_get C hb4 (k := 0) rfl rfl celO_0 fw_X0_19 (z := .int (R_f 0 1)) rfl dX0_copy_10 ?_
  refine r_put C hb3 (k := 0) rfl rfl (by unfold fp1; omega) fw_X0_19 fp_0_1 (Or.inl ⟨rfl, (bl_b hb4 (Or.inl rfl))⟩) dX0_copy_13 (fun H5 hb7 hq6 => ?_)
  have hb8 := blk_kept hb4 (n := 2) rfl (fun q h1 h2 => hq6 q (by omega))
  refine r_aload_n C dX0_copy_16 rfl ?_
  refine r_aload_n C dX0_copy_17 rfl ?_
  refine r_get C hb8 (k := 0) rfl rfl celO_0 fw_X0_22 (z := .int (R_f 0 2)) rfl dX0_copy_18 ?_
  refine r_put C hb7 (k := 0) rfl rfl (by unfold fp1; omega) fw_X0_22 fp_0_2 (Or.inr rfl) dX0_copy_21 (fun H9 hb11 hq10 => ?_)
  have hb12 := blk_kept hb8 (n := 2) rfl (fun q h1 h2 => hq10 q (by omega))
  refine r_aload_n C dX0_copy_24 rfl ?_
  refine r_aload_n C dX0_copy_25 rfl ?_
  refine r_get C hb12 (k := 0) rfl rfl celO_0 fw_X0_26 (z := .int (R_f 0 3)) rfl dX0_copy_26 ?_
  refine r_put C hb11 (k := 0) rfl rfl (by unfold fp1; omega) fw_X0_26 fp_0_3 (Or.inr rfl) dX0_copy_29 (fun H13 hb15 hq14 => ?_)
  have hb16 := blk_kept hb12 (n := 2) rfl (fun q h1 h2 => hq14 q (by omega))
  refine r_iconst C dX0_copy_32 (0 : Int32) (by decide) ?_
  refine r_istore_n C dX0_copy_33 (ls' := [.val (.ref o_c), .val (.ref o_f), .val (.int (0 : Int32))]) rfl trivial rfl ?_
  have d_X0_copy_L34_w : ∀ (n17 : Nat) (R : Nat → Nat → Int32) (i : Nat) (H23 : Heap), True → (i ≤ 6) → (6 - i < n17) → blk D ksCrew o_c R H23 → blk D ksCrew o_f R_f H23 → ∀ s19 : (Nat → Nat → Int32), s19 = d_X0_copy_L34 R_f n17 R i → (∀ (H' : Heap) (z24 : Slot) (_ : slot1 z24), True → blk D ksCrew o_c s19 H' → blk D ksCrew o_f R_f H' → WG x (fp1 o_c 2) (Fin x (fun v H => v = none ∧ blk D ksCrew o_c res H) (fp1 o_c 2) 0 0) H' 0 0 60 [.val (.ref o_c), .val (.ref o_f), z24] []) → WG x (fp1 o_c 2) (Fin x (fun v H => v = none ∧ blk D ksCrew o_c res H) (fp1 o_c 2) 0 0) H23 0 0 34 [.val (.ref o_c), .val (.ref o_f), .val (.int (nI i))] [] := by
    intro n17
    induction n17 with
    | zero => intro R i H23  _ hi hm25; exact absurd hm25 (Nat.not_lt_zero _)
    | succ n17 ih18 =>
      intro R i H23  _ hi hm25 hb21 hb22 s19 hs19  kx20
      refine r_iload_n C dX0_copy_34 rfl ?_
      refine r_aload_n C dX0_copy_35 rfl ?_
      refine r_get C hb21 (k := 0) rfl rfl celO_0 fw_X0_9 rfl dX0_copy_36 ?_
      refine r_alen C hb21 (k := 1) rfl rfl 6 (Or.inl ⟨rfl, rfl⟩) dX0_copy_39 ?_
      refine r_ic_ge C dX0_copy_40 (fun c26 => ?_) (fun c26 => ?_)
      · skip
        have f27 : (6 ≤ i) := nf_leI (by omega) (by omega) rfl rfl c26
        have e28 : s19 = R := by rw [hs19, d_X0_copy_L34]; try exact (if_pos c26).trans (rfl)
        rw [e28] at kx20
        exact kx20 _ (.val (.int (nI i))) rfl trivial  hb21 hb22
      · skip
        have f29 : ¬ (6 ≤ i) := nf_leIn (by omega) (by omega) rfl rfl c26
        refine r_aload_n C dX0_copy_43 rfl ?_
        refine r_get C hb21 (k := 0) rfl rfl celO_0 fw_X0_9 rfl dX0_copy_44 ?_
        refine r_iload_n C dX0_copy_47 rfl ?_
        refine r_aload_n C dX0_copy_48 rfl ?_
        refine r_iload_n C dX0_copy_49 rfl ?_
        obtain ⟨u30, hu30⟩ : ∃ r, r = d_X0_beliefOf R_f (nI i) := ⟨_, rfl⟩
        refine r_callV0 C cw_X0_29 (fun l => c_X0_beliefOf l D o_f R_f (nI i) u30 hu30) (rest := [.int (nI i), .ref (o_c + 1)]) hb22 (k := 0) rfl rfl celO_0 hb22 (fun q h => h.elim) rfl rfl rfl (Nat.le_of_ble_eq_true rfl) ⟨Nat.le_of_ble_eq_true rfl, Nat.le_of_ble_eq_true rfl, Nat.le_refl 0, Nat.le_refl 0⟩ dX0_copy_50 (fun v H31 hp32 hq33 => ?_)
        subst hp32
        have hb34 := blk_kept hb21 (n := 2) rfl (fun q h1 h2 => hq33 q (fun h => h))
        have hb35 := blk_kept hb22 (n := 2) rfl (fun q h1 h2 => hq33 q (fun h => h))
        dsimp only [psh]
        refine r_iast C hb34 (k := 1) rfl rfl (by unfold fp1; omega) (vp_in_n rfl (by omega) (by omega)) (j := i) (cl_n rfl (by omega)) dX0_copy_53 (fun H36 hb38 hq37 => ?_)
        have hb39 := blk_kept hb35 (n := 2) rfl (fun q h1 h2 => hq37 q (by omega))
        refine r_iinc C dX0_copy_54 (nI (i + 1)) rfl (nI_inc i rfl) (ls' := [.val (.ref o_c), .val (.ref o_f), .val (.int (nI (i + 1)))]) rfl ?_
        refine r_goto C dX0_copy_57 ?_
        have e40 : s19 = d_X0_copy_L34 R_f n17 (pt R 1 i u30) (i + 1) := by rw [hs19, d_X0_copy_L34]; try exact (if_neg c26).trans ((lt_eq hu30).trans (rfl))
        exact ih18 (pt R 1 i u30) (i + 1) _  trivial (by omega) (by omega) hb38 hb39 s19 e40  kx20
  obtain ⟨s41, hs41⟩ : ∃ r, r = d_X0_copy_L34 R_f 7 (pt (pt (pt (pt R_c 0 0 (R_f 0 0)) 0 1 (R_f 0 1)) 0 2 (R_f 0 2)) 0 3 (R_f 0 3)) 0 := ⟨_, rfl⟩
  refine d_X0_copy_L34_w 7 (pt (pt (pt (pt R_c 0 0 (R_f 0 0)) 0 1 (R_f 0 1)) 0 2 (R_f 0 2)) 0 3 (R_f 0 3)) 0 _  trivial (by omega) (by omega) hb15 hb16 s41 hs41  (fun H44 z24 hz24 e45  hb42 hb43 => ?_)
  refine r_vret C dX0_copy_60 ?_
  have er : res = s41 := by rw [hres, d_X0_copy]; try exact (lt_eq hs41).trans (rfl)
  rw [er]
  exact ⟨rfl, hb42⟩
