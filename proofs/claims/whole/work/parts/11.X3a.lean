theorem dX3_init_0 : dec cX3_init 0 (.aload_n 0) 1 1 := ⟨by decide +kernel, rfl⟩
theorem dX3_init_1 : dec cX3_init 1 (.invokespecial 3) 3 4 := ⟨by decide +kernel, rfl⟩
theorem dX3_init_4 : dec cX3_init 4 (.aload_n 0) 1 5 := ⟨by decide +kernel, rfl⟩
theorem dX3_init_5 : dec cX3_init 5 (.bipush 6) 2 7 := ⟨by decide +kernel, rfl⟩
theorem dX3_init_7 : dec cX3_init 7 (.anewarray 9) 3 10 := ⟨by decide +kernel, rfl⟩
theorem dX3_init_10 : dec cX3_init 10 (.putfield 11) 3 13 := ⟨by decide +kernel, rfl⟩
theorem dX3_init_13 : dec cX3_init 13 (.aload_n 0) 1 14 := ⟨by decide +kernel, rfl⟩
theorem dX3_init_14 : dec cX3_init 14 (.iconst 3) 1 15 := ⟨by decide +kernel, rfl⟩
theorem dX3_init_15 : dec cX3_init 15 (.anewarray 17) 3 18 := ⟨by decide +kernel, rfl⟩
theorem dX3_init_18 : dec cX3_init 18 (.putfield 19) 3 21 := ⟨by decide +kernel, rfl⟩
theorem dX3_init_21 : dec cX3_init 21 (.iconst 0) 1 22 := ⟨by decide +kernel, rfl⟩
theorem dX3_init_22 : dec cX3_init 22 (.istore_n 1) 1 23 := ⟨by decide +kernel, rfl⟩
theorem dX3_init_23 : dec cX3_init 23 (.iload_n 1) 1 24 := ⟨by decide +kernel, rfl⟩
theorem dX3_init_24 : dec cX3_init 24 (.aload_n 0) 1 25 := ⟨by decide +kernel, rfl⟩
theorem dX3_init_25 : dec cX3_init 25 (.getfield 11) 3 28 := ⟨by decide +kernel, rfl⟩
theorem dX3_init_28 : dec cX3_init 28 .arraylength 1 29 := ⟨by decide +kernel, rfl⟩
theorem dX3_init_29 : decJ cX3_init 29 (.if_icmp .ge) 3 32 51 := ⟨22, by decide +kernel, rfl, rfl⟩
theorem dX3_init_32 : dec cX3_init 32 (.aload_n 0) 1 33 := ⟨by decide +kernel, rfl⟩
theorem dX3_init_33 : dec cX3_init 33 (.getfield 11) 3 36 := ⟨by decide +kernel, rfl⟩
theorem dX3_init_36 : dec cX3_init 36 (.iload_n 1) 1 37 := ⟨by decide +kernel, rfl⟩
theorem dX3_init_37 : dec cX3_init 37 (.new 9) 3 40 := ⟨by decide +kernel, rfl⟩
theorem dX3_init_40 : dec cX3_init 40 .dup 1 41 := ⟨by decide +kernel, rfl⟩
theorem dX3_init_41 : dec cX3_init 41 (.invokespecial 23) 3 44 := ⟨by decide +kernel, rfl⟩
theorem dX3_init_44 : dec cX3_init 44 .aastore 1 45 := ⟨by decide +kernel, rfl⟩
theorem dX3_init_45 : dec cX3_init 45 (.iinc 1 1) 3 48 := ⟨by decide +kernel, rfl⟩
theorem dX3_init_48 : decJ cX3_init 48 .goto 3 51 23 := ⟨-25, by decide +kernel, rfl, rfl⟩
theorem dX3_init_51 : dec cX3_init 51 (.iconst 0) 1 52 := ⟨by decide +kernel, rfl⟩
theorem dX3_init_52 : dec cX3_init 52 (.istore_n 1) 1 53 := ⟨by decide +kernel, rfl⟩
theorem dX3_init_53 : dec cX3_init 53 (.iload_n 1) 1 54 := ⟨by decide +kernel, rfl⟩
theorem dX3_init_54 : dec cX3_init 54 (.aload_n 0) 1 55 := ⟨by decide +kernel, rfl⟩
theorem dX3_init_55 : dec cX3_init 55 (.getfield 19) 3 58 := ⟨by decide +kernel, rfl⟩
theorem dX3_init_58 : dec cX3_init 58 .arraylength 1 59 := ⟨by decide +kernel, rfl⟩
theorem dX3_init_59 : decJ cX3_init 59 (.if_icmp .ge) 3 62 81 := ⟨22, by decide +kernel, rfl, rfl⟩
theorem dX3_init_62 : dec cX3_init 62 (.aload_n 0) 1 63 := ⟨by decide +kernel, rfl⟩
theorem dX3_init_63 : dec cX3_init 63 (.getfield 19) 3 66 := ⟨by decide +kernel, rfl⟩
theorem dX3_init_66 : dec cX3_init 66 (.iload_n 1) 1 67 := ⟨by decide +kernel, rfl⟩
theorem dX3_init_67 : dec cX3_init 67 (.new 17) 3 70 := ⟨by decide +kernel, rfl⟩
theorem dX3_init_70 : dec cX3_init 70 .dup 1 71 := ⟨by decide +kernel, rfl⟩
theorem dX3_init_71 : dec cX3_init 71 (.invokespecial 24) 3 74 := ⟨by decide +kernel, rfl⟩
theorem dX3_init_74 : dec cX3_init 74 .aastore 1 75 := ⟨by decide +kernel, rfl⟩
theorem dX3_init_75 : dec cX3_init 75 (.iinc 1 1) 3 78 := ⟨by decide +kernel, rfl⟩
theorem dX3_init_78 : decJ cX3_init 78 .goto 3 81 53 := ⟨-25, by decide +kernel, rfl, rfl⟩
theorem dX3_init_81 : dec cX3_init 81 .return_ 1 82 := ⟨by decide +kernel, rfl⟩
theorem dX3_copy_0 : dec cX3_copy 0 (.iconst 0) 1 1 := ⟨by decide +kernel, rfl⟩
theorem dX3_copy_1 : dec cX3_copy 1 (.istore_n 2) 1 2 := ⟨by decide +kernel, rfl⟩
theorem dX3_copy_2 : dec cX3_copy 2 (.iload_n 2) 1 3 := ⟨by decide +kernel, rfl⟩
theorem dX3_copy_3 : dec cX3_copy 3 (.aload_n 0) 1 4 := ⟨by decide +kernel, rfl⟩
theorem dX3_copy_4 : dec cX3_copy 4 (.getfield 11) 3 7 := ⟨by decide +kernel, rfl⟩
theorem dX3_copy_7 : dec cX3_copy 7 .arraylength 1 8 := ⟨by decide +kernel, rfl⟩
theorem dX3_copy_8 : decJ cX3_copy 8 (.if_icmp .ge) 3 11 41 := ⟨33, by decide +kernel, rfl, rfl⟩
theorem dX3_copy_11 : dec cX3_copy 11 (.iload_n 2) 1 12 := ⟨by decide +kernel, rfl⟩
theorem dX3_copy_12 : dec cX3_copy 12 (.aload_n 1) 1 13 := ⟨by decide +kernel, rfl⟩
theorem dX3_copy_13 : dec cX3_copy 13 (.getfield 11) 3 16 := ⟨by decide +kernel, rfl⟩
theorem dX3_copy_16 : dec cX3_copy 16 .arraylength 1 17 := ⟨by decide +kernel, rfl⟩
theorem dX3_copy_17 : decJ cX3_copy 17 (.if_icmp .ge) 3 20 41 := ⟨24, by decide +kernel, rfl, rfl⟩
theorem dX3_copy_20 : dec cX3_copy 20 (.aload_n 0) 1 21 := ⟨by decide +kernel, rfl⟩
theorem dX3_copy_21 : dec cX3_copy 21 (.getfield 11) 3 24 := ⟨by decide +kernel, rfl⟩
theorem dX3_copy_24 : dec cX3_copy 24 (.iload_n 2) 1 25 := ⟨by decide +kernel, rfl⟩
theorem dX3_copy_25 : dec cX3_copy 25 .aaload 1 26 := ⟨by decide +kernel, rfl⟩
theorem dX3_copy_26 : dec cX3_copy 26 (.aload_n 1) 1 27 := ⟨by decide +kernel, rfl⟩
theorem dX3_copy_27 : dec cX3_copy 27 (.getfield 11) 3 30 := ⟨by decide +kernel, rfl⟩
theorem dX3_copy_30 : dec cX3_copy 30 (.iload_n 2) 1 31 := ⟨by decide +kernel, rfl⟩
theorem dX3_copy_31 : dec cX3_copy 31 .aaload 1 32 := ⟨by decide +kernel, rfl⟩
theorem dX3_copy_32 : dec cX3_copy 32 (.invokevirtual 25) 3 35 := ⟨by decide +kernel, rfl⟩
theorem dX3_copy_35 : dec cX3_copy 35 (.iinc 2 1) 3 38 := ⟨by decide +kernel, rfl⟩
theorem dX3_copy_38 : decJ cX3_copy 38 .goto 3 41 2 := ⟨-36, by decide +kernel, rfl, rfl⟩
theorem dX3_copy_41 : dec cX3_copy 41 (.iconst 0) 1 42 := ⟨by decide +kernel, rfl⟩
theorem dX3_copy_42 : dec cX3_copy 42 (.istore_n 2) 1 43 := ⟨by decide +kernel, rfl⟩
theorem dX3_copy_43 : dec cX3_copy 43 (.iload_n 2) 1 44 := ⟨by decide +kernel, rfl⟩
theorem dX3_copy_44 : dec cX3_copy 44 (.aload_n 0) 1 45 := ⟨by decide +kernel, rfl⟩
theorem dX3_copy_45 : dec cX3_copy 45 (.getfield 19) 3 48 := ⟨by decide +kernel, rfl⟩
theorem dX3_copy_48 : dec cX3_copy 48 .arraylength 1 49 := ⟨by decide +kernel, rfl⟩
theorem dX3_copy_49 : decJ cX3_copy 49 (.if_icmp .ge) 3 52 82 := ⟨33, by decide +kernel, rfl, rfl⟩
theorem dX3_copy_52 : dec cX3_copy 52 (.iload_n 2) 1 53 := ⟨by decide +kernel, rfl⟩
theorem dX3_copy_53 : dec cX3_copy 53 (.aload_n 1) 1 54 := ⟨by decide +kernel, rfl⟩
theorem dX3_copy_54 : dec cX3_copy 54 (.getfield 19) 3 57 := ⟨by decide +kernel, rfl⟩
theorem dX3_copy_57 : dec cX3_copy 57 .arraylength 1 58 := ⟨by decide +kernel, rfl⟩
theorem dX3_copy_58 : decJ cX3_copy 58 (.if_icmp .ge) 3 61 82 := ⟨24, by decide +kernel, rfl, rfl⟩
theorem dX3_copy_61 : dec cX3_copy 61 (.aload_n 0) 1 62 := ⟨by decide +kernel, rfl⟩
theorem dX3_copy_62 : dec cX3_copy 62 (.getfield 19) 3 65 := ⟨by decide +kernel, rfl⟩
theorem dX3_copy_65 : dec cX3_copy 65 (.iload_n 2) 1 66 := ⟨by decide +kernel, rfl⟩
theorem dX3_copy_66 : dec cX3_copy 66 .aaload 1 67 := ⟨by decide +kernel, rfl⟩
theorem dX3_copy_67 : dec cX3_copy 67 (.aload_n 1) 1 68 := ⟨by decide +kernel, rfl⟩
theorem dX3_copy_68 : dec cX3_copy 68 (.getfield 19) 3 71 := ⟨by decide +kernel, rfl⟩
theorem dX3_copy_71 : dec cX3_copy 71 (.iload_n 2) 1 72 := ⟨by decide +kernel, rfl⟩
theorem dX3_copy_72 : dec cX3_copy 72 .aaload 1 73 := ⟨by decide +kernel, rfl⟩
theorem dX3_copy_73 : dec cX3_copy 73 (.invokevirtual 29) 3 76 := ⟨by decide +kernel, rfl⟩
theorem dX3_copy_76 : dec cX3_copy 76 (.iinc 2 1) 3 79 := ⟨by decide +kernel, rfl⟩
theorem dX3_copy_79 : decJ cX3_copy 79 .goto 3 82 43 := ⟨-36, by decide +kernel, rfl, rfl⟩
theorem dX3_copy_82 : dec cX3_copy 82 (.aload_n 0) 1 83 := ⟨by decide +kernel, rfl⟩
theorem dX3_copy_83 : dec cX3_copy 83 (.aload_n 1) 1 84 := ⟨by decide +kernel, rfl⟩
theorem dX3_copy_84 : dec cX3_copy 84 (.getfield 32) 3 87 := ⟨by decide +kernel, rfl⟩
theorem dX3_copy_87 : dec cX3_copy 87 (.putfield 32) 3 90 := ⟨by decide +kernel, rfl⟩
theorem dX3_copy_90 : dec cX3_copy 90 (.aload_n 0) 1 91 := ⟨by decide +kernel, rfl⟩
theorem dX3_copy_91 : dec cX3_copy 91 (.aload_n 1) 1 92 := ⟨by decide +kernel, rfl⟩
theorem dX3_copy_92 : dec cX3_copy 92 (.getfield 36) 3 95 := ⟨by decide +kernel, rfl⟩
theorem dX3_copy_95 : dec cX3_copy 95 (.putfield 36) 3 98 := ⟨by decide +kernel, rfl⟩
theorem dX3_copy_98 : dec cX3_copy 98 .return_ 1 99 := ⟨by decide +kernel, rfl⟩
theorem dX3_clear_0 : dec cX3_clear 0 (.iconst 0) 1 1 := ⟨by decide +kernel, rfl⟩
theorem dX3_clear_1 : dec cX3_clear 1 (.istore_n 1) 1 2 := ⟨by decide +kernel, rfl⟩
theorem dX3_clear_2 : dec cX3_clear 2 (.iload_n 1) 1 3 := ⟨by decide +kernel, rfl⟩
theorem dX3_clear_3 : dec cX3_clear 3 (.aload_n 0) 1 4 := ⟨by decide +kernel, rfl⟩
theorem dX3_clear_4 : dec cX3_clear 4 (.getfield 11) 3 7 := ⟨by decide +kernel, rfl⟩
theorem dX3_clear_7 : dec cX3_clear 7 .arraylength 1 8 := ⟨by decide +kernel, rfl⟩
theorem dX3_clear_8 : decJ cX3_clear 8 (.if_icmp .ge) 3 11 27 := ⟨19, by decide +kernel, rfl, rfl⟩
theorem dX3_clear_11 : dec cX3_clear 11 (.aload_n 0) 1 12 := ⟨by decide +kernel, rfl⟩
theorem dX3_clear_12 : dec cX3_clear 12 (.getfield 11) 3 15 := ⟨by decide +kernel, rfl⟩
theorem dX3_clear_15 : dec cX3_clear 15 (.iload_n 1) 1 16 := ⟨by decide +kernel, rfl⟩
theorem dX3_clear_16 : dec cX3_clear 16 .aaload 1 17 := ⟨by decide +kernel, rfl⟩
theorem dX3_clear_17 : dec cX3_clear 17 (.iconst 0) 1 18 := ⟨by decide +kernel, rfl⟩
theorem dX3_clear_18 : dec cX3_clear 18 (.putfield 39) 3 21 := ⟨by decide +kernel, rfl⟩
theorem dX3_clear_21 : dec cX3_clear 21 (.iinc 1 1) 3 24 := ⟨by decide +kernel, rfl⟩
theorem dX3_clear_24 : decJ cX3_clear 24 .goto 3 27 2 := ⟨-22, by decide +kernel, rfl, rfl⟩
theorem dX3_clear_27 : dec cX3_clear 27 (.iconst 0) 1 28 := ⟨by decide +kernel, rfl⟩
theorem dX3_clear_28 : dec cX3_clear 28 (.istore_n 1) 1 29 := ⟨by decide +kernel, rfl⟩
theorem dX3_clear_29 : dec cX3_clear 29 (.iload_n 1) 1 30 := ⟨by decide +kernel, rfl⟩
theorem dX3_clear_30 : dec cX3_clear 30 (.aload_n 0) 1 31 := ⟨by decide +kernel, rfl⟩
theorem dX3_clear_31 : dec cX3_clear 31 (.getfield 19) 3 34 := ⟨by decide +kernel, rfl⟩
theorem dX3_clear_34 : dec cX3_clear 34 .arraylength 1 35 := ⟨by decide +kernel, rfl⟩
theorem dX3_clear_35 : decJ cX3_clear 35 (.if_icmp .ge) 3 38 54 := ⟨19, by decide +kernel, rfl, rfl⟩
theorem dX3_clear_38 : dec cX3_clear 38 (.aload_n 0) 1 39 := ⟨by decide +kernel, rfl⟩
theorem dX3_clear_39 : dec cX3_clear 39 (.getfield 19) 3 42 := ⟨by decide +kernel, rfl⟩
theorem dX3_clear_42 : dec cX3_clear 42 (.iload_n 1) 1 43 := ⟨by decide +kernel, rfl⟩
theorem dX3_clear_43 : dec cX3_clear 43 .aaload 1 44 := ⟨by decide +kernel, rfl⟩
theorem dX3_clear_44 : dec cX3_clear 44 (.iconst 0) 1 45 := ⟨by decide +kernel, rfl⟩
theorem dX3_clear_45 : dec cX3_clear 45 (.putfield 43) 3 48 := ⟨by decide +kernel, rfl⟩
theorem dX3_clear_48 : dec cX3_clear 48 (.iinc 1 1) 3 51 := ⟨by decide +kernel, rfl⟩
theorem dX3_clear_51 : decJ cX3_clear 51 .goto 3 54 29 := ⟨-22, by decide +kernel, rfl, rfl⟩
theorem dX3_clear_54 : dec cX3_clear 54 (.aload_n 0) 1 55 := ⟨by decide +kernel, rfl⟩
theorem dX3_clear_55 : dec cX3_clear 55 (.bipush 10) 2 57 := ⟨by decide +kernel, rfl⟩
theorem dX3_clear_57 : dec cX3_clear 57 (.putfield 32) 3 60 := ⟨by decide +kernel, rfl⟩
theorem dX3_clear_60 : dec cX3_clear 60 (.aload_n 0) 1 61 := ⟨by decide +kernel, rfl⟩
theorem dX3_clear_61 : dec cX3_clear 61 (.iconst 0) 1 62 := ⟨by decide +kernel, rfl⟩
theorem dX3_clear_62 : dec cX3_clear 62 (.putfield 36) 3 65 := ⟨by decide +kernel, rfl⟩
theorem dX3_clear_65 : dec cX3_clear 65 .return_ 1 66 := ⟨by decide +kernel, rfl⟩
theorem dX3_townAt_0 : dec cX3_townAt 0 (.iload_n 1) 1 1 := ⟨by decide +kernel, rfl⟩
theorem dX3_townAt_1 : decJ cX3_townAt 1 (.ifCond .lt) 3 4 34 := ⟨33, by decide +kernel, rfl, rfl⟩
theorem dX3_townAt_4 : dec cX3_townAt 4 (.iload_n 1) 1 5 := ⟨by decide +kernel, rfl⟩
theorem dX3_townAt_5 : dec cX3_townAt 5 (.aload_n 0) 1 6 := ⟨by decide +kernel, rfl⟩
theorem dX3_townAt_6 : dec cX3_townAt 6 (.getfield 11) 3 9 := ⟨by decide +kernel, rfl⟩
theorem dX3_townAt_9 : dec cX3_townAt 9 .arraylength 1 10 := ⟨by decide +kernel, rfl⟩
theorem dX3_townAt_10 : decJ cX3_townAt 10 (.if_icmp .ge) 3 13 34 := ⟨24, by decide +kernel, rfl, rfl⟩
theorem dX3_townAt_13 : dec cX3_townAt 13 (.aload_n 0) 1 14 := ⟨by decide +kernel, rfl⟩
theorem dX3_townAt_14 : dec cX3_townAt 14 (.getfield 11) 3 17 := ⟨by decide +kernel, rfl⟩
theorem dX3_townAt_17 : dec cX3_townAt 17 (.iload_n 1) 1 18 := ⟨by decide +kernel, rfl⟩
theorem dX3_townAt_18 : dec cX3_townAt 18 .aaload 1 19 := ⟨by decide +kernel, rfl⟩
theorem dX3_townAt_19 : dec cX3_townAt 19 (.getfield 39) 3 22 := ⟨by decide +kernel, rfl⟩
theorem dX3_townAt_22 : decJ cX3_townAt 22 (.ifCond .eq) 3 25 34 := ⟨12, by decide +kernel, rfl, rfl⟩
theorem dX3_townAt_25 : dec cX3_townAt 25 (.aload_n 0) 1 26 := ⟨by decide +kernel, rfl⟩
theorem dX3_townAt_26 : dec cX3_townAt 26 (.getfield 11) 3 29 := ⟨by decide +kernel, rfl⟩
theorem dX3_townAt_29 : dec cX3_townAt 29 (.iload_n 1) 1 30 := ⟨by decide +kernel, rfl⟩
theorem dX3_townAt_30 : dec cX3_townAt 30 .aaload 1 31 := ⟨by decide +kernel, rfl⟩
theorem dX3_townAt_31 : decJ cX3_townAt 31 .goto 3 34 35 := ⟨4, by decide +kernel, rfl, rfl⟩
theorem dX3_townAt_34 : dec cX3_townAt 34 .aconst_null 1 35 := ⟨by decide +kernel, rfl⟩
theorem dX3_townAt_35 : dec cX3_townAt 35 .areturn 1 36 := ⟨by decide +kernel, rfl⟩
theorem dX3_crewAt_0 : dec cX3_crewAt 0 (.iload_n 1) 1 1 := ⟨by decide +kernel, rfl⟩
theorem dX3_crewAt_1 : decJ cX3_crewAt 1 (.ifCond .lt) 3 4 34 := ⟨33, by decide +kernel, rfl, rfl⟩
theorem dX3_crewAt_4 : dec cX3_crewAt 4 (.iload_n 1) 1 5 := ⟨by decide +kernel, rfl⟩
theorem dX3_crewAt_5 : dec cX3_crewAt 5 (.aload_n 0) 1 6 := ⟨by decide +kernel, rfl⟩
theorem dX3_crewAt_6 : dec cX3_crewAt 6 (.getfield 19) 3 9 := ⟨by decide +kernel, rfl⟩
theorem dX3_crewAt_9 : dec cX3_crewAt 9 .arraylength 1 10 := ⟨by decide +kernel, rfl⟩
theorem dX3_crewAt_10 : decJ cX3_crewAt 10 (.if_icmp .ge) 3 13 34 := ⟨24, by decide +kernel, rfl, rfl⟩
theorem dX3_crewAt_13 : dec cX3_crewAt 13 (.aload_n 0) 1 14 := ⟨by decide +kernel, rfl⟩
theorem dX3_crewAt_14 : dec cX3_crewAt 14 (.getfield 19) 3 17 := ⟨by decide +kernel, rfl⟩
theorem dX3_crewAt_17 : dec cX3_crewAt 17 (.iload_n 1) 1 18 := ⟨by decide +kernel, rfl⟩
theorem dX3_crewAt_18 : dec cX3_crewAt 18 .aaload 1 19 := ⟨by decide +kernel, rfl⟩
theorem dX3_crewAt_19 : dec cX3_crewAt 19 (.getfield 43) 3 22 := ⟨by decide +kernel, rfl⟩
theorem dX3_crewAt_22 : decJ cX3_crewAt 22 (.ifCond .eq) 3 25 34 := ⟨12, by decide +kernel, rfl, rfl⟩
theorem dX3_crewAt_25 : dec cX3_crewAt 25 (.aload_n 0) 1 26 := ⟨by decide +kernel, rfl⟩
theorem dX3_crewAt_26 : dec cX3_crewAt 26 (.getfield 19) 3 29 := ⟨by decide +kernel, rfl⟩
theorem dX3_crewAt_29 : dec cX3_crewAt 29 (.iload_n 1) 1 30 := ⟨by decide +kernel, rfl⟩
theorem dX3_crewAt_30 : dec cX3_crewAt 30 .aaload 1 31 := ⟨by decide +kernel, rfl⟩
theorem dX3_crewAt_31 : decJ cX3_crewAt 31 .goto 3 34 35 := ⟨4, by decide +kernel, rfl, rfl⟩
theorem dX3_crewAt_34 : dec cX3_crewAt 34 .aconst_null 1 35 := ⟨by decide +kernel, rfl⟩
theorem dX3_crewAt_35 : dec cX3_crewAt 35 .areturn 1 36 := ⟨by decide +kernel, rfl⟩
theorem dX3_standsAt_0 : dec cX3_standsAt 0 (.aload_n 0) 1 1 := ⟨by decide +kernel, rfl⟩
theorem dX3_standsAt_1 : dec cX3_standsAt 1 (.iload_n 1) 1 2 := ⟨by decide +kernel, rfl⟩
theorem dX3_standsAt_2 : dec cX3_standsAt 2 (.invokevirtual 44) 3 5 := ⟨by decide +kernel, rfl⟩
theorem dX3_standsAt_5 : dec cX3_standsAt 5 (.astore_n 2) 1 6 := ⟨by decide +kernel, rfl⟩
theorem dX3_standsAt_6 : dec cX3_standsAt 6 (.aload_n 2) 1 7 := ⟨by decide +kernel, rfl⟩
theorem dX3_standsAt_7 : decJ cX3_standsAt 7 .ifnull 3 10 21 := ⟨14, by decide +kernel, rfl, rfl⟩
theorem dX3_standsAt_10 : dec cX3_standsAt 10 (.aload_n 2) 1 11 := ⟨by decide +kernel, rfl⟩
theorem dX3_standsAt_11 : dec cX3_standsAt 11 (.getfield 48) 3 14 := ⟨by decide +kernel, rfl⟩
theorem dX3_standsAt_14 : decJ cX3_standsAt 14 (.ifCond .ne) 3 17 21 := ⟨7, by decide +kernel, rfl, rfl⟩
theorem dX3_standsAt_17 : dec cX3_standsAt 17 (.iconst 1) 1 18 := ⟨by decide +kernel, rfl⟩
theorem dX3_standsAt_18 : decJ cX3_standsAt 18 .goto 3 21 22 := ⟨4, by decide +kernel, rfl, rfl⟩
theorem dX3_standsAt_21 : dec cX3_standsAt 21 (.iconst 0) 1 22 := ⟨by decide +kernel, rfl⟩
theorem dX3_standsAt_22 : dec cX3_standsAt 22 .ireturn 1 23 := ⟨by decide +kernel, rfl⟩
theorem dX3_settle_0 : dec cX3_settle 0 (.aload_n 0) 1 1 := ⟨by decide +kernel, rfl⟩
theorem dX3_settle_1 : dec cX3_settle 1 (.invokevirtual 51) 3 4 := ⟨by decide +kernel, rfl⟩
theorem dX3_settle_4 : dec cX3_settle 4 (.istore 5) 2 6 := ⟨by decide +kernel, rfl⟩
theorem dX3_settle_6 : dec cX3_settle 6 (.iload_n 1) 1 7 := ⟨by decide +kernel, rfl⟩
theorem dX3_settle_7 : dec cX3_settle 7 (.iconst 3) 1 8 := ⟨by decide +kernel, rfl⟩
theorem dX3_settle_8 : decJ cX3_settle 8 (.if_icmp .gt) 3 11 34 := ⟨26, by decide +kernel, rfl, rfl⟩
theorem dX3_settle_11 : dec cX3_settle 11 (.iload_n 3) 1 12 := ⟨by decide +kernel, rfl⟩
theorem dX3_settle_12 : dec cX3_settle 12 (.bipush 30) 2 14 := ⟨by decide +kernel, rfl⟩
theorem dX3_settle_14 : decJ cX3_settle 14 (.if_icmp .gt) 3 17 34 := ⟨20, by decide +kernel, rfl, rfl⟩
theorem dX3_settle_17 : dec cX3_settle 17 (.iload 4) 2 19 := ⟨by decide +kernel, rfl⟩
theorem dX3_settle_19 : dec cX3_settle 19 (.bipush 9) 2 21 := ⟨by decide +kernel, rfl⟩
theorem dX3_settle_21 : decJ cX3_settle 21 (.if_icmp .gt) 3 24 34 := ⟨13, by decide +kernel, rfl, rfl⟩
theorem dX3_settle_24 : dec cX3_settle 24 (.iload 5) 2 26 := ⟨by decide +kernel, rfl⟩
theorem dX3_settle_26 : dec cX3_settle 26 (.aload_n 0) 1 27 := ⟨by decide +kernel, rfl⟩
theorem dX3_settle_27 : dec cX3_settle 27 (.getfield 11) 3 30 := ⟨by decide +kernel, rfl⟩
theorem dX3_settle_30 : dec cX3_settle 30 .arraylength 1 31 := ⟨by decide +kernel, rfl⟩
theorem dX3_settle_31 : decJ cX3_settle 31 (.if_icmp .lt) 3 34 36 := ⟨5, by decide +kernel, rfl, rfl⟩
theorem dX3_settle_34 : dec cX3_settle 34 (.iconst 0) 1 35 := ⟨by decide +kernel, rfl⟩
theorem dX3_settle_35 : dec cX3_settle 35 .ireturn 1 36 := ⟨by decide +kernel, rfl⟩
theorem dX3_settle_36 : dec cX3_settle 36 (.aload_n 0) 1 37 := ⟨by decide +kernel, rfl⟩
theorem dX3_settle_37 : dec cX3_settle 37 (.getfield 11) 3 40 := ⟨by decide +kernel, rfl⟩
theorem dX3_settle_40 : dec cX3_settle 40 (.iload 5) 2 42 := ⟨by decide +kernel, rfl⟩
theorem dX3_settle_42 : dec cX3_settle 42 .aaload 1 43 := ⟨by decide +kernel, rfl⟩
theorem dX3_settle_43 : dec cX3_settle 43 (.astore 6) 2 45 := ⟨by decide +kernel, rfl⟩
theorem dX3_settle_45 : dec cX3_settle 45 (.aload 6) 2 47 := ⟨by decide +kernel, rfl⟩
theorem dX3_settle_47 : dec cX3_settle 47 (.iconst 1) 1 48 := ⟨by decide +kernel, rfl⟩
theorem dX3_settle_48 : dec cX3_settle 48 (.putfield 39) 3 51 := ⟨by decide +kernel, rfl⟩
theorem dX3_settle_51 : dec cX3_settle 51 (.aload 6) 2 53 := ⟨by decide +kernel, rfl⟩
theorem dX3_settle_53 : dec cX3_settle 53 (.iconst 0) 1 54 := ⟨by decide +kernel, rfl⟩
theorem dX3_settle_54 : dec cX3_settle 54 (.putfield 48) 3 57 := ⟨by decide +kernel, rfl⟩
theorem dX3_settle_57 : dec cX3_settle 57 (.aload 6) 2 59 := ⟨by decide +kernel, rfl⟩
theorem dX3_settle_59 : dec cX3_settle 59 (.iload_n 1) 1 60 := ⟨by decide +kernel, rfl⟩
theorem dX3_settle_60 : dec cX3_settle 60 (.putfield 55) 3 63 := ⟨by decide +kernel, rfl⟩
theorem dX3_settle_63 : dec cX3_settle 63 (.aload 6) 2 65 := ⟨by decide +kernel, rfl⟩
theorem dX3_settle_65 : dec cX3_settle 65 (.iload_n 2) 1 66 := ⟨by decide +kernel, rfl⟩
theorem dX3_settle_66 : dec cX3_settle 66 (.putfield 58) 3 69 := ⟨by decide +kernel, rfl⟩
theorem dX3_settle_69 : dec cX3_settle 69 (.aload 6) 2 71 := ⟨by decide +kernel, rfl⟩
theorem dX3_settle_71 : dec cX3_settle 71 (.iload_n 3) 1 72 := ⟨by decide +kernel, rfl⟩
theorem dX3_settle_72 : dec cX3_settle 72 (.putfield 61) 3 75 := ⟨by decide +kernel, rfl⟩
theorem dX3_settle_75 : dec cX3_settle 75 (.aload 6) 2 77 := ⟨by decide +kernel, rfl⟩
theorem dX3_settle_77 : dec cX3_settle 77 (.iload 4) 2 79 := ⟨by decide +kernel, rfl⟩
theorem dX3_settle_79 : dec cX3_settle 79 (.putfield 64) 3 82 := ⟨by decide +kernel, rfl⟩
theorem dX3_settle_82 : dec cX3_settle 82 (.aload 6) 2 84 := ⟨by decide +kernel, rfl⟩
theorem dX3_settle_84 : dec cX3_settle 84 (.iconst 0) 1 85 := ⟨by decide +kernel, rfl⟩
theorem dX3_settle_85 : dec cX3_settle 85 (.putfield 67) 3 88 := ⟨by decide +kernel, rfl⟩
theorem dX3_settle_88 : dec cX3_settle 88 (.aload 6) 2 90 := ⟨by decide +kernel, rfl⟩
theorem dX3_settle_90 : dec cX3_settle 90 (.iconst 0) 1 91 := ⟨by decide +kernel, rfl⟩
theorem dX3_settle_91 : dec cX3_settle 91 (.putfield 70) 3 94 := ⟨by decide +kernel, rfl⟩
theorem dX3_settle_94 : dec cX3_settle 94 (.iconst 1) 1 95 := ⟨by decide +kernel, rfl⟩
theorem dX3_settle_95 : dec cX3_settle 95 .ireturn 1 96 := ⟨by decide +kernel, rfl⟩
theorem dX3_man_0 : dec cX3_man 0 (.aload_n 0) 1 1 := ⟨by decide +kernel, rfl⟩
theorem dX3_man_1 : dec cX3_man 1 (.invokevirtual 73) 3 4 := ⟨by decide +kernel, rfl⟩
theorem dX3_man_4 : dec cX3_man 4 (.istore_n 3) 1 5 := ⟨by decide +kernel, rfl⟩
theorem dX3_man_5 : dec cX3_man 5 (.iload_n 1) 1 6 := ⟨by decide +kernel, rfl⟩
theorem dX3_man_6 : dec cX3_man 6 (.iconst 1) 1 7 := ⟨by decide +kernel, rfl⟩
theorem dX3_man_7 : decJ cX3_man 7 (.if_icmp .lt) 3 10 36 := ⟨29, by decide +kernel, rfl, rfl⟩
theorem dX3_man_10 : dec cX3_man 10 (.iload_n 1) 1 11 := ⟨by decide +kernel, rfl⟩
theorem dX3_man_11 : dec cX3_man 11 (.bipush 60) 2 13 := ⟨by decide +kernel, rfl⟩
theorem dX3_man_13 : decJ cX3_man 13 (.if_icmp .gt) 3 16 36 := ⟨23, by decide +kernel, rfl, rfl⟩
theorem dX3_man_16 : dec cX3_man 16 (.iload_n 2) 1 17 := ⟨by decide +kernel, rfl⟩
theorem dX3_man_17 : dec cX3_man 17 (.iconst 1) 1 18 := ⟨by decide +kernel, rfl⟩
theorem dX3_man_18 : decJ cX3_man 18 (.if_icmp .lt) 3 21 36 := ⟨18, by decide +kernel, rfl, rfl⟩
theorem dX3_man_21 : dec cX3_man 21 (.iload_n 2) 1 22 := ⟨by decide +kernel, rfl⟩
theorem dX3_man_22 : dec cX3_man 22 (.bipush 60) 2 24 := ⟨by decide +kernel, rfl⟩
theorem dX3_man_24 : decJ cX3_man 24 (.if_icmp .gt) 3 27 36 := ⟨12, by decide +kernel, rfl, rfl⟩
theorem dX3_man_27 : dec cX3_man 27 (.iload_n 3) 1 28 := ⟨by decide +kernel, rfl⟩
theorem dX3_man_28 : dec cX3_man 28 (.aload_n 0) 1 29 := ⟨by decide +kernel, rfl⟩
theorem dX3_man_29 : dec cX3_man 29 (.getfield 19) 3 32 := ⟨by decide +kernel, rfl⟩
theorem dX3_man_32 : dec cX3_man 32 .arraylength 1 33 := ⟨by decide +kernel, rfl⟩
theorem dX3_man_33 : decJ cX3_man 33 (.if_icmp .lt) 3 36 38 := ⟨5, by decide +kernel, rfl, rfl⟩
theorem dX3_man_36 : dec cX3_man 36 (.iconst 0) 1 37 := ⟨by decide +kernel, rfl⟩
theorem dX3_man_37 : dec cX3_man 37 .ireturn 1 38 := ⟨by decide +kernel, rfl⟩
theorem dX3_man_38 : dec cX3_man 38 (.aload_n 0) 1 39 := ⟨by decide +kernel, rfl⟩
theorem dX3_man_39 : dec cX3_man 39 (.getfield 19) 3 42 := ⟨by decide +kernel, rfl⟩
theorem dX3_man_42 : dec cX3_man 42 (.iload_n 3) 1 43 := ⟨by decide +kernel, rfl⟩
theorem dX3_man_43 : dec cX3_man 43 .aaload 1 44 := ⟨by decide +kernel, rfl⟩
theorem dX3_man_44 : dec cX3_man 44 (.astore 4) 2 46 := ⟨by decide +kernel, rfl⟩
theorem dX3_man_46 : dec cX3_man 46 (.aload 4) 2 48 := ⟨by decide +kernel, rfl⟩
theorem dX3_man_48 : dec cX3_man 48 (.iconst 1) 1 49 := ⟨by decide +kernel, rfl⟩
theorem dX3_man_49 : dec cX3_man 49 (.putfield 43) 3 52 := ⟨by decide +kernel, rfl⟩
theorem dX3_man_52 : dec cX3_man 52 (.aload 4) 2 54 := ⟨by decide +kernel, rfl⟩
theorem dX3_man_54 : dec cX3_man 54 (.iconst 0) 1 55 := ⟨by decide +kernel, rfl⟩
theorem dX3_man_55 : dec cX3_man 55 (.putfield 76) 3 58 := ⟨by decide +kernel, rfl⟩
theorem dX3_man_58 : dec cX3_man 58 (.aload 4) 2 60 := ⟨by decide +kernel, rfl⟩
theorem dX3_man_60 : dec cX3_man 60 (.iload_n 1) 1 61 := ⟨by decide +kernel, rfl⟩
theorem dX3_man_61 : dec cX3_man 61 (.putfield 79) 3 64 := ⟨by decide +kernel, rfl⟩
theorem dX3_man_64 : dec cX3_man 64 (.aload 4) 2 66 := ⟨by decide +kernel, rfl⟩
theorem dX3_man_66 : dec cX3_man 66 (.iload_n 2) 1 67 := ⟨by decide +kernel, rfl⟩
theorem dX3_man_67 : dec cX3_man 67 (.putfield 82) 3 70 := ⟨by decide +kernel, rfl⟩
theorem dX3_man_70 : dec cX3_man 70 (.iconst 0) 1 71 := ⟨by decide +kernel, rfl⟩
theorem dX3_man_71 : dec cX3_man 71 (.istore 5) 2 73 := ⟨by decide +kernel, rfl⟩
theorem dX3_man_73 : dec cX3_man 73 (.iload 5) 2 75 := ⟨by decide +kernel, rfl⟩
theorem dX3_man_75 : dec cX3_man 75 (.bipush 6) 2 77 := ⟨by decide +kernel, rfl⟩
theorem dX3_man_77 : decJ cX3_man 77 (.if_icmp .ge) 3 80 94 := ⟨17, by decide +kernel, rfl, rfl⟩
theorem dX3_man_80 : dec cX3_man 80 (.aload 4) 2 82 := ⟨by decide +kernel, rfl⟩
theorem dX3_man_82 : dec cX3_man 82 (.iload 5) 2 84 := ⟨by decide +kernel, rfl⟩
theorem dX3_man_84 : dec cX3_man 84 (.iconst 0) 1 85 := ⟨by decide +kernel, rfl⟩
theorem dX3_man_85 : dec cX3_man 85 (.invokevirtual 85) 3 88 := ⟨by decide +kernel, rfl⟩
theorem dX3_man_88 : dec cX3_man 88 (.iinc 5 1) 3 91 := ⟨by decide +kernel, rfl⟩
theorem dX3_man_91 : decJ cX3_man 91 .goto 3 94 73 := ⟨-18, by decide +kernel, rfl, rfl⟩
theorem dX3_man_94 : dec cX3_man 94 (.iconst 1) 1 95 := ⟨by decide +kernel, rfl⟩
theorem dX3_man_95 : dec cX3_man 95 .ireturn 1 96 := ⟨by decide +kernel, rfl⟩
theorem dX3_goWay_0 : dec cX3_goWay 0 (.aload_n 0) 1 1 := ⟨by decide +kernel, rfl⟩
theorem dX3_goWay_1 : dec cX3_goWay 1 (.iload_n 1) 1 2 := ⟨by decide +kernel, rfl⟩
theorem dX3_goWay_2 : dec cX3_goWay 2 (.invokevirtual 44) 3 5 := ⟨by decide +kernel, rfl⟩
theorem dX3_goWay_5 : dec cX3_goWay 5 (.astore_n 3) 1 6 := ⟨by decide +kernel, rfl⟩
theorem dX3_goWay_6 : dec cX3_goWay 6 (.aload_n 3) 1 7 := ⟨by decide +kernel, rfl⟩
theorem dX3_goWay_7 : decJ cX3_goWay 7 .ifnull 3 10 15 := ⟨8, by decide +kernel, rfl, rfl⟩
theorem dX3_goWay_10 : dec cX3_goWay 10 (.iload_n 2) 1 11 := ⟨by decide +kernel, rfl⟩
theorem dX3_goWay_11 : dec cX3_goWay 11 (.iconst 4) 1 12 := ⟨by decide +kernel, rfl⟩
theorem dX3_goWay_12 : decJ cX3_goWay 12 (.if_icmp .lt) 3 15 17 := ⟨5, by decide +kernel, rfl, rfl⟩
theorem dX3_goWay_15 : dec cX3_goWay 15 (.iconst 0) 1 16 := ⟨by decide +kernel, rfl⟩
theorem dX3_goWay_16 : dec cX3_goWay 16 .ireturn 1 17 := ⟨by decide +kernel, rfl⟩
theorem dX3_goWay_17 : dec cX3_goWay 17 (.aload_n 3) 1 18 := ⟨by decide +kernel, rfl⟩
theorem dX3_goWay_18 : dec cX3_goWay 18 (.iload_n 2) 1 19 := ⟨by decide +kernel, rfl⟩
theorem dX3_goWay_19 : dec cX3_goWay 19 (.putfield 67) 3 22 := ⟨by decide +kernel, rfl⟩
theorem dX3_goWay_22 : dec cX3_goWay 22 (.iconst 1) 1 23 := ⟨by decide +kernel, rfl⟩
theorem dX3_goWay_23 : dec cX3_goWay 23 .ireturn 1 24 := ⟨by decide +kernel, rfl⟩
theorem dX3_costWalls_0 : dec cX3_costWalls 0 (.iload_n 1) 1 1 := ⟨by decide +kernel, rfl⟩
theorem dX3_costWalls_1 : dec cX3_costWalls 1 (.iconst 1) 1 2 := ⟨by decide +kernel, rfl⟩
theorem dX3_costWalls_2 : decJ cX3_costWalls 2 (.if_icmp .lt) 3 5 11 := ⟨9, by decide +kernel, rfl, rfl⟩
theorem dX3_costWalls_5 : dec cX3_costWalls 5 (.iload_n 1) 1 6 := ⟨by decide +kernel, rfl⟩
theorem dX3_costWalls_6 : dec cX3_costWalls 6 (.bipush 30) 2 8 := ⟨by decide +kernel, rfl⟩
theorem dX3_costWalls_8 : decJ cX3_costWalls 8 (.if_icmp .le) 3 11 13 := ⟨5, by decide +kernel, rfl, rfl⟩
theorem dX3_costWalls_11 : dec cX3_costWalls 11 (.iconst 0) 1 12 := ⟨by decide +kernel, rfl⟩
theorem dX3_costWalls_12 : dec cX3_costWalls 12 .ireturn 1 13 := ⟨by decide +kernel, rfl⟩
theorem dX3_costWalls_13 : dec cX3_costWalls 13 (.aload_n 0) 1 14 := ⟨by decide +kernel, rfl⟩
theorem dX3_costWalls_14 : dec cX3_costWalls 14 (.iload_n 1) 1 15 := ⟨by decide +kernel, rfl⟩
theorem dX3_costWalls_15 : dec cX3_costWalls 15 (.putfield 32) 3 18 := ⟨by decide +kernel, rfl⟩
theorem dX3_costWalls_18 : dec cX3_costWalls 18 (.iconst 1) 1 19 := ⟨by decide +kernel, rfl⟩
theorem dX3_costWalls_19 : dec cX3_costWalls 19 .ireturn 1 20 := ⟨by decide +kernel, rfl⟩
theorem dX3_leaveOnly_0 : dec cX3_leaveOnly 0 (.iconst 0) 1 1 := ⟨by decide +kernel, rfl⟩
theorem dX3_leaveOnly_1 : dec cX3_leaveOnly 1 (.istore_n 2) 1 2 := ⟨by decide +kernel, rfl⟩
theorem dX3_leaveOnly_2 : dec cX3_leaveOnly 2 (.iload_n 2) 1 3 := ⟨by decide +kernel, rfl⟩
theorem dX3_leaveOnly_3 : dec cX3_leaveOnly 3 (.aload_n 0) 1 4 := ⟨by decide +kernel, rfl⟩
theorem dX3_leaveOnly_4 : dec cX3_leaveOnly 4 (.getfield 19) 3 7 := ⟨by decide +kernel, rfl⟩
theorem dX3_leaveOnly_7 : dec cX3_leaveOnly 7 .arraylength 1 8 := ⟨by decide +kernel, rfl⟩
theorem dX3_leaveOnly_8 : decJ cX3_leaveOnly 8 (.if_icmp .ge) 3 11 48 := ⟨40, by decide +kernel, rfl, rfl⟩
theorem dX3_leaveOnly_11 : dec cX3_leaveOnly 11 (.aload_n 0) 1 12 := ⟨by decide +kernel, rfl⟩
theorem dX3_leaveOnly_12 : dec cX3_leaveOnly 12 (.getfield 19) 3 15 := ⟨by decide +kernel, rfl⟩
theorem dX3_leaveOnly_15 : dec cX3_leaveOnly 15 (.iload_n 2) 1 16 := ⟨by decide +kernel, rfl⟩
theorem dX3_leaveOnly_16 : dec cX3_leaveOnly 16 .aaload 1 17 := ⟨by decide +kernel, rfl⟩
theorem dX3_leaveOnly_17 : dec cX3_leaveOnly 17 (.aload_n 0) 1 18 := ⟨by decide +kernel, rfl⟩
theorem dX3_leaveOnly_18 : dec cX3_leaveOnly 18 (.getfield 19) 3 21 := ⟨by decide +kernel, rfl⟩
theorem dX3_leaveOnly_21 : dec cX3_leaveOnly 21 (.iload_n 2) 1 22 := ⟨by decide +kernel, rfl⟩
theorem dX3_leaveOnly_22 : dec cX3_leaveOnly 22 .aaload 1 23 := ⟨by decide +kernel, rfl⟩
theorem dX3_leaveOnly_23 : dec cX3_leaveOnly 23 (.getfield 43) 3 26 := ⟨by decide +kernel, rfl⟩
theorem dX3_leaveOnly_26 : decJ cX3_leaveOnly 26 (.ifCond .eq) 3 29 38 := ⟨12, by decide +kernel, rfl, rfl⟩
theorem dX3_leaveOnly_29 : dec cX3_leaveOnly 29 (.iload_n 2) 1 30 := ⟨by decide +kernel, rfl⟩
theorem dX3_leaveOnly_30 : dec cX3_leaveOnly 30 (.iload_n 1) 1 31 := ⟨by decide +kernel, rfl⟩
theorem dX3_leaveOnly_31 : decJ cX3_leaveOnly 31 (.if_icmp .ne) 3 34 38 := ⟨7, by decide +kernel, rfl, rfl⟩
theorem dX3_leaveOnly_34 : dec cX3_leaveOnly 34 (.iconst 1) 1 35 := ⟨by decide +kernel, rfl⟩
theorem dX3_leaveOnly_35 : decJ cX3_leaveOnly 35 .goto 3 38 39 := ⟨4, by decide +kernel, rfl, rfl⟩
theorem dX3_leaveOnly_38 : dec cX3_leaveOnly 38 (.iconst 0) 1 39 := ⟨by decide +kernel, rfl⟩
theorem dX3_leaveOnly_39 : dec cX3_leaveOnly 39 (.putfield 43) 3 42 := ⟨by decide +kernel, rfl⟩
theorem dX3_leaveOnly_42 : dec cX3_leaveOnly 42 (.iinc 2 1) 3 45 := ⟨by decide +kernel, rfl⟩
theorem dX3_leaveOnly_45 : decJ cX3_leaveOnly 45 .goto 3 48 2 := ⟨-43, by decide +kernel, rfl, rfl⟩
theorem dX3_leaveOnly_48 : dec cX3_leaveOnly 48 .return_ 1 49 := ⟨by decide +kernel, rfl⟩
theorem dX3_goBy_0 : dec cX3_goBy 0 (.iconst 0) 1 1 := ⟨by decide +kernel, rfl⟩
theorem dX3_goBy_1 : dec cX3_goBy 1 (.istore_n 2) 1 2 := ⟨by decide +kernel, rfl⟩
theorem dX3_goBy_2 : dec cX3_goBy 2 (.iload_n 2) 1 3 := ⟨by decide +kernel, rfl⟩
theorem dX3_goBy_3 : dec cX3_goBy 3 (.iload_n 1) 1 4 := ⟨by decide +kernel, rfl⟩
theorem dX3_goBy_4 : decJ cX3_goBy 4 (.if_icmp .ge) 3 7 66 := ⟨62, by decide +kernel, rfl, rfl⟩
theorem dX3_goBy_7 : dec cX3_goBy 7 (.aload_n 0) 1 8 := ⟨by decide +kernel, rfl⟩
theorem dX3_goBy_8 : dec cX3_goBy 8 (.invokevirtual 89) 3 11 := ⟨by decide +kernel, rfl⟩
theorem dX3_goBy_11 : dec cX3_goBy 11 (.iconst 0) 1 12 := ⟨by decide +kernel, rfl⟩
theorem dX3_goBy_12 : dec cX3_goBy 12 (.istore_n 3) 1 13 := ⟨by decide +kernel, rfl⟩
theorem dX3_goBy_13 : dec cX3_goBy 13 (.iload_n 3) 1 14 := ⟨by decide +kernel, rfl⟩
theorem dX3_goBy_14 : dec cX3_goBy 14 (.aload_n 0) 1 15 := ⟨by decide +kernel, rfl⟩
theorem dX3_goBy_15 : dec cX3_goBy 15 (.getfield 19) 3 18 := ⟨by decide +kernel, rfl⟩
theorem dX3_goBy_18 : dec cX3_goBy 18 .arraylength 1 19 := ⟨by decide +kernel, rfl⟩
theorem dX3_goBy_19 : decJ cX3_goBy 19 (.if_icmp .ge) 3 22 50 := ⟨31, by decide +kernel, rfl, rfl⟩
theorem dX3_goBy_22 : dec cX3_goBy 22 (.aload_n 0) 1 23 := ⟨by decide +kernel, rfl⟩
theorem dX3_goBy_23 : dec cX3_goBy 23 (.getfield 19) 3 26 := ⟨by decide +kernel, rfl⟩
theorem dX3_goBy_26 : dec cX3_goBy 26 (.iload_n 3) 1 27 := ⟨by decide +kernel, rfl⟩
theorem dX3_goBy_27 : dec cX3_goBy 27 .aaload 1 28 := ⟨by decide +kernel, rfl⟩
theorem dX3_goBy_28 : dec cX3_goBy 28 (.invokevirtual 92) 3 31 := ⟨by decide +kernel, rfl⟩
theorem dX3_goBy_31 : decJ cX3_goBy 31 (.ifCond .eq) 3 34 44 := ⟨13, by decide +kernel, rfl, rfl⟩
theorem dX3_goBy_34 : dec cX3_goBy 34 (.aload_n 0) 1 35 := ⟨by decide +kernel, rfl⟩
theorem dX3_goBy_35 : dec cX3_goBy 35 (.aload_n 0) 1 36 := ⟨by decide +kernel, rfl⟩
theorem dX3_goBy_36 : dec cX3_goBy 36 (.getfield 19) 3 39 := ⟨by decide +kernel, rfl⟩
theorem dX3_goBy_39 : dec cX3_goBy 39 (.iload_n 3) 1 40 := ⟨by decide +kernel, rfl⟩
theorem dX3_goBy_40 : dec cX3_goBy 40 .aaload 1 41 := ⟨by decide +kernel, rfl⟩
theorem dX3_goBy_41 : dec cX3_goBy 41 (.invokevirtual 96) 3 44 := ⟨by decide +kernel, rfl⟩
theorem dX3_goBy_44 : dec cX3_goBy 44 (.iinc 3 1) 3 47 := ⟨by decide +kernel, rfl⟩
theorem dX3_goBy_47 : decJ cX3_goBy 47 .goto 3 50 13 := ⟨-34, by decide +kernel, rfl, rfl⟩
theorem dX3_goBy_50 : dec cX3_goBy 50 (.aload_n 0) 1 51 := ⟨by decide +kernel, rfl⟩
theorem dX3_goBy_51 : dec cX3_goBy 51 .dup 1 52 := ⟨by decide +kernel, rfl⟩
theorem dX3_goBy_52 : dec cX3_goBy 52 (.getfield 36) 3 55 := ⟨by decide +kernel, rfl⟩
theorem dX3_goBy_55 : dec cX3_goBy 55 (.iconst 1) 1 56 := ⟨by decide +kernel, rfl⟩
theorem dX3_goBy_56 : dec cX3_goBy 56 .iadd 1 57 := ⟨by decide +kernel, rfl⟩
theorem dX3_goBy_57 : dec cX3_goBy 57 (.putfield 36) 3 60 := ⟨by decide +kernel, rfl⟩
theorem dX3_goBy_60 : dec cX3_goBy 60 (.iinc 2 1) 3 63 := ⟨by decide +kernel, rfl⟩
theorem dX3_goBy_63 : decJ cX3_goBy 63 .goto 3 66 2 := ⟨-61, by decide +kernel, rfl, rfl⟩
theorem dX3_goBy_66 : dec cX3_goBy 66 .return_ 1 67 := ⟨by decide +kernel, rfl⟩
theorem dX3_earnAndBuild_0 : dec cX3_earnAndBuild 0 (.iconst 0) 1 1 := ⟨by decide +kernel, rfl⟩
theorem dX3_earnAndBuild_1 : dec cX3_earnAndBuild 1 (.istore_n 1) 1 2 := ⟨by decide +kernel, rfl⟩
theorem dX3_earnAndBuild_2 : dec cX3_earnAndBuild 2 (.iload_n 1) 1 3 := ⟨by decide +kernel, rfl⟩
theorem dX3_earnAndBuild_3 : dec cX3_earnAndBuild 3 (.aload_n 0) 1 4 := ⟨by decide +kernel, rfl⟩
theorem dX3_earnAndBuild_4 : dec cX3_earnAndBuild 4 (.getfield 11) 3 7 := ⟨by decide +kernel, rfl⟩
theorem dX3_earnAndBuild_7 : dec cX3_earnAndBuild 7 .arraylength 1 8 := ⟨by decide +kernel, rfl⟩
theorem dX3_earnAndBuild_8 : decJ cX3_earnAndBuild 8 (.if_icmp .ge) 3 11 51 := ⟨43, by decide +kernel, rfl, rfl⟩
theorem dX3_earnAndBuild_11 : dec cX3_earnAndBuild 11 (.aload_n 0) 1 12 := ⟨by decide +kernel, rfl⟩
theorem dX3_earnAndBuild_12 : dec cX3_earnAndBuild 12 (.getfield 11) 3 15 := ⟨by decide +kernel, rfl⟩
theorem dX3_earnAndBuild_15 : dec cX3_earnAndBuild 15 (.iload_n 1) 1 16 := ⟨by decide +kernel, rfl⟩
theorem dX3_earnAndBuild_16 : dec cX3_earnAndBuild 16 .aaload 1 17 := ⟨by decide +kernel, rfl⟩
theorem dX3_earnAndBuild_17 : dec cX3_earnAndBuild 17 (.invokevirtual 99) 3 20 := ⟨by decide +kernel, rfl⟩
theorem dX3_earnAndBuild_20 : decJ cX3_earnAndBuild 20 (.ifCond .eq) 3 23 45 := ⟨25, by decide +kernel, rfl, rfl⟩
theorem dX3_earnAndBuild_23 : dec cX3_earnAndBuild 23 (.aload_n 0) 1 24 := ⟨by decide +kernel, rfl⟩
theorem dX3_earnAndBuild_24 : dec cX3_earnAndBuild 24 (.getfield 11) 3 27 := ⟨by decide +kernel, rfl⟩
theorem dX3_earnAndBuild_27 : dec cX3_earnAndBuild 27 (.iload_n 1) 1 28 := ⟨by decide +kernel, rfl⟩
theorem dX3_earnAndBuild_28 : dec cX3_earnAndBuild 28 .aaload 1 29 := ⟨by decide +kernel, rfl⟩
theorem dX3_earnAndBuild_29 : dec cX3_earnAndBuild 29 (.invokevirtual 102) 3 32 := ⟨by decide +kernel, rfl⟩
theorem dX3_earnAndBuild_32 : dec cX3_earnAndBuild 32 (.aload_n 0) 1 33 := ⟨by decide +kernel, rfl⟩
theorem dX3_earnAndBuild_33 : dec cX3_earnAndBuild 33 (.getfield 11) 3 36 := ⟨by decide +kernel, rfl⟩
theorem dX3_earnAndBuild_36 : dec cX3_earnAndBuild 36 (.iload_n 1) 1 37 := ⟨by decide +kernel, rfl⟩
theorem dX3_earnAndBuild_37 : dec cX3_earnAndBuild 37 .aaload 1 38 := ⟨by decide +kernel, rfl⟩
theorem dX3_earnAndBuild_38 : dec cX3_earnAndBuild 38 (.aload_n 0) 1 39 := ⟨by decide +kernel, rfl⟩
theorem dX3_earnAndBuild_39 : dec cX3_earnAndBuild 39 (.getfield 32) 3 42 := ⟨by decide +kernel, rfl⟩
theorem dX3_earnAndBuild_42 : dec cX3_earnAndBuild 42 (.invokevirtual 105) 3 45 := ⟨by decide +kernel, rfl⟩
theorem dX3_earnAndBuild_45 : dec cX3_earnAndBuild 45 (.iinc 1 1) 3 48 := ⟨by decide +kernel, rfl⟩
theorem dX3_earnAndBuild_48 : decJ cX3_earnAndBuild 48 .goto 3 51 2 := ⟨-46, by decide +kernel, rfl, rfl⟩
theorem dX3_earnAndBuild_51 : dec cX3_earnAndBuild 51 .return_ 1 52 := ⟨by decide +kernel, rfl⟩
theorem dX3_comeUp_0 : dec cX3_comeUp 0 (.iconst 0) 1 1 := ⟨by decide +kernel, rfl⟩
theorem dX3_comeUp_1 : dec cX3_comeUp 1 (.istore_n 2) 1 2 := ⟨by decide +kernel, rfl⟩
theorem dX3_comeUp_2 : dec cX3_comeUp 2 (.iconst 0) 1 3 := ⟨by decide +kernel, rfl⟩
theorem dX3_comeUp_3 : dec cX3_comeUp 3 (.istore_n 3) 1 4 := ⟨by decide +kernel, rfl⟩
theorem dX3_comeUp_4 : dec cX3_comeUp 4 (.iload_n 3) 1 5 := ⟨by decide +kernel, rfl⟩
theorem dX3_comeUp_5 : dec cX3_comeUp 5 (.aload_n 0) 1 6 := ⟨by decide +kernel, rfl⟩
theorem dX3_comeUp_6 : dec cX3_comeUp 6 (.getfield 11) 3 9 := ⟨by decide +kernel, rfl⟩
theorem dX3_comeUp_9 : dec cX3_comeUp 9 .arraylength 1 10 := ⟨by decide +kernel, rfl⟩
theorem dX3_comeUp_10 : decJ cX3_comeUp 10 (.if_icmp .ge) 3 13 55 := ⟨45, by decide +kernel, rfl, rfl⟩
theorem dX3_comeUp_13 : dec cX3_comeUp 13 (.iload_n 2) 1 14 := ⟨by decide +kernel, rfl⟩
theorem dX3_comeUp_14 : decJ cX3_comeUp 14 (.ifCond .ne) 3 17 55 := ⟨41, by decide +kernel, rfl, rfl⟩
theorem dX3_comeUp_17 : dec cX3_comeUp 17 (.aload_n 0) 1 18 := ⟨by decide +kernel, rfl⟩
theorem dX3_comeUp_18 : dec cX3_comeUp 18 (.getfield 11) 3 21 := ⟨by decide +kernel, rfl⟩
theorem dX3_comeUp_21 : dec cX3_comeUp 21 (.iload_n 3) 1 22 := ⟨by decide +kernel, rfl⟩
theorem dX3_comeUp_22 : dec cX3_comeUp 22 .aaload 1 23 := ⟨by decide +kernel, rfl⟩
theorem dX3_comeUp_23 : dec cX3_comeUp 23 (.invokevirtual 99) 3 26 := ⟨by decide +kernel, rfl⟩
theorem dX3_comeUp_26 : decJ cX3_comeUp 26 (.ifCond .eq) 3 29 47 := ⟨21, by decide +kernel, rfl, rfl⟩
theorem dX3_comeUp_29 : dec cX3_comeUp 29 (.aload_n 0) 1 30 := ⟨by decide +kernel, rfl⟩
theorem dX3_comeUp_30 : dec cX3_comeUp 30 (.getfield 11) 3 33 := ⟨by decide +kernel, rfl⟩
theorem dX3_comeUp_33 : dec cX3_comeUp 33 (.iload_n 3) 1 34 := ⟨by decide +kernel, rfl⟩
theorem dX3_comeUp_34 : dec cX3_comeUp 34 .aaload 1 35 := ⟨by decide +kernel, rfl⟩
theorem dX3_comeUp_35 : dec cX3_comeUp 35 (.iload_n 3) 1 36 := ⟨by decide +kernel, rfl⟩
theorem dX3_comeUp_36 : dec cX3_comeUp 36 (.aload_n 1) 1 37 := ⟨by decide +kernel, rfl⟩
theorem dX3_comeUp_37 : dec cX3_comeUp 37 (.invokestatic 109) 3 40 := ⟨by decide +kernel, rfl⟩
theorem dX3_comeUp_40 : decJ cX3_comeUp 40 (.ifCond .eq) 3 43 47 := ⟨7, by decide +kernel, rfl, rfl⟩
theorem dX3_comeUp_43 : dec cX3_comeUp 43 (.iconst 1) 1 44 := ⟨by decide +kernel, rfl⟩
theorem dX3_comeUp_44 : decJ cX3_comeUp 44 .goto 3 47 48 := ⟨4, by decide +kernel, rfl, rfl⟩
theorem dX3_comeUp_47 : dec cX3_comeUp 47 (.iconst 0) 1 48 := ⟨by decide +kernel, rfl⟩
theorem dX3_comeUp_48 : dec cX3_comeUp 48 (.istore_n 2) 1 49 := ⟨by decide +kernel, rfl⟩
theorem dX3_comeUp_49 : dec cX3_comeUp 49 (.iinc 3 1) 3 52 := ⟨by decide +kernel, rfl⟩
theorem dX3_comeUp_52 : decJ cX3_comeUp 52 .goto 3 55 4 := ⟨-48, by decide +kernel, rfl, rfl⟩
theorem dX3_comeUp_55 : dec cX3_comeUp 55 (.aload_n 1) 1 56 := ⟨by decide +kernel, rfl⟩
theorem dX3_comeUp_56 : dec cX3_comeUp 56 (.invokevirtual 113) 3 59 := ⟨by decide +kernel, rfl⟩
theorem dX3_comeUp_59 : dec cX3_comeUp 59 .return_ 1 60 := ⟨by decide +kernel, rfl⟩
theorem dX3_sendsHome_0 : dec cX3_sendsHome 0 (.aload_n 2) 1 1 := ⟨by decide +kernel, rfl⟩
theorem dX3_sendsHome_1 : dec cX3_sendsHome 1 (.aload_n 0) 1 2 := ⟨by decide +kernel, rfl⟩
theorem dX3_sendsHome_2 : dec cX3_sendsHome 2 (.iload_n 1) 1 3 := ⟨by decide +kernel, rfl⟩
theorem dX3_sendsHome_3 : dec cX3_sendsHome 3 (.invokevirtual 116) 3 6 := ⟨by decide +kernel, rfl⟩
theorem dX3_sendsHome_6 : dec cX3_sendsHome 6 (.istore_n 3) 1 7 := ⟨by decide +kernel, rfl⟩
theorem dX3_sendsHome_7 : dec cX3_sendsHome 7 (.aload_n 0) 1 8 := ⟨by decide +kernel, rfl⟩
theorem dX3_sendsHome_8 : dec cX3_sendsHome 8 (.getfield 67) 3 11 := ⟨by decide +kernel, rfl⟩
theorem dX3_sendsHome_11 : decJ cX3_sendsHome 11 (.ifCond .ne) 3 14 31 := ⟨20, by decide +kernel, rfl, rfl⟩
theorem dX3_sendsHome_14 : dec cX3_sendsHome 14 (.aload_n 0) 1 15 := ⟨by decide +kernel, rfl⟩
theorem dX3_sendsHome_15 : dec cX3_sendsHome 15 (.getfield 58) 3 18 := ⟨by decide +kernel, rfl⟩
theorem dX3_sendsHome_18 : dec cX3_sendsHome 18 (.iload_n 3) 1 19 := ⟨by decide +kernel, rfl⟩
theorem dX3_sendsHome_19 : decJ cX3_sendsHome 19 (.if_icmp .lt) 3 22 31 := ⟨12, by decide +kernel, rfl, rfl⟩
theorem dX3_sendsHome_22 : dec cX3_sendsHome 22 (.aload_n 2) 1 23 := ⟨by decide +kernel, rfl⟩
theorem dX3_sendsHome_23 : dec cX3_sendsHome 23 (.aload_n 0) 1 24 := ⟨by decide +kernel, rfl⟩
theorem dX3_sendsHome_24 : dec cX3_sendsHome 24 (.iload_n 1) 1 25 := ⟨by decide +kernel, rfl⟩
theorem dX3_sendsHome_25 : dec cX3_sendsHome 25 (.iload_n 3) 1 26 := ⟨by decide +kernel, rfl⟩
theorem dX3_sendsHome_26 : dec cX3_sendsHome 26 (.invokevirtual 120) 3 29 := ⟨by decide +kernel, rfl⟩
theorem dX3_sendsHome_29 : dec cX3_sendsHome 29 (.iconst 1) 1 30 := ⟨by decide +kernel, rfl⟩
theorem dX3_sendsHome_30 : dec cX3_sendsHome 30 .ireturn 1 31 := ⟨by decide +kernel, rfl⟩
theorem dX3_sendsHome_31 : dec cX3_sendsHome 31 (.aload_n 0) 1 32 := ⟨by decide +kernel, rfl⟩
theorem dX3_sendsHome_32 : dec cX3_sendsHome 32 (.getfield 67) 3 35 := ⟨by decide +kernel, rfl⟩
theorem dX3_sendsHome_35 : dec cX3_sendsHome 35 (.iconst 2) 1 36 := ⟨by decide +kernel, rfl⟩
theorem dX3_sendsHome_36 : decJ cX3_sendsHome 36 (.if_icmp .ne) 3 39 60 := ⟨24, by decide +kernel, rfl, rfl⟩
theorem dX3_sendsHome_39 : dec cX3_sendsHome 39 (.aload_n 0) 1 40 := ⟨by decide +kernel, rfl⟩
theorem dX3_sendsHome_40 : dec cX3_sendsHome 40 (.getfield 58) 3 43 := ⟨by decide +kernel, rfl⟩
theorem dX3_sendsHome_43 : dec cX3_sendsHome 43 (.iload_n 3) 1 44 := ⟨by decide +kernel, rfl⟩
theorem dX3_sendsHome_44 : dec cX3_sendsHome 44 (.iconst 3) 1 45 := ⟨by decide +kernel, rfl⟩
theorem dX3_sendsHome_45 : dec cX3_sendsHome 45 .idiv 1 46 := ⟨by decide +kernel, rfl⟩
theorem dX3_sendsHome_46 : decJ cX3_sendsHome 46 (.if_icmp .lt) 3 49 60 := ⟨14, by decide +kernel, rfl, rfl⟩
theorem dX3_sendsHome_49 : dec cX3_sendsHome 49 (.aload_n 2) 1 50 := ⟨by decide +kernel, rfl⟩
theorem dX3_sendsHome_50 : dec cX3_sendsHome 50 (.aload_n 0) 1 51 := ⟨by decide +kernel, rfl⟩
theorem dX3_sendsHome_51 : dec cX3_sendsHome 51 (.iload_n 1) 1 52 := ⟨by decide +kernel, rfl⟩
theorem dX3_sendsHome_52 : dec cX3_sendsHome 52 (.iload_n 3) 1 53 := ⟨by decide +kernel, rfl⟩
theorem dX3_sendsHome_53 : dec cX3_sendsHome 53 (.iconst 3) 1 54 := ⟨by decide +kernel, rfl⟩
theorem dX3_sendsHome_54 : dec cX3_sendsHome 54 .idiv 1 55 := ⟨by decide +kernel, rfl⟩
theorem dX3_sendsHome_55 : dec cX3_sendsHome 55 (.invokevirtual 120) 3 58 := ⟨by decide +kernel, rfl⟩
theorem dX3_sendsHome_58 : dec cX3_sendsHome 58 (.iconst 0) 1 59 := ⟨by decide +kernel, rfl⟩
theorem dX3_sendsHome_59 : dec cX3_sendsHome 59 .ireturn 1 60 := ⟨by decide +kernel, rfl⟩
theorem dX3_sendsHome_60 : dec cX3_sendsHome 60 (.aload_n 2) 1 61 := ⟨by decide +kernel, rfl⟩
theorem dX3_sendsHome_61 : dec cX3_sendsHome 61 (.getfield 79) 3 64 := ⟨by decide +kernel, rfl⟩
theorem dX3_sendsHome_64 : dec cX3_sendsHome 64 (.aload_n 0) 1 65 := ⟨by decide +kernel, rfl⟩
theorem dX3_sendsHome_65 : dec cX3_sendsHome 65 (.invokevirtual 124) 3 68 := ⟨by decide +kernel, rfl⟩
theorem dX3_sendsHome_68 : decJ cX3_sendsHome 68 (.if_icmp .le) 3 71 79 := ⟨11, by decide +kernel, rfl, rfl⟩
theorem dX3_sendsHome_71 : dec cX3_sendsHome 71 (.aload_n 2) 1 72 := ⟨by decide +kernel, rfl⟩
theorem dX3_sendsHome_72 : dec cX3_sendsHome 72 (.aload_n 0) 1 73 := ⟨by decide +kernel, rfl⟩
theorem dX3_sendsHome_73 : dec cX3_sendsHome 73 (.iload_n 1) 1 74 := ⟨by decide +kernel, rfl⟩
theorem dX3_sendsHome_74 : dec cX3_sendsHome 74 (.invokevirtual 127) 3 77 := ⟨by decide +kernel, rfl⟩
theorem dX3_sendsHome_77 : dec cX3_sendsHome 77 (.iconst 1) 1 78 := ⟨by decide +kernel, rfl⟩
theorem dX3_sendsHome_78 : dec cX3_sendsHome 78 .ireturn 1 79 := ⟨by decide +kernel, rfl⟩
theorem dX3_sendsHome_79 : dec cX3_sendsHome 79 (.aload_n 2) 1 80 := ⟨by decide +kernel, rfl⟩
theorem dX3_sendsHome_80 : dec cX3_sendsHome 80 (.iconst 1) 1 81 := ⟨by decide +kernel, rfl⟩
theorem dX3_sendsHome_81 : dec cX3_sendsHome 81 (.aload_n 2) 1 82 := ⟨by decide +kernel, rfl⟩
theorem dX3_sendsHome_82 : dec cX3_sendsHome 82 (.getfield 79) 3 85 := ⟨by decide +kernel, rfl⟩
theorem dX3_sendsHome_85 : dec cX3_sendsHome 85 (.iconst 2) 1 86 := ⟨by decide +kernel, rfl⟩
theorem dX3_sendsHome_86 : dec cX3_sendsHome 86 .isub 1 87 := ⟨by decide +kernel, rfl⟩
theorem dX3_sendsHome_87 : dec cX3_sendsHome 87 (.invokestatic 131) 3 90 := ⟨by decide +kernel, rfl⟩
theorem dX3_sendsHome_90 : dec cX3_sendsHome 90 (.putfield 79) 3 93 := ⟨by decide +kernel, rfl⟩
theorem dX3_sendsHome_93 : dec cX3_sendsHome 93 (.iconst 0) 1 94 := ⟨by decide +kernel, rfl⟩
theorem dX3_sendsHome_94 : dec cX3_sendsHome 94 .ireturn 1 95 := ⟨by decide +kernel, rfl⟩
theorem dX3_joinDrawn_0 : dec cX3_joinDrawn 0 (.iconst 0) 1 1 := ⟨by decide +kernel, rfl⟩
theorem dX3_joinDrawn_1 : dec cX3_joinDrawn 1 (.istore_n 3) 1 2 := ⟨by decide +kernel, rfl⟩
theorem dX3_joinDrawn_2 : dec cX3_joinDrawn 2 (.iload_n 3) 1 3 := ⟨by decide +kernel, rfl⟩
theorem dX3_joinDrawn_3 : dec cX3_joinDrawn 3 (.aload_n 0) 1 4 := ⟨by decide +kernel, rfl⟩
theorem dX3_joinDrawn_4 : dec cX3_joinDrawn 4 (.getfield 19) 3 7 := ⟨by decide +kernel, rfl⟩
theorem dX3_joinDrawn_7 : dec cX3_joinDrawn 7 .arraylength 1 8 := ⟨by decide +kernel, rfl⟩
theorem dX3_joinDrawn_8 : decJ cX3_joinDrawn 8 (.if_icmp .ge) 3 11 80 := ⟨72, by decide +kernel, rfl, rfl⟩
theorem dX3_joinDrawn_11 : dec cX3_joinDrawn 11 (.aload_n 0) 1 12 := ⟨by decide +kernel, rfl⟩
theorem dX3_joinDrawn_12 : dec cX3_joinDrawn 12 (.getfield 19) 3 15 := ⟨by decide +kernel, rfl⟩
theorem dX3_joinDrawn_15 : dec cX3_joinDrawn 15 (.iload_n 3) 1 16 := ⟨by decide +kernel, rfl⟩
theorem dX3_joinDrawn_16 : dec cX3_joinDrawn 16 .aaload 1 17 := ⟨by decide +kernel, rfl⟩
theorem dX3_joinDrawn_17 : dec cX3_joinDrawn 17 (.invokevirtual 92) 3 20 := ⟨by decide +kernel, rfl⟩
theorem dX3_joinDrawn_20 : decJ cX3_joinDrawn 20 (.ifCond .eq) 3 23 74 := ⟨54, by decide +kernel, rfl, rfl⟩
theorem dX3_joinDrawn_23 : dec cX3_joinDrawn 23 (.ldc2_w 137) 3 26 := ⟨by decide +kernel, rfl⟩
theorem dX3_joinDrawn_26 : dec cX3_joinDrawn 26 (.iload_n 1) 1 27 := ⟨by decide +kernel, rfl⟩
theorem dX3_joinDrawn_27 : dec cX3_joinDrawn 27 .i2l 1 28 := ⟨by decide +kernel, rfl⟩
theorem dX3_joinDrawn_28 : dec cX3_joinDrawn 28 .lmul 1 29 := ⟨by decide +kernel, rfl⟩
theorem dX3_joinDrawn_29 : dec cX3_joinDrawn 29 (.ldc2_w 139) 3 32 := ⟨by decide +kernel, rfl⟩
theorem dX3_joinDrawn_32 : dec cX3_joinDrawn 32 (.iload_n 2) 1 33 := ⟨by decide +kernel, rfl⟩
theorem dX3_joinDrawn_33 : dec cX3_joinDrawn 33 .i2l 1 34 := ⟨by decide +kernel, rfl⟩
theorem dX3_joinDrawn_34 : dec cX3_joinDrawn 34 .lmul 1 35 := ⟨by decide +kernel, rfl⟩
theorem dX3_joinDrawn_35 : dec cX3_joinDrawn 35 .ladd 1 36 := ⟨by decide +kernel, rfl⟩
theorem dX3_joinDrawn_36 : dec cX3_joinDrawn 36 (.ldc2_w 141) 3 39 := ⟨by decide +kernel, rfl⟩
theorem dX3_joinDrawn_39 : dec cX3_joinDrawn 39 (.iload_n 3) 1 40 := ⟨by decide +kernel, rfl⟩
theorem dX3_joinDrawn_40 : dec cX3_joinDrawn 40 .i2l 1 41 := ⟨by decide +kernel, rfl⟩
theorem dX3_joinDrawn_41 : dec cX3_joinDrawn 41 .lmul 1 42 := ⟨by decide +kernel, rfl⟩
theorem dX3_joinDrawn_42 : dec cX3_joinDrawn 42 .ladd 1 43 := ⟨by decide +kernel, rfl⟩
theorem dX3_joinDrawn_43 : dec cX3_joinDrawn 43 (.lconst 1) 1 44 := ⟨by decide +kernel, rfl⟩
theorem dX3_joinDrawn_44 : dec cX3_joinDrawn 44 .ladd 1 45 := ⟨by decide +kernel, rfl⟩
theorem dX3_joinDrawn_45 : dec cX3_joinDrawn 45 (.lstore 4) 2 47 := ⟨by decide +kernel, rfl⟩
theorem dX3_joinDrawn_47 : dec cX3_joinDrawn 47 (.aload_n 0) 1 48 := ⟨by decide +kernel, rfl⟩
theorem dX3_joinDrawn_48 : dec cX3_joinDrawn 48 (.getfield 19) 3 51 := ⟨by decide +kernel, rfl⟩
theorem dX3_joinDrawn_51 : dec cX3_joinDrawn 51 (.iload_n 3) 1 52 := ⟨by decide +kernel, rfl⟩
theorem dX3_joinDrawn_52 : dec cX3_joinDrawn 52 .aaload 1 53 := ⟨by decide +kernel, rfl⟩
theorem dX3_joinDrawn_53 : dec cX3_joinDrawn 53 (.lload 4) 2 55 := ⟨by decide +kernel, rfl⟩
theorem dX3_joinDrawn_55 : dec cX3_joinDrawn 55 (.lload 4) 2 57 := ⟨by decide +kernel, rfl⟩
theorem dX3_joinDrawn_57 : dec cX3_joinDrawn 57 .lmul 1 58 := ⟨by decide +kernel, rfl⟩
theorem dX3_joinDrawn_58 : dec cX3_joinDrawn 58 (.ldc2_w 143) 3 61 := ⟨by decide +kernel, rfl⟩
theorem dX3_joinDrawn_61 : dec cX3_joinDrawn 61 .lrem 1 62 := ⟨by decide +kernel, rfl⟩
theorem dX3_joinDrawn_62 : dec cX3_joinDrawn 62 (.ldc2_w 145) 3 65 := ⟨by decide +kernel, rfl⟩
theorem dX3_joinDrawn_65 : dec cX3_joinDrawn 65 .ldiv 1 66 := ⟨by decide +kernel, rfl⟩
theorem dX3_joinDrawn_66 : dec cX3_joinDrawn 66 (.ldc2_w 147) 3 69 := ⟨by decide +kernel, rfl⟩
theorem dX3_joinDrawn_69 : dec cX3_joinDrawn 69 .lrem 1 70 := ⟨by decide +kernel, rfl⟩
theorem dX3_joinDrawn_70 : dec cX3_joinDrawn 70 .l2i 1 71 := ⟨by decide +kernel, rfl⟩
theorem dX3_joinDrawn_71 : dec cX3_joinDrawn 71 (.invokevirtual 149) 3 74 := ⟨by decide +kernel, rfl⟩
theorem dX3_joinDrawn_74 : dec cX3_joinDrawn 74 (.iinc 3 1) 3 77 := ⟨by decide +kernel, rfl⟩
theorem dX3_joinDrawn_77 : decJ cX3_joinDrawn 77 .goto 3 80 2 := ⟨-75, by decide +kernel, rfl, rfl⟩
theorem dX3_joinDrawn_80 : dec cX3_joinDrawn 80 .return_ 1 81 := ⟨by decide +kernel, rfl⟩
theorem dX3_firstBurntSince_0 : dec cX3_firstBurntSince 0 (.iconst 0) 1 1 := ⟨by decide +kernel, rfl⟩
theorem dX3_firstBurntSince_1 : dec cX3_firstBurntSince 1 (.istore_n 2) 1 2 := ⟨by decide +kernel, rfl⟩
theorem dX3_firstBurntSince_2 : dec cX3_firstBurntSince 2 (.iload_n 2) 1 3 := ⟨by decide +kernel, rfl⟩
theorem dX3_firstBurntSince_3 : dec cX3_firstBurntSince 3 (.aload_n 0) 1 4 := ⟨by decide +kernel, rfl⟩
theorem dX3_firstBurntSince_4 : dec cX3_firstBurntSince 4 (.getfield 11) 3 7 := ⟨by decide +kernel, rfl⟩
theorem dX3_firstBurntSince_7 : dec cX3_firstBurntSince 7 .arraylength 1 8 := ⟨by decide +kernel, rfl⟩
theorem dX3_firstBurntSince_8 : decJ cX3_firstBurntSince 8 (.if_icmp .ge) 3 11 35 := ⟨27, by decide +kernel, rfl, rfl⟩
theorem dX3_firstBurntSince_11 : dec cX3_firstBurntSince 11 (.aload_n 1) 1 12 := ⟨by decide +kernel, rfl⟩
theorem dX3_firstBurntSince_12 : dec cX3_firstBurntSince 12 (.iload_n 2) 1 13 := ⟨by decide +kernel, rfl⟩
theorem dX3_firstBurntSince_13 : dec cX3_firstBurntSince 13 (.invokevirtual 152) 3 16 := ⟨by decide +kernel, rfl⟩
theorem dX3_firstBurntSince_16 : decJ cX3_firstBurntSince 16 (.ifCond .eq) 3 19 29 := ⟨13, by decide +kernel, rfl, rfl⟩
theorem dX3_firstBurntSince_19 : dec cX3_firstBurntSince 19 (.aload_n 0) 1 20 := ⟨by decide +kernel, rfl⟩
theorem dX3_firstBurntSince_20 : dec cX3_firstBurntSince 20 (.iload_n 2) 1 21 := ⟨by decide +kernel, rfl⟩
theorem dX3_firstBurntSince_21 : dec cX3_firstBurntSince 21 (.invokevirtual 152) 3 24 := ⟨by decide +kernel, rfl⟩
theorem dX3_firstBurntSince_24 : decJ cX3_firstBurntSince 24 (.ifCond .ne) 3 27 29 := ⟨5, by decide +kernel, rfl, rfl⟩
theorem dX3_firstBurntSince_27 : dec cX3_firstBurntSince 27 (.iload_n 2) 1 28 := ⟨by decide +kernel, rfl⟩
theorem dX3_firstBurntSince_28 : dec cX3_firstBurntSince 28 .ireturn 1 29 := ⟨by decide +kernel, rfl⟩
theorem dX3_firstBurntSince_29 : dec cX3_firstBurntSince 29 (.iinc 2 1) 3 32 := ⟨by decide +kernel, rfl⟩
theorem dX3_firstBurntSince_32 : decJ cX3_firstBurntSince 32 .goto 3 35 2 := ⟨-30, by decide +kernel, rfl, rfl⟩
theorem dX3_firstBurntSince_35 : dec cX3_firstBurntSince 35 (.bipush (-4)) 2 37 := ⟨by decide +kernel, rfl⟩
theorem dX3_firstBurntSince_37 : dec cX3_firstBurntSince 37 .ireturn 1 38 := ⟨by decide +kernel, rfl⟩
theorem dX3_askedOfAll_0 : dec cX3_askedOfAll 0 (.iconst 0) 1 1 := ⟨by decide +kernel, rfl⟩
theorem dX3_askedOfAll_1 : dec cX3_askedOfAll 1 (.istore_n 1) 1 2 := ⟨by decide +kernel, rfl⟩
theorem dX3_askedOfAll_2 : dec cX3_askedOfAll 2 (.iconst 0) 1 3 := ⟨by decide +kernel, rfl⟩
theorem dX3_askedOfAll_3 : dec cX3_askedOfAll 3 (.istore_n 2) 1 4 := ⟨by decide +kernel, rfl⟩
theorem dX3_askedOfAll_4 : dec cX3_askedOfAll 4 (.iload_n 2) 1 5 := ⟨by decide +kernel, rfl⟩
theorem dX3_askedOfAll_5 : dec cX3_askedOfAll 5 (.aload_n 0) 1 6 := ⟨by decide +kernel, rfl⟩
theorem dX3_askedOfAll_6 : dec cX3_askedOfAll 6 (.getfield 19) 3 9 := ⟨by decide +kernel, rfl⟩
theorem dX3_askedOfAll_9 : dec cX3_askedOfAll 9 .arraylength 1 10 := ⟨by decide +kernel, rfl⟩
theorem dX3_askedOfAll_10 : decJ cX3_askedOfAll 10 (.if_icmp .ge) 3 13 79 := ⟨69, by decide +kernel, rfl, rfl⟩
theorem dX3_askedOfAll_13 : dec cX3_askedOfAll 13 (.iconst 0) 1 14 := ⟨by decide +kernel, rfl⟩
theorem dX3_askedOfAll_14 : dec cX3_askedOfAll 14 (.istore_n 3) 1 15 := ⟨by decide +kernel, rfl⟩
theorem dX3_askedOfAll_15 : dec cX3_askedOfAll 15 (.iload_n 3) 1 16 := ⟨by decide +kernel, rfl⟩
theorem dX3_askedOfAll_16 : dec cX3_askedOfAll 16 (.aload_n 0) 1 17 := ⟨by decide +kernel, rfl⟩
theorem dX3_askedOfAll_17 : dec cX3_askedOfAll 17 (.getfield 11) 3 20 := ⟨by decide +kernel, rfl⟩
theorem dX3_askedOfAll_20 : dec cX3_askedOfAll 20 .arraylength 1 21 := ⟨by decide +kernel, rfl⟩
theorem dX3_askedOfAll_21 : decJ cX3_askedOfAll 21 (.if_icmp .ge) 3 24 73 := ⟨52, by decide +kernel, rfl, rfl⟩
theorem dX3_askedOfAll_24 : dec cX3_askedOfAll 24 (.aload_n 0) 1 25 := ⟨by decide +kernel, rfl⟩
theorem dX3_askedOfAll_25 : dec cX3_askedOfAll 25 (.getfield 19) 3 28 := ⟨by decide +kernel, rfl⟩
theorem dX3_askedOfAll_28 : dec cX3_askedOfAll 28 (.iload_n 2) 1 29 := ⟨by decide +kernel, rfl⟩
theorem dX3_askedOfAll_29 : dec cX3_askedOfAll 29 .aaload 1 30 := ⟨by decide +kernel, rfl⟩
theorem dX3_askedOfAll_30 : dec cX3_askedOfAll 30 (.invokevirtual 92) 3 33 := ⟨by decide +kernel, rfl⟩
theorem dX3_askedOfAll_33 : decJ cX3_askedOfAll 33 (.ifCond .eq) 3 36 67 := ⟨34, by decide +kernel, rfl, rfl⟩
theorem dX3_askedOfAll_36 : dec cX3_askedOfAll 36 (.aload_n 0) 1 37 := ⟨by decide +kernel, rfl⟩
theorem dX3_askedOfAll_37 : dec cX3_askedOfAll 37 (.getfield 11) 3 40 := ⟨by decide +kernel, rfl⟩
theorem dX3_askedOfAll_40 : dec cX3_askedOfAll 40 (.iload_n 3) 1 41 := ⟨by decide +kernel, rfl⟩
theorem dX3_askedOfAll_41 : dec cX3_askedOfAll 41 .aaload 1 42 := ⟨by decide +kernel, rfl⟩
theorem dX3_askedOfAll_42 : dec cX3_askedOfAll 42 (.invokevirtual 99) 3 45 := ⟨by decide +kernel, rfl⟩
theorem dX3_askedOfAll_45 : decJ cX3_askedOfAll 45 (.ifCond .eq) 3 48 67 := ⟨22, by decide +kernel, rfl, rfl⟩
theorem dX3_askedOfAll_48 : dec cX3_askedOfAll 48 (.iload_n 1) 1 49 := ⟨by decide +kernel, rfl⟩
theorem dX3_askedOfAll_49 : dec cX3_askedOfAll 49 (.aload_n 0) 1 50 := ⟨by decide +kernel, rfl⟩
theorem dX3_askedOfAll_50 : dec cX3_askedOfAll 50 (.getfield 19) 3 53 := ⟨by decide +kernel, rfl⟩
theorem dX3_askedOfAll_53 : dec cX3_askedOfAll 53 (.iload_n 2) 1 54 := ⟨by decide +kernel, rfl⟩
theorem dX3_askedOfAll_54 : dec cX3_askedOfAll 54 .aaload 1 55 := ⟨by decide +kernel, rfl⟩
theorem dX3_askedOfAll_55 : dec cX3_askedOfAll 55 (.aload_n 0) 1 56 := ⟨by decide +kernel, rfl⟩
theorem dX3_askedOfAll_56 : dec cX3_askedOfAll 56 (.getfield 11) 3 59 := ⟨by decide +kernel, rfl⟩
theorem dX3_askedOfAll_59 : dec cX3_askedOfAll 59 (.iload_n 3) 1 60 := ⟨by decide +kernel, rfl⟩
theorem dX3_askedOfAll_60 : dec cX3_askedOfAll 60 .aaload 1 61 := ⟨by decide +kernel, rfl⟩
theorem dX3_askedOfAll_61 : dec cX3_askedOfAll 61 (.iload_n 3) 1 62 := ⟨by decide +kernel, rfl⟩
theorem dX3_askedOfAll_62 : dec cX3_askedOfAll 62 (.invokevirtual 116) 3 65 := ⟨by decide +kernel, rfl⟩
theorem dX3_askedOfAll_65 : dec cX3_askedOfAll 65 .iadd 1 66 := ⟨by decide +kernel, rfl⟩
theorem dX3_askedOfAll_66 : dec cX3_askedOfAll 66 (.istore_n 1) 1 67 := ⟨by decide +kernel, rfl⟩
theorem dX3_askedOfAll_67 : dec cX3_askedOfAll 67 (.iinc 3 1) 3 70 := ⟨by decide +kernel, rfl⟩
theorem dX3_askedOfAll_70 : decJ cX3_askedOfAll 70 .goto 3 73 15 := ⟨-55, by decide +kernel, rfl, rfl⟩
theorem dX3_askedOfAll_73 : dec cX3_askedOfAll 73 (.iinc 2 1) 3 76 := ⟨by decide +kernel, rfl⟩
theorem dX3_askedOfAll_76 : decJ cX3_askedOfAll 76 .goto 3 79 4 := ⟨-72, by decide +kernel, rfl, rfl⟩
theorem dX3_askedOfAll_79 : dec cX3_askedOfAll 79 (.iload_n 1) 1 80 := ⟨by decide +kernel, rfl⟩
theorem dX3_askedOfAll_80 : dec cX3_askedOfAll 80 .ireturn 1 81 := ⟨by decide +kernel, rfl⟩
theorem dX3_silverOfAll_0 : dec cX3_silverOfAll 0 (.iconst 0) 1 1 := ⟨by decide +kernel, rfl⟩
theorem dX3_silverOfAll_1 : dec cX3_silverOfAll 1 (.istore_n 1) 1 2 := ⟨by decide +kernel, rfl⟩
theorem dX3_silverOfAll_2 : dec cX3_silverOfAll 2 (.iconst 0) 1 3 := ⟨by decide +kernel, rfl⟩
theorem dX3_silverOfAll_3 : dec cX3_silverOfAll 3 (.istore_n 2) 1 4 := ⟨by decide +kernel, rfl⟩
theorem dX3_silverOfAll_4 : dec cX3_silverOfAll 4 (.iload_n 2) 1 5 := ⟨by decide +kernel, rfl⟩
theorem dX3_silverOfAll_5 : dec cX3_silverOfAll 5 (.aload_n 0) 1 6 := ⟨by decide +kernel, rfl⟩
theorem dX3_silverOfAll_6 : dec cX3_silverOfAll 6 (.getfield 11) 3 9 := ⟨by decide +kernel, rfl⟩
theorem dX3_silverOfAll_9 : dec cX3_silverOfAll 9 .arraylength 1 10 := ⟨by decide +kernel, rfl⟩
theorem dX3_silverOfAll_10 : decJ cX3_silverOfAll 10 (.if_icmp .ge) 3 13 43 := ⟨33, by decide +kernel, rfl, rfl⟩
theorem dX3_silverOfAll_13 : dec cX3_silverOfAll 13 (.aload_n 0) 1 14 := ⟨by decide +kernel, rfl⟩
theorem dX3_silverOfAll_14 : dec cX3_silverOfAll 14 (.getfield 11) 3 17 := ⟨by decide +kernel, rfl⟩
theorem dX3_silverOfAll_17 : dec cX3_silverOfAll 17 (.iload_n 2) 1 18 := ⟨by decide +kernel, rfl⟩
theorem dX3_silverOfAll_18 : dec cX3_silverOfAll 18 .aaload 1 19 := ⟨by decide +kernel, rfl⟩
theorem dX3_silverOfAll_19 : dec cX3_silverOfAll 19 (.invokevirtual 99) 3 22 := ⟨by decide +kernel, rfl⟩
theorem dX3_silverOfAll_22 : decJ cX3_silverOfAll 22 (.ifCond .eq) 3 25 37 := ⟨15, by decide +kernel, rfl, rfl⟩
theorem dX3_silverOfAll_25 : dec cX3_silverOfAll 25 (.iload_n 1) 1 26 := ⟨by decide +kernel, rfl⟩
theorem dX3_silverOfAll_26 : dec cX3_silverOfAll 26 (.aload_n 0) 1 27 := ⟨by decide +kernel, rfl⟩
theorem dX3_silverOfAll_27 : dec cX3_silverOfAll 27 (.getfield 11) 3 30 := ⟨by decide +kernel, rfl⟩
theorem dX3_silverOfAll_30 : dec cX3_silverOfAll 30 (.iload_n 2) 1 31 := ⟨by decide +kernel, rfl⟩
theorem dX3_silverOfAll_31 : dec cX3_silverOfAll 31 .aaload 1 32 := ⟨by decide +kernel, rfl⟩
theorem dX3_silverOfAll_32 : dec cX3_silverOfAll 32 (.getfield 58) 3 35 := ⟨by decide +kernel, rfl⟩
theorem dX3_silverOfAll_35 : dec cX3_silverOfAll 35 .iadd 1 36 := ⟨by decide +kernel, rfl⟩
theorem dX3_silverOfAll_36 : dec cX3_silverOfAll 36 (.istore_n 1) 1 37 := ⟨by decide +kernel, rfl⟩
theorem dX3_silverOfAll_37 : dec cX3_silverOfAll 37 (.iinc 2 1) 3 40 := ⟨by decide +kernel, rfl⟩
theorem dX3_silverOfAll_40 : decJ cX3_silverOfAll 40 .goto 3 43 4 := ⟨-36, by decide +kernel, rfl, rfl⟩
theorem dX3_silverOfAll_43 : dec cX3_silverOfAll 43 (.iload_n 1) 1 44 := ⟨by decide +kernel, rfl⟩
theorem dX3_silverOfAll_44 : dec cX3_silverOfAll 44 .ireturn 1 45 := ⟨by decide +kernel, rfl⟩
theorem dX3_townsThere_0 : dec cX3_townsThere 0 (.iconst 0) 1 1 := ⟨by decide +kernel, rfl⟩
theorem dX3_townsThere_1 : dec cX3_townsThere 1 (.istore_n 1) 1 2 := ⟨by decide +kernel, rfl⟩
theorem dX3_townsThere_2 : dec cX3_townsThere 2 (.iconst 0) 1 3 := ⟨by decide +kernel, rfl⟩
theorem dX3_townsThere_3 : dec cX3_townsThere 3 (.istore_n 2) 1 4 := ⟨by decide +kernel, rfl⟩
theorem dX3_townsThere_4 : dec cX3_townsThere 4 (.iload_n 2) 1 5 := ⟨by decide +kernel, rfl⟩
theorem dX3_townsThere_5 : dec cX3_townsThere 5 (.aload_n 0) 1 6 := ⟨by decide +kernel, rfl⟩
theorem dX3_townsThere_6 : dec cX3_townsThere 6 (.getfield 11) 3 9 := ⟨by decide +kernel, rfl⟩
theorem dX3_townsThere_9 : dec cX3_townsThere 9 .arraylength 1 10 := ⟨by decide +kernel, rfl⟩
theorem dX3_townsThere_10 : decJ cX3_townsThere 10 (.if_icmp .ge) 3 13 34 := ⟨24, by decide +kernel, rfl, rfl⟩
theorem dX3_townsThere_13 : dec cX3_townsThere 13 (.aload_n 0) 1 14 := ⟨by decide +kernel, rfl⟩
theorem dX3_townsThere_14 : dec cX3_townsThere 14 (.getfield 11) 3 17 := ⟨by decide +kernel, rfl⟩
theorem dX3_townsThere_17 : dec cX3_townsThere 17 (.iload_n 2) 1 18 := ⟨by decide +kernel, rfl⟩
theorem dX3_townsThere_18 : dec cX3_townsThere 18 .aaload 1 19 := ⟨by decide +kernel, rfl⟩
theorem dX3_townsThere_19 : dec cX3_townsThere 19 (.getfield 39) 3 22 := ⟨by decide +kernel, rfl⟩
theorem dX3_townsThere_22 : decJ cX3_townsThere 22 (.ifCond .eq) 3 25 28 := ⟨6, by decide +kernel, rfl, rfl⟩
theorem dX3_townsThere_25 : dec cX3_townsThere 25 (.iinc 1 1) 3 28 := ⟨by decide +kernel, rfl⟩
theorem dX3_townsThere_28 : dec cX3_townsThere 28 (.iinc 2 1) 3 31 := ⟨by decide +kernel, rfl⟩
theorem dX3_townsThere_31 : decJ cX3_townsThere 31 .goto 3 34 4 := ⟨-27, by decide +kernel, rfl, rfl⟩
theorem dX3_townsThere_34 : dec cX3_townsThere 34 (.iload_n 1) 1 35 := ⟨by decide +kernel, rfl⟩
theorem dX3_townsThere_35 : dec cX3_townsThere 35 .ireturn 1 36 := ⟨by decide +kernel, rfl⟩
theorem dX3_townsBurnt_0 : dec cX3_townsBurnt 0 (.iconst 0) 1 1 := ⟨by decide +kernel, rfl⟩
theorem dX3_townsBurnt_1 : dec cX3_townsBurnt 1 (.istore_n 1) 1 2 := ⟨by decide +kernel, rfl⟩
theorem dX3_townsBurnt_2 : dec cX3_townsBurnt 2 (.iconst 0) 1 3 := ⟨by decide +kernel, rfl⟩
theorem dX3_townsBurnt_3 : dec cX3_townsBurnt 3 (.istore_n 2) 1 4 := ⟨by decide +kernel, rfl⟩
theorem dX3_townsBurnt_4 : dec cX3_townsBurnt 4 (.iload_n 2) 1 5 := ⟨by decide +kernel, rfl⟩
theorem dX3_townsBurnt_5 : dec cX3_townsBurnt 5 (.aload_n 0) 1 6 := ⟨by decide +kernel, rfl⟩
theorem dX3_townsBurnt_6 : dec cX3_townsBurnt 6 (.getfield 11) 3 9 := ⟨by decide +kernel, rfl⟩
theorem dX3_townsBurnt_9 : dec cX3_townsBurnt 9 .arraylength 1 10 := ⟨by decide +kernel, rfl⟩
theorem dX3_townsBurnt_10 : decJ cX3_townsBurnt 10 (.if_icmp .ge) 3 13 46 := ⟨36, by decide +kernel, rfl, rfl⟩
theorem dX3_townsBurnt_13 : dec cX3_townsBurnt 13 (.aload_n 0) 1 14 := ⟨by decide +kernel, rfl⟩
theorem dX3_townsBurnt_14 : dec cX3_townsBurnt 14 (.getfield 11) 3 17 := ⟨by decide +kernel, rfl⟩
theorem dX3_townsBurnt_17 : dec cX3_townsBurnt 17 (.iload_n 2) 1 18 := ⟨by decide +kernel, rfl⟩
theorem dX3_townsBurnt_18 : dec cX3_townsBurnt 18 .aaload 1 19 := ⟨by decide +kernel, rfl⟩
theorem dX3_townsBurnt_19 : dec cX3_townsBurnt 19 (.getfield 39) 3 22 := ⟨by decide +kernel, rfl⟩
theorem dX3_townsBurnt_22 : decJ cX3_townsBurnt 22 (.ifCond .eq) 3 25 40 := ⟨18, by decide +kernel, rfl, rfl⟩
theorem dX3_townsBurnt_25 : dec cX3_townsBurnt 25 (.aload_n 0) 1 26 := ⟨by decide +kernel, rfl⟩
theorem dX3_townsBurnt_26 : dec cX3_townsBurnt 26 (.getfield 11) 3 29 := ⟨by decide +kernel, rfl⟩
theorem dX3_townsBurnt_29 : dec cX3_townsBurnt 29 (.iload_n 2) 1 30 := ⟨by decide +kernel, rfl⟩
theorem dX3_townsBurnt_30 : dec cX3_townsBurnt 30 .aaload 1 31 := ⟨by decide +kernel, rfl⟩
theorem dX3_townsBurnt_31 : dec cX3_townsBurnt 31 (.getfield 48) 3 34 := ⟨by decide +kernel, rfl⟩
theorem dX3_townsBurnt_34 : decJ cX3_townsBurnt 34 (.ifCond .eq) 3 37 40 := ⟨6, by decide +kernel, rfl, rfl⟩
theorem dX3_townsBurnt_37 : dec cX3_townsBurnt 37 (.iinc 1 1) 3 40 := ⟨by decide +kernel, rfl⟩
theorem dX3_townsBurnt_40 : dec cX3_townsBurnt 40 (.iinc 2 1) 3 43 := ⟨by decide +kernel, rfl⟩
theorem dX3_townsBurnt_43 : decJ cX3_townsBurnt 43 .goto 3 46 4 := ⟨-39, by decide +kernel, rfl, rfl⟩
theorem dX3_townsBurnt_46 : dec cX3_townsBurnt 46 (.iload_n 1) 1 47 := ⟨by decide +kernel, rfl⟩
theorem dX3_townsBurnt_47 : dec cX3_townsBurnt 47 .ireturn 1 48 := ⟨by decide +kernel, rfl⟩
theorem dX3_crewsThere_0 : dec cX3_crewsThere 0 (.iconst 0) 1 1 := ⟨by decide +kernel, rfl⟩
theorem dX3_crewsThere_1 : dec cX3_crewsThere 1 (.istore_n 1) 1 2 := ⟨by decide +kernel, rfl⟩
theorem dX3_crewsThere_2 : dec cX3_crewsThere 2 (.iconst 0) 1 3 := ⟨by decide +kernel, rfl⟩
theorem dX3_crewsThere_3 : dec cX3_crewsThere 3 (.istore_n 2) 1 4 := ⟨by decide +kernel, rfl⟩
theorem dX3_crewsThere_4 : dec cX3_crewsThere 4 (.iload_n 2) 1 5 := ⟨by decide +kernel, rfl⟩
theorem dX3_crewsThere_5 : dec cX3_crewsThere 5 (.aload_n 0) 1 6 := ⟨by decide +kernel, rfl⟩
theorem dX3_crewsThere_6 : dec cX3_crewsThere 6 (.getfield 19) 3 9 := ⟨by decide +kernel, rfl⟩
theorem dX3_crewsThere_9 : dec cX3_crewsThere 9 .arraylength 1 10 := ⟨by decide +kernel, rfl⟩
theorem dX3_crewsThere_10 : decJ cX3_crewsThere 10 (.if_icmp .ge) 3 13 34 := ⟨24, by decide +kernel, rfl, rfl⟩
theorem dX3_crewsThere_13 : dec cX3_crewsThere 13 (.aload_n 0) 1 14 := ⟨by decide +kernel, rfl⟩
theorem dX3_crewsThere_14 : dec cX3_crewsThere 14 (.getfield 19) 3 17 := ⟨by decide +kernel, rfl⟩
theorem dX3_crewsThere_17 : dec cX3_crewsThere 17 (.iload_n 2) 1 18 := ⟨by decide +kernel, rfl⟩
theorem dX3_crewsThere_18 : dec cX3_crewsThere 18 .aaload 1 19 := ⟨by decide +kernel, rfl⟩
theorem dX3_crewsThere_19 : dec cX3_crewsThere 19 (.getfield 43) 3 22 := ⟨by decide +kernel, rfl⟩
theorem dX3_crewsThere_22 : decJ cX3_crewsThere 22 (.ifCond .eq) 3 25 28 := ⟨6, by decide +kernel, rfl, rfl⟩
theorem dX3_crewsThere_25 : dec cX3_crewsThere 25 (.iinc 1 1) 3 28 := ⟨by decide +kernel, rfl⟩
theorem dX3_crewsThere_28 : dec cX3_crewsThere 28 (.iinc 2 1) 3 31 := ⟨by decide +kernel, rfl⟩
theorem dX3_crewsThere_31 : decJ cX3_crewsThere 31 .goto 3 34 4 := ⟨-27, by decide +kernel, rfl, rfl⟩
theorem dX3_crewsThere_34 : dec cX3_crewsThere 34 (.iload_n 1) 1 35 := ⟨by decide +kernel, rfl⟩
theorem dX3_crewsThere_35 : dec cX3_crewsThere 35 .ireturn 1 36 := ⟨by decide +kernel, rfl⟩
theorem dX3_crewsGone_0 : dec cX3_crewsGone 0 (.iconst 0) 1 1 := ⟨by decide +kernel, rfl⟩
theorem dX3_crewsGone_1 : dec cX3_crewsGone 1 (.istore_n 1) 1 2 := ⟨by decide +kernel, rfl⟩
theorem dX3_crewsGone_2 : dec cX3_crewsGone 2 (.iconst 0) 1 3 := ⟨by decide +kernel, rfl⟩
theorem dX3_crewsGone_3 : dec cX3_crewsGone 3 (.istore_n 2) 1 4 := ⟨by decide +kernel, rfl⟩
theorem dX3_crewsGone_4 : dec cX3_crewsGone 4 (.iload_n 2) 1 5 := ⟨by decide +kernel, rfl⟩
theorem dX3_crewsGone_5 : dec cX3_crewsGone 5 (.aload_n 0) 1 6 := ⟨by decide +kernel, rfl⟩
theorem dX3_crewsGone_6 : dec cX3_crewsGone 6 (.getfield 19) 3 9 := ⟨by decide +kernel, rfl⟩
theorem dX3_crewsGone_9 : dec cX3_crewsGone 9 .arraylength 1 10 := ⟨by decide +kernel, rfl⟩
theorem dX3_crewsGone_10 : decJ cX3_crewsGone 10 (.if_icmp .ge) 3 13 46 := ⟨36, by decide +kernel, rfl, rfl⟩
theorem dX3_crewsGone_13 : dec cX3_crewsGone 13 (.aload_n 0) 1 14 := ⟨by decide +kernel, rfl⟩
theorem dX3_crewsGone_14 : dec cX3_crewsGone 14 (.getfield 19) 3 17 := ⟨by decide +kernel, rfl⟩
theorem dX3_crewsGone_17 : dec cX3_crewsGone 17 (.iload_n 2) 1 18 := ⟨by decide +kernel, rfl⟩
theorem dX3_crewsGone_18 : dec cX3_crewsGone 18 .aaload 1 19 := ⟨by decide +kernel, rfl⟩
theorem dX3_crewsGone_19 : dec cX3_crewsGone 19 (.getfield 43) 3 22 := ⟨by decide +kernel, rfl⟩
theorem dX3_crewsGone_22 : decJ cX3_crewsGone 22 (.ifCond .eq) 3 25 40 := ⟨18, by decide +kernel, rfl, rfl⟩
theorem dX3_crewsGone_25 : dec cX3_crewsGone 25 (.aload_n 0) 1 26 := ⟨by decide +kernel, rfl⟩
theorem dX3_crewsGone_26 : dec cX3_crewsGone 26 (.getfield 19) 3 29 := ⟨by decide +kernel, rfl⟩
theorem dX3_crewsGone_29 : dec cX3_crewsGone 29 (.iload_n 2) 1 30 := ⟨by decide +kernel, rfl⟩
theorem dX3_crewsGone_30 : dec cX3_crewsGone 30 .aaload 1 31 := ⟨by decide +kernel, rfl⟩
theorem dX3_crewsGone_31 : dec cX3_crewsGone 31 (.getfield 76) 3 34 := ⟨by decide +kernel, rfl⟩
theorem dX3_crewsGone_34 : decJ cX3_crewsGone 34 (.ifCond .eq) 3 37 40 := ⟨6, by decide +kernel, rfl, rfl⟩
theorem dX3_crewsGone_37 : dec cX3_crewsGone 37 (.iinc 1 1) 3 40 := ⟨by decide +kernel, rfl⟩
theorem dX3_crewsGone_40 : dec cX3_crewsGone 40 (.iinc 2 1) 3 43 := ⟨by decide +kernel, rfl⟩
theorem dX3_crewsGone_43 : decJ cX3_crewsGone 43 .goto 3 46 4 := ⟨-39, by decide +kernel, rfl, rfl⟩
theorem dX3_crewsGone_46 : dec cX3_crewsGone 46 (.iload_n 1) 1 47 := ⟨by decide +kernel, rfl⟩
theorem dX3_crewsGone_47 : dec cX3_crewsGone 47 .ireturn 1 48 := ⟨by decide +kernel, rfl⟩
def d_X3_townAt (R_r : Nat → Nat → Int32) (t : Int32) : Option Nat :=
  if t < 0 then
    none
  else
    if (nI 6) ≤ t then
      none
    else
      if (R_r (3 + t.toNatClampNeg) 0) = 0 then
        none
      else
        (some t.toNatClampNeg)
set_option maxHeartbeats 4000000 in
set_option maxRecDepth 100000 in
theorem c_X3_townAt (l : Launch) (D : DD) (o_r : Nat) (R_r : Nat → Nat → Int32) (t : Int32)  (res : Option Nat) (hres : res = d_X3_townAt R_r t) : Mt l D yX3_townAt cX3_townAt 2 (some (.object "PaidToGoAway$Town")) 0 0 0 0 [.ref o_r, .int t] (fun H => blk D ksRiver o_r R_r H) (fun v H => v = some (optT (o_r + 3) res)) fp0 := by
  refine mt_of (own := RX3) (ls := [.val (.ref o_r), .val (.int t)]) rfl (by decide +kernel) rfl ?_
  intro x H C hP
  have hb_r := hP
  refine r_iload_n C dX3_townAt_0 rfl ?_
  refine r_if_lt C dX3_townAt_1 (fun c1 => ?_) (fun c1 => ?_)
  · skip
    refine r_aconst_null C dX3_townAt_34 ?_
    refine r_aretN C (Or.inl ⟨_, rfl⟩) dX3_townAt_35 ?_
    have er : res = none := by rw [hres, d_X3_townAt]; try exact (if_pos c1).trans (rfl)
    rw [er]
    exact rfl
  · skip
    refine r_iload_n C dX3_townAt_4 rfl ?_
    refine r_aload_n C dX3_townAt_5 rfl ?_
    refine r_get C hb_r (k := 0) rfl rfl celO_3 fw_X3_11 rfl dX3_townAt_6 ?_
    refine r_alen C hb_r (k := 1) rfl rfl 6 (Or.inr (Or.inr (Or.inl ⟨rfl, rfl⟩))) dX3_townAt_9 ?_
    refine r_ic_ge C dX3_townAt_10 (fun c2 => ?_) (fun c2 => ?_)
    · skip
      refine r_aconst_null C dX3_townAt_34 ?_
      refine r_aretN C (Or.inl ⟨_, rfl⟩) dX3_townAt_35 ?_
      have er : res = none := by rw [hres, d_X3_townAt]; try exact (if_neg c1).trans ((if_pos c2).trans (rfl))
      rw [er]
      exact rfl
    · skip
      refine r_aload_n C dX3_townAt_13 rfl ?_
      refine r_get C hb_r (k := 0) rfl rfl celO_3 fw_X3_11 rfl dX3_townAt_14 ?_
      refine r_iload_n C dX3_townAt_17 rfl ?_
      refine r_aaldT C hb_r (k := 1) rfl rfl (vp_in_lh (x_lo1 c1) (x_hi1 (N := 6) c2 (by omega)) (by omega)) (j := t.toNatClampNeg) rfl dX3_townAt_18 ?_
      refine r_get C hb_r (k := (3 + t.toNatClampNeg)) (kRiver_3_1 _ (lt_of_in (vp_in_lh (x_lo1 c1) (x_hi1 (N := 6) c2 (by omega)) (by omega)))) (by omega) celO_5 fw_X3_39 (z := .int (R_r (3 + t.toNatClampNeg) 0)) rfl dX3_townAt_19 ?_
      refine r_if_eq C dX3_townAt_22 (fun c3 => ?_) (fun c3 => ?_)
      · skip
        refine r_aconst_null C dX3_townAt_34 ?_
        refine r_aretN C (Or.inl ⟨_, rfl⟩) dX3_townAt_35 ?_
        have er : res = none := by rw [hres, d_X3_townAt]; try exact (if_neg c1).trans ((if_neg c2).trans ((if_pos c3).trans (rfl)))
        rw [er]
        exact rfl
      · skip
        refine r_aload_n C dX3_townAt_25 rfl ?_
        refine r_get C hb_r (k := 0) rfl rfl celO_3 fw_X3_11 rfl dX3_townAt_26 ?_
        refine r_iload_n C dX3_townAt_29 rfl ?_
        refine r_aaldT C hb_r (k := 1) rfl rfl (vp_in_lh (x_lo1 c1) (x_hi1 (N := 6) c2 (by omega)) (by omega)) (j := t.toNatClampNeg) rfl dX3_townAt_30 ?_
        refine r_goto C dX3_townAt_31 ?_
        refine r_aret C (Or.inl ⟨_, rfl⟩) dX3_townAt_35 ?_
        have er : res = (some t.toNatClampNeg) := by rw [hres, d_X3_townAt]; try exact (if_neg c1).trans ((if_neg c2).trans ((if_neg c3).trans (rfl)))
        rw [er]
        exact rfl

def d_X3_crewAt (R_r : Nat → Nat → Int32) (c : Int32) : Option Nat :=
  if c < 0 then
    none
  else
    if (nI 3) ≤ c then
      none
    else
      if (R_r (9 + 2 * c.toNatClampNeg) 0) = 0 then
        none
      else
        (some c.toNatClampNeg)
set_option maxHeartbeats 4000000 in
set_option maxRecDepth 100000 in
theorem c_X3_crewAt (l : Launch) (D : DD) (o_r : Nat) (R_r : Nat → Nat → Int32) (c : Int32)  (res : Option Nat) (hres : res = d_X3_crewAt R_r c) : Mt l D yX3_crewAt cX3_crewAt 2 (some (.object "PaidToGoAway$Crew")) 0 0 0 0 [.ref o_r, .int c] (fun H => blk D ksRiver o_r R_r H) (fun v H => v = some (optC (o_r + 9) res)) fp0 := by
  refine mt_of (own := RX3) (ls := [.val (.ref o_r), .val (.int c)]) rfl (by decide +kernel) rfl ?_
  intro x H C hP
  have hb_r := hP
  refine r_iload_n C dX3_crewAt_0 rfl ?_
  refine r_if_lt C dX3_crewAt_1 (fun c1 => ?_) (fun c1 => ?_)
  · skip
    refine r_aconst_null C dX3_crewAt_34 ?_
    refine r_aretN C (Or.inl ⟨_, rfl⟩) dX3_crewAt_35 ?_
    have er : res = none := by rw [hres, d_X3_crewAt]; try exact (if_pos c1).trans (rfl)
    rw [er]
    exact rfl
  · skip
    refine r_iload_n C dX3_crewAt_4 rfl ?_
    refine r_aload_n C dX3_crewAt_5 rfl ?_
    refine r_get C hb_r (k := 0) rfl rfl celO_3 fw_X3_19 rfl dX3_crewAt_6 ?_
    refine r_alen C hb_r (k := 2) rfl rfl 3 (Or.inr (Or.inr (Or.inr (Or.inl ⟨rfl, rfl⟩)))) dX3_crewAt_9 ?_
    refine r_ic_ge C dX3_crewAt_10 (fun c2 => ?_) (fun c2 => ?_)
    · skip
      refine r_aconst_null C dX3_crewAt_34 ?_
      refine r_aretN C (Or.inl ⟨_, rfl⟩) dX3_crewAt_35 ?_
      have er : res = none := by rw [hres, d_X3_crewAt]; try exact (if_neg c1).trans ((if_pos c2).trans (rfl))
      rw [er]
      exact rfl
    · skip
      refine r_aload_n C dX3_crewAt_13 rfl ?_
      refine r_get C hb_r (k := 0) rfl rfl celO_3 fw_X3_19 rfl dX3_crewAt_14 ?_
      refine r_iload_n C dX3_crewAt_17 rfl ?_
      refine r_aaldC C hb_r (k := 2) rfl rfl (vp_in_lh (x_lo1 c1) (x_hi1 (N := 3) c2 (by omega)) (by omega)) (j := c.toNatClampNeg) rfl dX3_crewAt_18 ?_
      refine r_get C hb_r (k := (9 + 2 * c.toNatClampNeg)) (kRiver_9_2 _ (lt_of_in (vp_in_lh (x_lo1 c1) (x_hi1 (N := 3) c2 (by omega)) (by omega)))) (by omega) celO_0 fw_X3_43 (z := .int (R_r (9 + 2 * c.toNatClampNeg) 0)) rfl dX3_crewAt_19 ?_
      refine r_if_eq C dX3_crewAt_22 (fun c3 => ?_) (fun c3 => ?_)
      · skip
        refine r_aconst_null C dX3_crewAt_34 ?_
        refine r_aretN C (Or.inl ⟨_, rfl⟩) dX3_crewAt_35 ?_
        have er : res = none := by rw [hres, d_X3_crewAt]; try exact (if_neg c1).trans ((if_neg c2).trans ((if_pos c3).trans (rfl)))
        rw [er]
        exact rfl
      · skip
        refine r_aload_n C dX3_crewAt_25 rfl ?_
        refine r_get C hb_r (k := 0) rfl rfl celO_3 fw_X3_19 rfl dX3_crewAt_26 ?_
        refine r_iload_n C dX3_crewAt_29 rfl ?_
        refine r_aaldC C hb_r (k := 2) rfl rfl (vp_in_lh (x_lo1 c1) (x_hi1 (N := 3) c2 (by omega)) (by omega)) (j := c.toNatClampNeg) rfl dX3_crewAt_30 ?_
        refine r_goto C dX3_crewAt_31 ?_
        refine r_aret C (Or.inl ⟨_, rfl⟩) dX3_crewAt_35 ?_
        have er : res = (some c.toNatClampNeg) := by rw [hres, d_X3_crewAt]; try exact (if_neg c1).trans ((if_neg c2).trans ((if_neg c3).trans (rfl)))
        rw [er]
        exact rfl

def d_X3_townsThere_L4 (R_r : Nat → Nat → Int32) : Nat → Nat → Nat → Nat
  | 0, m, _ => m
  | n1 + 1, m, i =>
    if (nI 6) ≤ (nI i) then
      m
    else
      if (R_r (3 + i) 0) = 0 then
        d_X3_townsThere_L4 R_r n1 m (i + 1)
      else
        d_X3_townsThere_L4 R_r n1 (m + 1) (i + 1)
def d_X3_townsThere (R_r : Nat → Nat → Int32) : Int32 :=
  lt (d_X3_townsThere_L4 R_r 7 0 0) fun s16 =>
  (nI s16)
set_option maxHeartbeats 4000000 in
set_option maxRecDepth 100000 in
theorem c_X3_townsThere (l : Launch) (D : DD) (o_r : Nat) (R_r : Nat → Nat → Int32)  (res : Int32) (hres : res = d_X3_townsThere R_r) : Mt l D yX3_townsThere cX3_townsThere 3 (some .int) 0 0 0 0 [.ref o_r] (fun H => blk D ksRiver o_r R_r H) (fun v H => v = some (.int res)) fp0 := by
  refine mt_of (own := RX3) (ls := [.val (.ref o_r), .unset, .unset]) rfl (by decide +kernel) rfl ?_
  intro x H C hP
  have hb_r := hP
  refine r_iconst C dX3_townsThere_0 (0 : Int32) (by decide) ?_
  refine r_istore_n C dX3_townsThere_1 (ls' := [.val (.ref o_r), .val (.int (0 : Int32)), .unset]) rfl trivial rfl ?_
  refine r_iconst C dX3_townsThere_2 (0 : Int32) (by decide) ?_
  refine r_istore_n C dX3_townsThere_3 (ls' := [.val (.ref o_r), .val (.int (0 : Int32)), .val (.int (0 : Int32))]) rfl trivial rfl ?_
  have d_X3_townsThere_L4_w : ∀ (n1 : Nat) (m : Nat) (i : Nat) (H6 : Heap), True → (i ≤ 6) → (m ≤ i) → (6 - i < n1) → blk D ksRiver o_r R_r H6 → ∀ s3 : Nat, s3 = d_X3_townsThere_L4 R_r n1 m i → (∀ (H' : Heap) (z7 : Slot) (_ : slot1 z7), True → blk D ksRiver o_r R_r H' → WG x fp0 (Fin x (fun v H => v = some (.int res)) fp0 0 0) H' 0 0 34 [.val (.ref o_r), .val (.int (nI s3)), z7] []) → WG x fp0 (Fin x (fun v H => v = some (.int res)) fp0 0 0) H6 0 0 4 [.val (.ref o_r), .val (.int (nI m)), .val (.int (nI i))] [] := by
    intro n1
    induction n1 with
    | zero => intro m i H6  _ hi hm hm8; exact absurd hm8 (Nat.not_lt_zero _)
    | succ n1 ih2 =>
      intro m i H6  _ hi hm hm8 hb5 s3 hs3  kx4
      refine r_iload_n C dX3_townsThere_4 rfl ?_
      refine r_aload_n C dX3_townsThere_5 rfl ?_
      refine r_get C hb5 (k := 0) rfl rfl celO_3 fw_X3_11 rfl dX3_townsThere_6 ?_
      refine r_alen C hb5 (k := 1) rfl rfl 6 (Or.inr (Or.inr (Or.inl ⟨rfl, rfl⟩))) dX3_townsThere_9 ?_
      refine r_ic_ge C dX3_townsThere_10 (fun c9 => ?_) (fun c9 => ?_)
      · skip
        have f10 : (6 ≤ i) := nf_leI (by omega) (by omega) rfl rfl c9
        have e11 : s3 = m := by rw [hs3, d_X3_townsThere_L4]; try exact (if_pos c9).trans (rfl)
        rw [e11] at kx4
        exact kx4 _ (.val (.int (nI i))) rfl trivial  hb5
      · skip
        have f12 : ¬ (6 ≤ i) := nf_leIn (by omega) (by omega) rfl rfl c9
        refine r_aload_n C dX3_townsThere_13 rfl ?_
        refine r_get C hb5 (k := 0) rfl rfl celO_3 fw_X3_11 rfl dX3_townsThere_14 ?_
        refine r_iload_n C dX3_townsThere_17 rfl ?_
        refine r_aaldT C hb5 (k := 1) rfl rfl (vp_in_n rfl (by omega) (by omega)) (j := i) (cl_n rfl (by omega)) dX3_townsThere_18 ?_
        refine r_get C hb5 (k := (3 + i)) (kRiver_3_1 _ (by omega)) (by omega) celO_5 fw_X3_39 (z := .int (R_r (3 + i) 0)) rfl dX3_townsThere_19 ?_
        refine r_if_eq C dX3_townsThere_22 (fun c13 => ?_) (fun c13 => ?_)
        · skip
          refine r_iinc C dX3_townsThere_28 (nI (i + 1)) rfl (nI_inc i rfl) (ls' := [.val (.ref o_r), .val (.int (nI m)), .val (.int (nI (i + 1)))]) rfl ?_
          refine r_goto C dX3_townsThere_31 ?_
          have e14 : s3 = d_X3_townsThere_L4 R_r n1 m (i + 1) := by rw [hs3, d_X3_townsThere_L4]; try exact (if_neg c9).trans ((if_pos c13).trans (rfl))
          exact ih2 m (i + 1) _  trivial (by omega) (by omega) (by omega) hb5 s3 e14  kx4
        · skip
          refine r_iinc C dX3_townsThere_25 (nI (m + 1)) rfl (nI_inc m rfl) (ls' := [.val (.ref o_r), .val (.int (nI (m + 1))), .val (.int (nI i))]) rfl ?_
          refine r_iinc C dX3_townsThere_28 (nI (i + 1)) rfl (nI_inc i rfl) (ls' := [.val (.ref o_r), .val (.int (nI (m + 1))), .val (.int (nI (i + 1)))]) rfl ?_
          refine r_goto C dX3_townsThere_31 ?_
          have e15 : s3 = d_X3_townsThere_L4 R_r n1 (m + 1) (i + 1) := by rw [hs3, d_X3_townsThere_L4]; try exact (if_neg c9).trans ((if_neg c13).trans (rfl))
          exact ih2 (m + 1) (i + 1) _  trivial (by omega) (by omega) (by omega) hb5 s3 e15  kx4
  obtain ⟨s16, hs16⟩ : ∃ r, r = d_X3_townsThere_L4 R_r 7 0 0 := ⟨_, rfl⟩
  refine d_X3_townsThere_L4_w 7 0 0 _  trivial (by omega) (by omega) (by omega) hb_r s16 hs16  (fun H18 z7 hz7 e19  hb17 => ?_)
  refine r_iload_n C dX3_townsThere_34 rfl ?_
  refine r_iret C dX3_townsThere_35 ?_
  have er : res = (nI s16) := by rw [hres, d_X3_townsThere]; try exact (lt_eq hs16).trans (rfl)
  rw [er]

def d_X3_crewsThere_L4 (R_r : Nat → Nat → Int32) : Nat → Nat → Nat → Nat
  | 0, m, _ => m
  | n1 + 1, m, i =>
    if (nI 3) ≤ (nI i) then
      m
    else
      if (R_r (9 + 2 * i) 0) = 0 then
        d_X3_crewsThere_L4 R_r n1 m (i + 1)
      else
        d_X3_crewsThere_L4 R_r n1 (m + 1) (i + 1)
def d_X3_crewsThere (R_r : Nat → Nat → Int32) : Int32 :=
  lt (d_X3_crewsThere_L4 R_r 4 0 0) fun s16 =>
  (nI s16)
set_option maxHeartbeats 4000000 in
set_option maxRecDepth 100000 in
theorem c_X3_crewsThere (l : Launch) (D : DD) (o_r : Nat) (R_r : Nat → Nat → Int32)  (res : Int32) (hres : res = d_X3_crewsThere R_r) : Mt l D yX3_crewsThere cX3_crewsThere 3 (some .int) 0 0 0 0 [.ref o_r] (fun H => blk D ksRiver o_r R_r H) (fun v H => v = some (.int res)) fp0 := by
  refine mt_of (own := RX3) (ls := [.val (.ref o_r), .unset, .unset]) rfl (by decide +kernel) rfl ?_
  intro x H C hP
  have hb_r := hP
  refine r_iconst C dX3_crewsThere_0 (0 : Int32) (by decide) ?_
  refine r_istore_n C dX3_crewsThere_1 (ls' := [.val (.ref o_r), .val (.int (0 : Int32)), .unset]) rfl trivial rfl ?_
  refine r_iconst C dX3_crewsThere_2 (0 : Int32) (by decide) ?_
  refine r_istore_n C dX3_crewsThere_3 (ls' := [.val (.ref o_r), .val (.int (0 : Int32)), .val (.int (0 : Int32))]) rfl trivial rfl ?_
  have d_X3_crewsThere_L4_w : ∀ (n1 : Nat) (m : Nat) (i : Nat) (H6 : Heap), True → (i ≤ 3) → (m ≤ i) → (3 - i < n1) → blk D ksRiver o_r R_r H6 → ∀ s3 : Nat, s3 = d_X3_crewsThere_L4 R_r n1 m i → (∀ (H' : Heap) (z7 : Slot) (_ : slot1 z7), True → blk D ksRiver o_r R_r H' → WG x fp0 (Fin x (fun v H => v = some (.int res)) fp0 0 0) H' 0 0 34 [.val (.ref o_r), .val (.int (nI s3)), z7] []) → WG x fp0 (Fin x (fun v H => v = some (.int res)) fp0 0 0) H6 0 0 4 [.val (.ref o_r), .val (.int (nI m)), .val (.int (nI i))] [] := by
    intro n1
    induction n1 with
    | zero => intro m i H6  _ hi hm hm8; exact absurd hm8 (Nat.not_lt_zero _)
    | succ n1 ih2 =>
      intro m i H6  _ hi hm hm8 hb5 s3 hs3  kx4
      refine r_iload_n C dX3_crewsThere_4 rfl ?_
      refine r_aload_n C dX3_crewsThere_5 rfl ?_
      refine r_get C hb5 (k := 0) rfl rfl celO_3 fw_X3_19 rfl dX3_crewsThere_6 ?_
      refine r_alen C hb5 (k := 2) rfl rfl 3 (Or.inr (Or.inr (Or.inr (Or.inl ⟨rfl, rfl⟩)))) dX3_crewsThere_9 ?_
      refine r_ic_ge C dX3_crewsThere_10 (fun c9 => ?_) (fun c9 => ?_)
      · skip
        have f10 : (3 ≤ i) := nf_leI (by omega) (by omega) rfl rfl c9
        have e11 : s3 = m := by rw [hs3, d_X3_crewsThere_L4]; try exact (if_pos c9).trans (rfl)
        rw [e11] at kx4
        exact kx4 _ (.val (.int (nI i))) rfl trivial  hb5
      · skip
        have f12 : ¬ (3 ≤ i) := nf_leIn (by omega) (by omega) rfl rfl c9
        refine r_aload_n C dX3_crewsThere_13 rfl ?_
        refine r_get C hb5 (k := 0) rfl rfl celO_3 fw_X3_19 rfl dX3_crewsThere_14 ?_
        refine r_iload_n C dX3_crewsThere_17 rfl ?_
        refine r_aaldC C hb5 (k := 2) rfl rfl (vp_in_n rfl (by omega) (by omega)) (j := i) (cl_n rfl (by omega)) dX3_crewsThere_18 ?_
        refine r_get C hb5 (k := (9 + 2 * i)) (kRiver_9_2 _ (by omega)) (by omega) celO_0 fw_X3_43 (z := .int (R_r (9 + 2 * i) 0)) rfl dX3_crewsThere_19 ?_
        refine r_if_eq C dX3_crewsThere_22 (fun c13 => ?_) (fun c13 => ?_)
        · skip
          refine r_iinc C dX3_crewsThere_28 (nI (i + 1)) rfl (nI_inc i rfl) (ls' := [.val (.ref o_r), .val (.int (nI m)), .val (.int (nI (i + 1)))]) rfl ?_
          refine r_goto C dX3_crewsThere_31 ?_
          have e14 : s3 = d_X3_crewsThere_L4 R_r n1 m (i + 1) := by rw [hs3, d_X3_crewsThere_L4]; try exact (if_neg c9).trans ((if_pos c13).trans (rfl))
          exact ih2 m (i + 1) _  trivial (by omega) (by omega) (by omega) hb5 s3 e14  kx4
        · skip
          refine r_iinc C dX3_crewsThere_25 (nI (m + 1)) rfl (nI_inc m rfl) (ls' := [.val (.ref o_r), .val (.int (nI (m + 1))), .val (.int (nI i))]) rfl ?_
          refine r_iinc C dX3_crewsThere_28 (nI (i + 1)) rfl (nI_inc i rfl) (ls' := [.val (.ref o_r), .val (.int (nI (m + 1))), .val (.int (nI (i + 1)))]) rfl ?_
          refine r_goto C dX3_crewsThere_31 ?_
          have e15 : s3 = d_X3_crewsThere_L4 R_r n1 (m + 1) (i + 1) := by rw [hs3, d_X3_crewsThere_L4]; try exact (if_neg c9).trans ((if_neg c13).trans (rfl))
          exact ih2 (m + 1) (i + 1) _  trivial (by omega) (by omega) (by omega) hb5 s3 e15  kx4
  obtain ⟨s16, hs16⟩ : ∃ r, r = d_X3_crewsThere_L4 R_r 4 0 0 := ⟨_, rfl⟩
  refine d_X3_crewsThere_L4_w 4 0 0 _  trivial (by omega) (by omega) (by omega) hb_r s16 hs16  (fun H18 z7 hz7 e19  hb17 => ?_)
  refine r_iload_n C dX3_crewsThere_34 rfl ?_
  refine r_iret C dX3_crewsThere_35 ?_
  have er : res = (nI s16) := by rw [hres, d_X3_crewsThere]; try exact (lt_eq hs16).trans (rfl)
  rw [er]

def d_X3_townsBurnt_L4 (R_r : Nat → Nat → Int32) : Nat → Nat → Nat → Nat
  | 0, m, _ => m
  | n1 + 1, m, i =>
    if (nI 6) ≤ (nI i) then
      m
    else
      if (R_r (3 + i) 0) = 0 then
        d_X3_townsBurnt_L4 R_r n1 m (i + 1)
      else
        if (R_r (3 + i) 1) = 0 then
          d_X3_townsBurnt_L4 R_r n1 m (i + 1)
        else
          d_X3_townsBurnt_L4 R_r n1 (m + 1) (i + 1)
def d_X3_townsBurnt (R_r : Nat → Nat → Int32) : Int32 :=
  lt (d_X3_townsBurnt_L4 R_r 7 0 0) fun s18 =>
  (nI s18)
set_option maxHeartbeats 4000000 in
set_option maxRecDepth 100000 in
theorem c_X3_townsBurnt (l : Launch) (D : DD) (o_r : Nat) (R_r : Nat → Nat → Int32)  (res : Int32) (hres : res = d_X3_townsBurnt R_r) : Mt l D yX3_townsBurnt cX3_townsBurnt 3 (some .int) 0 0 0 0 [.ref o_r] (fun H => blk D ksRiver o_r R_r H) (fun v H => v = some (.int res)) fp0 := by
  refine mt_of (own := RX3) (ls := [.val (.ref o_r), .unset, .unset]) rfl (by decide +kernel) rfl ?_
  intro x H C hP
  have hb_r := hP
  refine r_iconst C dX3_townsBurnt_0 (0 : Int32) (by decide) ?_
  refine r_istore_n C dX3_townsBurnt_1 (ls' := [.val (.ref o_r), .val (.int (0 : Int32)), .unset]) rfl trivial rfl ?_
  refine r_iconst C dX3_townsBurnt_2 (0 : Int32) (by decide) ?_
  refine r_istore_n C dX3_townsBurnt_3 (ls' := [.val (.ref o_r), .val (.int (0 : Int32)), .val (.int (0 : Int32))]) rfl trivial rfl ?_
  have d_X3_townsBurnt_L4_w : ∀ (n1 : Nat) (m : Nat) (i : Nat) (H6 : Heap), True → (i ≤ 6) → (m ≤ i) → (6 - i < n1) → blk D ksRiver o_r R_r H6 → ∀ s3 : Nat, s3 = d_X3_townsBurnt_L4 R_r n1 m i → (∀ (H' : Heap) (z7 : Slot) (_ : slot1 z7), True → blk D ksRiver o_r R_r H' → WG x fp0 (Fin x (fun v H => v = some (.int res)) fp0 0 0) H' 0 0 46 [.val (.ref o_r), .val (.int (nI s3)), z7] []) → WG x fp0 (Fin x (fun v H => v = some (.int res)) fp0 0 0) H6 0 0 4 [.val (.ref o_r), .val (.int (nI m)), .val (.int (nI i))] [] := by
    intro n1
    induction n1 with
    | zero => intro m i H6  _ hi hm hm8; exact absurd hm8 (Nat.not_lt_zero _)
    | succ n1 ih2 =>
      intro m i H6  _ hi hm hm8 hb5 s3 hs3  kx4
      refine r_iload_n C dX3_townsBurnt_4 rfl ?_
      refine r_aload_n C dX3_townsBurnt_5 rfl ?_
      refine r_get C hb5 (k := 0) rfl rfl celO_3 fw_X3_11 rfl dX3_townsBurnt_6 ?_
      refine r_alen C hb5 (k := 1) rfl rfl 6 (Or.inr (Or.inr (Or.inl ⟨rfl, rfl⟩))) dX3_townsBurnt_9 ?_
      refine r_ic_ge C dX3_townsBurnt_10 (fun c9 => ?_) (fun c9 => ?_)
      · skip
        have f10 : (6 ≤ i) := nf_leI (by omega) (by omega) rfl rfl c9
        have e11 : s3 = m := by rw [hs3, d_X3_townsBurnt_L4]; try exact (if_pos c9).trans (rfl)
        rw [e11] at kx4
        exact kx4 _ (.val (.int (nI i))) rfl trivial  hb5
      · skip
        have f12 : ¬ (6 ≤ i) := nf_leIn (by omega) (by omega) rfl rfl c9
        refine r_aload_n C dX3_townsBurnt_13 rfl ?_
        refine r_get C hb5 (k := 0) rfl rfl celO_3 fw_X3_11 rfl dX3_townsBurnt_14 ?_
        refine r_iload_n C dX3_townsBurnt_17 rfl ?_
        refine r_aaldT C hb5 (k := 1) rfl rfl (vp_in_n rfl (by omega) (by omega)) (j := i) (cl_n rfl (by omega)) dX3_townsBurnt_18 ?_
        refine r_get C hb5 (k := (3 + i)) (kRiver_3_1 _ (by omega)) (by omega) celO_5 fw_X3_39 (z := .int (R_r (3 + i) 0)) rfl dX3_townsBurnt_19 ?_
        refine r_if_eq C dX3_townsBurnt_22 (fun c13 => ?_) (fun c13 => ?_)
        · skip
          refine r_iinc C dX3_townsBurnt_40 (nI (i + 1)) rfl (nI_inc i rfl) (ls' := [.val (.ref o_r), .val (.int (nI m)), .val (.int (nI (i + 1)))]) rfl ?_
          refine r_goto C dX3_townsBurnt_43 ?_
          have e14 : s3 = d_X3_townsBurnt_L4 R_r n1 m (i + 1) := by rw [hs3, d_X3_townsBurnt_L4]; try exact (if_neg c9).trans ((if_pos c13).trans (rfl))
          exact ih2 m (i + 1) _  trivial (by omega) (by omega) (by omega) hb5 s3 e14  kx4
        · skip
          refine r_aload_n C dX3_townsBurnt_25 rfl ?_
          refine r_get C hb5 (k := 0) rfl rfl celO_3 fw_X3_11 rfl dX3_townsBurnt_26 ?_
          refine r_iload_n C dX3_townsBurnt_29 rfl ?_
          refine r_aaldT C hb5 (k := 1) rfl rfl (vp_in_n rfl (by omega) (by omega)) (j := i) (cl_n rfl (by omega)) dX3_townsBurnt_30 ?_
          refine r_get C hb5 (k := (3 + i)) (kRiver_3_1 _ (by omega)) (by omega) celO_5 fw_X3_48 (z := .int (R_r (3 + i) 1)) rfl dX3_townsBurnt_31 ?_
          refine r_if_eq C dX3_townsBurnt_34 (fun c15 => ?_) (fun c15 => ?_)
          · skip
            refine r_iinc C dX3_townsBurnt_40 (nI (i + 1)) rfl (nI_inc i rfl) (ls' := [.val (.ref o_r), .val (.int (nI m)), .val (.int (nI (i + 1)))]) rfl ?_
            refine r_goto C dX3_townsBurnt_43 ?_
            have e16 : s3 = d_X3_townsBurnt_L4 R_r n1 m (i + 1) := by rw [hs3, d_X3_townsBurnt_L4]; try exact (if_neg c9).trans ((if_neg c13).trans ((if_pos c15).trans (rfl)))
            exact ih2 m (i + 1) _  trivial (by omega) (by omega) (by omega) hb5 s3 e16  kx4
          · skip
            refine r_iinc C dX3_townsBurnt_37 (nI (m + 1)) rfl (nI_inc m rfl) (ls' := [.val (.ref o_r), .val (.int (nI (m + 1))), .val (.int (nI i))]) rfl ?_
            refine r_iinc C dX3_townsBurnt_40 (nI (i + 1)) rfl (nI_inc i rfl) (ls' := [.val (.ref o_r), .val (.int (nI (m + 1))), .val (.int (nI (i + 1)))]) rfl ?_
            refine r_goto C dX3_townsBurnt_43 ?_
            have e17 : s3 = d_X3_townsBurnt_L4 R_r n1 (m + 1) (i + 1) := by rw [hs3, d_X3_townsBurnt_L4]; try exact (if_neg c9).trans ((if_neg c13).trans ((if_neg c15).trans (rfl)))
            exact ih2 (m + 1) (i + 1) _  trivial (by omega) (by omega) (by omega) hb5 s3 e17  kx4
  obtain ⟨s18, hs18⟩ : ∃ r, r = d_X3_townsBurnt_L4 R_r 7 0 0 := ⟨_, rfl⟩
  refine d_X3_townsBurnt_L4_w 7 0 0 _  trivial (by omega) (by omega) (by omega) hb_r s18 hs18  (fun H20 z7 hz7 e21  hb19 => ?_)
  refine r_iload_n C dX3_townsBurnt_46 rfl ?_
  refine r_iret C dX3_townsBurnt_47 ?_
  have er : res = (nI s18) := by rw [hres, d_X3_townsBurnt]; try exact (lt_eq hs18).trans (rfl)
  rw [er]

def d_X3_crewsGone_L4 (R_r : Nat → Nat → Int32) : Nat → Nat → Nat → Nat
  | 0, m, _ => m
  | n1 + 1, m, i =>
    if (nI 3) ≤ (nI i) then
      m
    else
      if (R_r (9 + 2 * i) 0) = 0 then
        d_X3_crewsGone_L4 R_r n1 m (i + 1)
      else
        if (R_r (9 + 2 * i) 1) = 0 then
          d_X3_crewsGone_L4 R_r n1 m (i + 1)
        else
          d_X3_crewsGone_L4 R_r n1 (m + 1) (i + 1)
def d_X3_crewsGone (R_r : Nat → Nat → Int32) : Int32 :=
  lt (d_X3_crewsGone_L4 R_r 4 0 0) fun s18 =>
  (nI s18)
set_option maxHeartbeats 4000000 in
set_option maxRecDepth 100000 in
theorem c_X3_crewsGone (l : Launch) (D : DD) (o_r : Nat) (R_r : Nat → Nat → Int32)  (res : Int32) (hres : res = d_X3_crewsGone R_r) : Mt l D yX3_crewsGone cX3_crewsGone 3 (some .int) 0 0 0 0 [.ref o_r] (fun H => blk D ksRiver o_r R_r H) (fun v H => v = some (.int res)) fp0 := by
  refine mt_of (own := RX3) (ls := [.val (.ref o_r), .unset, .unset]) rfl (by decide +kernel) rfl ?_
  intro x H C hP
  have hb_r := hP
  refine r_iconst C dX3_crewsGone_0 (0 : Int32) (by decide) ?_
  refine r_istore_n C dX3_crewsGone_1 (ls' := [.val (.ref o_r), .val (.int (0 : Int32)), .unset]) rfl trivial rfl ?_
  refine r_iconst C dX3_crewsGone_2 (0 : Int32) (by decide) ?_
  refine r_istore_n C dX3_crewsGone_3 (ls' := [.val (.ref o_r), .val (.int (0 : Int32)), .val (.int (0 : Int32))]) rfl trivial rfl ?_
  have d_X3_crewsGone_L4_w : ∀ (n1 : Nat) (m : Nat) (i : Nat) (H6 : Heap), True → (i ≤ 3) → (m ≤ i) → (3 - i < n1) → blk D ksRiver o_r R_r H6 → ∀ s3 : Nat, s3 = d_X3_crewsGone_L4 R_r n1 m i → (∀ (H' : Heap) (z7 : Slot) (_ : slot1 z7), True → blk D ksRiver o_r R_r H' → WG x fp0 (Fin x (fun v H => v = some (.int res)) fp0 0 0) H' 0 0 46 [.val (.ref o_r), .val (.int (nI s3)), z7] []) → WG x fp0 (Fin x (fun v H => v = some (.int res)) fp0 0 0) H6 0 0 4 [.val (.ref o_r), .val (.int (nI m)), .val (.int (nI i))] [] := by
    intro n1
    induction n1 with
    | zero => intro m i H6  _ hi hm hm8; exact absurd hm8 (Nat.not_lt_zero _)
    | succ n1 ih2 =>
      intro m i H6  _ hi hm hm8 hb5 s3 hs3  kx4
      refine r_iload_n C dX3_crewsGone_4 rfl ?_
      refine r_aload_n C dX3_crewsGone_5 rfl ?_
      refine r_get C hb5 (k := 0) rfl rfl celO_3 fw_X3_19 rfl dX3_crewsGone_6 ?_
      refine r_alen C hb5 (k := 2) rfl rfl 3 (Or.inr (Or.inr (Or.inr (Or.inl ⟨rfl, rfl⟩)))) dX3_crewsGone_9 ?_
      refine r_ic_ge C dX3_crewsGone_10 (fun c9 => ?_) (fun c9 => ?_)
      · skip
        have f10 : (3 ≤ i) := nf_leI (by omega) (by omega) rfl rfl c9
        have e11 : s3 = m := by rw [hs3, d_X3_crewsGone_L4]; try exact (if_pos c9).trans (rfl)
        rw [e11] at kx4
        exact kx4 _ (.val (.int (nI i))) rfl trivial  hb5
      · skip
        have f12 : ¬ (3 ≤ i) := nf_leIn (by omega) (by omega) rfl rfl c9
        refine r_aload_n C dX3_crewsGone_13 rfl ?_
        refine r_get C hb5 (k := 0) rfl rfl celO_3 fw_X3_19 rfl dX3_crewsGone_14 ?_
        refine r_iload_n C dX3_crewsGone_17 rfl ?_
        refine r_aaldC C hb5 (k := 2) rfl rfl (vp_in_n rfl (by omega) (by omega)) (j := i) (cl_n rfl (by omega)) dX3_crewsGone_18 ?_
        refine r_get C hb5 (k := (9 + 2 * i)) (kRiver_9_2 _ (by omega)) (by omega) celO_0 fw_X3_43 (z := .int (R_r (9 + 2 * i) 0)) rfl dX3_crewsGone_19 ?_
        refine r_if_eq C dX3_crewsGone_22 (fun c13 => ?_) (fun c13 => ?_)
        · skip
          refine r_iinc C dX3_crewsGone_40 (nI (i + 1)) rfl (nI_inc i rfl) (ls' := [.val (.ref o_r), .val (.int (nI m)), .val (.int (nI (i + 1)))]) rfl ?_
          refine r_goto C dX3_crewsGone_43 ?_
          have e14 : s3 = d_X3_crewsGone_L4 R_r n1 m (i + 1) := by rw [hs3, d_X3_crewsGone_L4]; try exact (if_neg c9).trans ((if_pos c13).trans (rfl))
          exact ih2 m (i + 1) _  trivial (by omega) (by omega) (by omega) hb5 s3 e14  kx4
        · skip
          refine r_aload_n C dX3_crewsGone_25 rfl ?_
          refine r_get C hb5 (k := 0) rfl rfl celO_3 fw_X3_19 rfl dX3_crewsGone_26 ?_
          refine r_iload_n C dX3_crewsGone_29 rfl ?_
          refine r_aaldC C hb5 (k := 2) rfl rfl (vp_in_n rfl (by omega) (by omega)) (j := i) (cl_n rfl (by omega)) dX3_crewsGone_30 ?_
          refine r_get C hb5 (k := (9 + 2 * i)) (kRiver_9_2 _ (by omega)) (by omega) celO_0 fw_X3_76 (z := .int (R_r (9 + 2 * i) 1)) rfl dX3_crewsGone_31 ?_
          refine r_if_eq C dX3_crewsGone_34 (fun c15 => ?_) (fun c15 => ?_)
          · skip
            refine r_iinc C dX3_crewsGone_40 (nI (i + 1)) rfl (nI_inc i rfl) (ls' := [.val (.ref o_r), .val (.int (nI m)), .val (.int (nI (i + 1)))]) rfl ?_
            refine r_goto C dX3_crewsGone_43 ?_
            have e16 : s3 = d_X3_crewsGone_L4 R_r n1 m (i + 1) := by rw [hs3, d_X3_crewsGone_L4]; try exact (if_neg c9).trans ((if_neg c13).trans ((if_pos c15).trans (rfl)))
            exact ih2 m (i + 1) _  trivial (by omega) (by omega) (by omega) hb5 s3 e16  kx4
          · skip
            refine r_iinc C dX3_crewsGone_37 (nI (m + 1)) rfl (nI_inc m rfl) (ls' := [.val (.ref o_r), .val (.int (nI (m + 1))), .val (.int (nI i))]) rfl ?_
            refine r_iinc C dX3_crewsGone_40 (nI (i + 1)) rfl (nI_inc i rfl) (ls' := [.val (.ref o_r), .val (.int (nI (m + 1))), .val (.int (nI (i + 1)))]) rfl ?_
            refine r_goto C dX3_crewsGone_43 ?_
            have e17 : s3 = d_X3_crewsGone_L4 R_r n1 (m + 1) (i + 1) := by rw [hs3, d_X3_crewsGone_L4]; try exact (if_neg c9).trans ((if_neg c13).trans ((if_neg c15).trans (rfl)))
            exact ih2 (m + 1) (i + 1) _  trivial (by omega) (by omega) (by omega) hb5 s3 e17  kx4
  obtain ⟨s18, hs18⟩ : ∃ r, r = d_X3_crewsGone_L4 R_r 4 0 0 := ⟨_, rfl⟩
  refine d_X3_crewsGone_L4_w 4 0 0 _  trivial (by omega) (by omega) (by omega) hb_r s18 hs18  (fun H20 z7 hz7 e21  hb19 => ?_)
  refine r_iload_n C dX3_crewsGone_46 rfl ?_
  refine r_iret C dX3_crewsGone_47 ?_
  have er : res = (nI s18) := by rw [hres, d_X3_crewsGone]; try exact (lt_eq hs18).trans (rfl)
  rw [er]

def d_X3_silverOfAll_L4 (R_r : Nat → Nat → Int32) : Nat → Int32 → Nat → Int32
  | 0, sum, _ => sum
  | n1 + 1, sum, i =>
    if (nI 6) ≤ (nI i) then
      sum
    else
      lt (d_X5_stands (shf R_r (3 + i))) fun u13 =>
      if u13 = 0 then
        d_X3_silverOfAll_L4 R_r n1 sum (i + 1)
      else
        d_X3_silverOfAll_L4 R_r n1 (sum + (R_r (3 + i) 3)) (i + 1)
def d_X3_silverOfAll (R_r : Nat → Nat → Int32) : Int32 :=
  lt (d_X3_silverOfAll_L4 R_r 7 (0 : Int32) 0) fun s22 =>
  s22
set_option maxHeartbeats 4000000 in
set_option maxRecDepth 100000 in
theorem c_X3_silverOfAll (l : Launch) (D : DD) (o_r : Nat) (R_r : Nat → Nat → Int32)  (res : Int32) (hres : res = d_X3_silverOfAll R_r) : Mt l D yX3_silverOfAll cX3_silverOfAll 3 (some .int) 1 20 0 0 [.ref o_r] (fun H => blk D ksRiver o_r R_r H) (fun v H => v = some (.int res)) fp0 := by
  refine mt_of (own := RX3) (ls := [.val (.ref o_r), .unset, .unset]) rfl (by decide +kernel) rfl ?_
  intro x H C hP
  have hb_r := hP
  refine r_iconst C dX3_silverOfAll_0 (0 : Int32) (by decide) ?_
  refine r_istore_n C dX3_silverOfAll_1 (ls' := [.val (.ref o_r), .val (.int (0 : Int32)), .unset]) rfl trivial rfl ?_
  refine r_iconst C dX3_silverOfAll_2 (0 : Int32) (by decide) ?_
  refine r_istore_n C dX3_silverOfAll_3 (ls' := [.val (.ref o_r), .val (.int (0 : Int32)), .val (.int (0 : Int32))]) rfl trivial rfl ?_
  have d_X3_silverOfAll_L4_w : ∀ (n1 : Nat) (sum : Int32) (i : Nat) (H6 : Heap), True → (i ≤ 6) → (6 - i < n1) → blk D ksRiver o_r R_r H6 → ∀ s3 : Int32, s3 = d_X3_silverOfAll_L4 R_r n1 sum i → (∀ (H' : Heap) (z7 : Slot) (_ : slot1 z7), True → blk D ksRiver o_r R_r H' → WG x fp0 (Fin x (fun v H => v = some (.int res)) fp0 0 0) H' 0 0 43 [.val (.ref o_r), .val (.int s3), z7] []) → WG x fp0 (Fin x (fun v H => v = some (.int res)) fp0 0 0) H6 0 0 4 [.val (.ref o_r), .val (.int sum), .val (.int (nI i))] [] := by
    intro n1
    induction n1 with
    | zero => intro sum i H6  _ hi hm8; exact absurd hm8 (Nat.not_lt_zero _)
    | succ n1 ih2 =>
      intro sum i H6  _ hi hm8 hb5 s3 hs3  kx4
      refine r_iload_n C dX3_silverOfAll_4 rfl ?_
      refine r_aload_n C dX3_silverOfAll_5 rfl ?_
      refine r_get C hb5 (k := 0) rfl rfl celO_3 fw_X3_11 rfl dX3_silverOfAll_6 ?_
      refine r_alen C hb5 (k := 1) rfl rfl 6 (Or.inr (Or.inr (Or.inl ⟨rfl, rfl⟩))) dX3_silverOfAll_9 ?_
      refine r_ic_ge C dX3_silverOfAll_10 (fun c9 => ?_) (fun c9 => ?_)
      · skip
        have f10 : (6 ≤ i) := nf_leI (by omega) (by omega) rfl rfl c9
        have e11 : s3 = sum := by rw [hs3, d_X3_silverOfAll_L4]; try exact (if_pos c9).trans (rfl)
        rw [e11] at kx4
        exact kx4 _ (.val (.int (nI i))) rfl trivial  hb5
      · skip
        have f12 : ¬ (6 ≤ i) := nf_leIn (by omega) (by omega) rfl rfl c9
        refine r_aload_n C dX3_silverOfAll_13 rfl ?_
        refine r_get C hb5 (k := 0) rfl rfl celO_3 fw_X3_11 rfl dX3_silverOfAll_14 ?_
        refine r_iload_n C dX3_silverOfAll_17 rfl ?_
        refine r_aaldT C hb5 (k := 1) rfl rfl (vp_in_n rfl (by omega) (by omega)) (j := i) (cl_n rfl (by omega)) dX3_silverOfAll_18 ?_
        obtain ⟨u13, hu13⟩ : ∃ r, r = d_X5_stands (shf R_r (3 + i)) := ⟨_, rfl⟩
        refine r_callV0 C cw_X3_99 (fun l => c_X5_stands l D ((o_r + 1) + 2 + i) (shf R_r (3 + i)) u13 hu13) (rest := []) hb5 (k := (3 + i)) (kRiver_3_1 _ (by omega)) (by omega) celO_5 (blk_sub hb5 (3 + i) 1 (sRiver_3_1_1 _ (by omega)) (by omega)) (fun q h => h.elim) rfl rfl rfl (Nat.le_of_ble_eq_true rfl) ⟨Nat.le_of_ble_eq_true rfl, Nat.le_of_ble_eq_true rfl, Nat.le_refl 0, Nat.le_refl 0⟩ dX3_silverOfAll_19 (fun v H14 hp15 hq16 => ?_)
        obtain ⟨rfl, hl17⟩ := hp15
        have hb18 := blk_kept hb5 (n := 15) rfl (fun q h1 h2 => hq16 q (fun h => h))
        dsimp only [psh]
        refine r_if_eq C dX3_silverOfAll_22 (fun c19 => ?_) (fun c19 => ?_)
        · skip
          refine r_iinc C dX3_silverOfAll_37 (nI (i + 1)) rfl (nI_inc i rfl) (ls' := [.val (.ref o_r), .val (.int sum), .val (.int (nI (i + 1)))]) rfl ?_
          refine r_goto C dX3_silverOfAll_40 ?_
          have e20 : s3 = d_X3_silverOfAll_L4 R_r n1 sum (i + 1) := by rw [hs3, d_X3_silverOfAll_L4]; try exact (if_neg c9).trans ((lt_eq hu13).trans ((if_pos c19).trans (rfl)))
          exact ih2 sum (i + 1) _  trivial (by omega) (by omega) hb18 s3 e20  kx4
        · skip
          refine r_iload_n C dX3_silverOfAll_25 rfl ?_
          refine r_aload_n C dX3_silverOfAll_26 rfl ?_
          refine r_get C hb18 (k := 0) rfl rfl celO_3 fw_X3_11 rfl dX3_silverOfAll_27 ?_
          refine r_iload_n C dX3_silverOfAll_30 rfl ?_
          refine r_aaldT C hb18 (k := 1) rfl rfl (vp_in_n rfl (by omega) (by omega)) (j := i) (cl_n rfl (by omega)) dX3_silverOfAll_31 ?_
          refine r_get C hb18 (k := (3 + i)) (kRiver_3_1 _ (by omega)) (by omega) celO_5 fw_X3_58 (z := .int (R_r (3 + i) 3)) rfl dX3_silverOfAll_32 ?_
          refine r_iadd C dX3_silverOfAll_35 ?_
          refine r_istore_n C dX3_silverOfAll_36 (ls' := [.val (.ref o_r), .val (.int (sum + (R_r (3 + i) 3))), .val (.int (nI i))]) rfl rfl rfl ?_
          refine r_iinc C dX3_silverOfAll_37 (nI (i + 1)) rfl (nI_inc i rfl) (ls' := [.val (.ref o_r), .val (.int (sum + (R_r (3 + i) 3))), .val (.int (nI (i + 1)))]) rfl ?_
          refine r_goto C dX3_silverOfAll_40 ?_
          have e21 : s3 = d_X3_silverOfAll_L4 R_r n1 (sum + (R_r (3 + i) 3)) (i + 1) := by rw [hs3, d_X3_silverOfAll_L4]; try exact (if_neg c9).trans ((lt_eq hu13).trans ((if_neg c19).trans (rfl)))
          exact ih2 (sum + (R_r (3 + i) 3)) (i + 1) _  trivial (by omega) (by omega) hb18 s3 e21  kx4
  obtain ⟨s22, hs22⟩ : ∃ r, r = d_X3_silverOfAll_L4 R_r 7 (0 : Int32) 0 := ⟨_, rfl⟩
  refine d_X3_silverOfAll_L4_w 7 (0 : Int32) 0 _  trivial (by omega) (by omega) hb_r s22 hs22  (fun H24 z7 hz7 e25  hb23 => ?_)
  refine r_iload_n C dX3_silverOfAll_43 rfl ?_
  refine r_iret C dX3_silverOfAll_44 ?_
  have er : res = s22 := by rw [hres, d_X3_silverOfAll]; try exact (lt_eq hs22).trans (rfl)
  rw [er]

def d_X3_askedOfAll_L15 (R_r : Nat → Nat → Int32) (c : Nat) : Nat → Int32 → Nat → Int32
  | 0, sm, _ => sm
  | n15 + 1, sm, i =>
    if (nI 6) ≤ (nI i) then
      sm
    else
      lt (d_X0_sails (shf R_r (9 + 2 * c))) fun u27 =>
      if u27 = 0 then
        d_X3_askedOfAll_L15 R_r c n15 sm (i + 1)
      else
        lt (d_X5_stands (shf R_r (3 + i))) fun u35 =>
        if u35 = 0 then
          d_X3_askedOfAll_L15 R_r c n15 sm (i + 1)
        else
          lt (d_X0_wouldAsk (shf R_r (9 + 2 * c)) (shf R_r (3 + i)) (nI i)) fun u43 =>
          d_X3_askedOfAll_L15 R_r c n15 (sm + u43) (i + 1)
def d_X3_askedOfAll_L4 (R_r : Nat → Nat → Int32) : Nat → Int32 → Nat → Int32
  | 0, sum, _ => sum
  | n1 + 1, sum, c =>
    if (nI 3) ≤ (nI c) then
      sum
    else
      lt (d_X3_askedOfAll_L15 R_r c 7 sum 0) fun s49 =>
      d_X3_askedOfAll_L4 R_r n1 s49 (c + 1)
def d_X3_askedOfAll (R_r : Nat → Nat → Int32) : Int32 :=
  lt (d_X3_askedOfAll_L4 R_r 4 (0 : Int32) 0) fun s54 =>
  s54
set_option maxHeartbeats 4000000 in
set_option maxRecDepth 100000 in
theorem c_X3_askedOfAll (l : Launch) (D : DD) (o_r : Nat) (R_r : Nat → Nat → Int32)  (res : Int32) (hres : res = d_X3_askedOfAll R_r) : Mt l D yX3_askedOfAll cX3_askedOfAll 4 (some .int) 2 44 0 0 [.ref o_r] (fun H => blk D ksRiver o_r R_r H) (fun v H => v = some (.int res)) fp0 := by
  refine mt_of (own := RX3) (ls := [.val (.ref o_r), .unset, .unset, .unset]) rfl (by decide +kernel) rfl ?_
  intro x H C hP
  have hb_r := hP
  refine r_iconst C dX3_askedOfAll_0 (0 : Int32) (by decide) ?_
  refine r_istore_n C dX3_askedOfAll_1 (ls' := [.val (.ref o_r), .val (.int (0 : Int32)), .unset, .unset]) rfl trivial rfl ?_
  refine r_iconst C dX3_askedOfAll_2 (0 : Int32) (by decide) ?_
  refine r_istore_n C dX3_askedOfAll_3 (ls' := [.val (.ref o_r), .val (.int (0 : Int32)), .val (.int (0 : Int32)), .unset]) rfl trivial rfl ?_
  have d_X3_askedOfAll_L4_w : ∀ (n1 : Nat) (sum : Int32) (c : Nat) (H7 : Heap) (z5 : Slot) (_ : slot1 z5), True → (c ≤ 3) → (3 - c < n1) → blk D ksRiver o_r R_r H7 → ∀ s3 : Int32, s3 = d_X3_askedOfAll_L4 R_r n1 sum c → (∀ (H' : Heap) (z8 : Slot) (_ : slot1 z8) (z9 : Slot) (_ : slot1 z9), True → blk D ksRiver o_r R_r H' → WG x fp0 (Fin x (fun v H => v = some (.int res)) fp0 0 0) H' 0 0 79 [.val (.ref o_r), .val (.int s3), z8, z9] []) → WG x fp0 (Fin x (fun v H => v = some (.int res)) fp0 0 0) H7 0 0 4 [.val (.ref o_r), .val (.int sum), .val (.int (nI c)), z5] [] := by
    intro n1
    induction n1 with
    | zero => intro sum c H7 z5 hz5 _ hc hm10; exact absurd hm10 (Nat.not_lt_zero _)
    | succ n1 ih2 =>
      intro sum c H7 z5 hz5 _ hc hm10 hb6 s3 hs3  kx4
      refine r_iload_n C dX3_askedOfAll_4 rfl ?_
      refine r_aload_n C dX3_askedOfAll_5 rfl ?_
      refine r_get C hb6 (k := 0) rfl rfl celO_3 fw_X3_19 rfl dX3_askedOfAll_6 ?_
      refine r_alen C hb6 (k := 2) rfl rfl 3 (Or.inr (Or.inr (Or.inr (Or.inl ⟨rfl, rfl⟩)))) dX3_askedOfAll_9 ?_
      refine r_ic_ge C dX3_askedOfAll_10 (fun c11 => ?_) (fun c11 => ?_)
      · skip
        have f12 : (3 ≤ c) := nf_leI (by omega) (by omega) rfl rfl c11
        have e13 : s3 = sum := by rw [hs3, d_X3_askedOfAll_L4]; try exact (if_pos c11).trans (rfl)
        rw [e13] at kx4
        exact kx4 _ (.val (.int (nI c))) rfl z5 hz5 trivial  hb6
      · skip
        have f14 : ¬ (3 ≤ c) := nf_leIn (by omega) (by omega) rfl rfl c11
        refine r_iconst C dX3_askedOfAll_13 (0 : Int32) (by decide) ?_
        refine r_istore_n C dX3_askedOfAll_14 (ls' := [.val (.ref o_r), .val (.int sum), .val (.int (nI c)), .val (.int (0 : Int32))]) rfl hz5 rfl ?_
        have d_X3_askedOfAll_L15_w : ∀ (n15 : Nat) (sm : Int32) (i : Nat) (H20 : Heap), True → (i ≤ 6) → (6 - i < n15) → blk D ksRiver o_r R_r H20 → ∀ s17 : Int32, s17 = d_X3_askedOfAll_L15 R_r c n15 sm i → (∀ (H' : Heap) (z21 : Slot) (_ : slot1 z21), True → blk D ksRiver o_r R_r H' → WG x fp0 (Fin x (fun v H => v = some (.int res)) fp0 0 0) H' 0 0 73 [.val (.ref o_r), .val (.int s17), .val (.int (nI c)), z21] []) → WG x fp0 (Fin x (fun v H => v = some (.int res)) fp0 0 0) H20 0 0 15 [.val (.ref o_r), .val (.int sm), .val (.int (nI c)), .val (.int (nI i))] [] := by
          intro n15
          induction n15 with
          | zero => intro sm i H20  _ hi hm22; exact absurd hm22 (Nat.not_lt_zero _)
          | succ n15 ih16 =>
            intro sm i H20  _ hi hm22 hb19 s17 hs17  kx18
            refine r_iload_n C dX3_askedOfAll_15 rfl ?_
            refine r_aload_n C dX3_askedOfAll_16 rfl ?_
            refine r_get C hb19 (k := 0) rfl rfl celO_3 fw_X3_11 rfl dX3_askedOfAll_17 ?_
            refine r_alen C hb19 (k := 1) rfl rfl 6 (Or.inr (Or.inr (Or.inl ⟨rfl, rfl⟩))) dX3_askedOfAll_20 ?_
            refine r_ic_ge C dX3_askedOfAll_21 (fun c23 => ?_) (fun c23 => ?_)
            · skip
              have f24 : (6 ≤ i) := nf_leI (by omega) (by omega) rfl rfl c23
              have e25 : s17 = sm := by rw [hs17, d_X3_askedOfAll_L15]; try exact (if_pos c23).trans (rfl)
              rw [e25] at kx18
              exact kx18 _ (.val (.int (nI i))) rfl trivial  hb19
            · skip
              have f26 : ¬ (6 ≤ i) := nf_leIn (by omega) (by omega) rfl rfl c23
              refine r_aload_n C dX3_askedOfAll_24 rfl ?_
              refine r_get C hb19 (k := 0) rfl rfl celO_3 fw_X3_19 rfl dX3_askedOfAll_25 ?_
              refine r_iload_n C dX3_askedOfAll_28 rfl ?_
              refine r_aaldC C hb19 (k := 2) rfl rfl (vp_in_n rfl (by omega) (by omega)) (j := c) (cl_n rfl (by omega)) dX3_askedOfAll_29 ?_
              obtain ⟨u27, hu27⟩ : ∃ r, r = d_X0_sails (shf R_r (9 + 2 * c)) := ⟨_, rfl⟩
              refine r_callV0 C cw_X3_92 (fun l => c_X0_sails l D ((o_r + 2) + 7 + 2 * c) (shf R_r (9 + 2 * c)) u27 hu27) (rest := []) hb19 (k := (9 + 2 * c)) (kRiver_9_2 _ (by omega)) (by omega) celO_0 (blk_sub hb19 (9 + 2 * c) 2 (sRiver_9_2_2 _ (by omega)) (by omega)) (fun q h => h.elim) rfl rfl rfl (Nat.le_of_ble_eq_true rfl) ⟨Nat.le_of_ble_eq_true rfl, Nat.le_of_ble_eq_true rfl, Nat.le_refl 0, Nat.le_refl 0⟩ dX3_askedOfAll_30 (fun v H28 hp29 hq30 => ?_)
              obtain ⟨rfl, hl31⟩ := hp29
              have hb32 := blk_kept hb19 (n := 15) rfl (fun q h1 h2 => hq30 q (fun h => h))
              dsimp only [psh]
              refine r_if_eq C dX3_askedOfAll_33 (fun c33 => ?_) (fun c33 => ?_)
              · skip
                refine r_iinc C dX3_askedOfAll_67 (nI (i + 1)) rfl (nI_inc i rfl) (ls' := [.val (.ref o_r), .val (.int sm), .val (.int (nI c)), .val (.int (nI (i + 1)))]) rfl ?_
                refine r_goto C dX3_askedOfAll_70 ?_
                have e34 : s17 = d_X3_askedOfAll_L15 R_r c n15 sm (i + 1) := by rw [hs17, d_X3_askedOfAll_L15]; try exact (if_neg c23).trans ((lt_eq hu27).trans ((if_pos c33).trans (rfl)))
                exact ih16 sm (i + 1) _  trivial (by omega) (by omega) hb32 s17 e34  kx18
              · skip
                refine r_aload_n C dX3_askedOfAll_36 rfl ?_
                refine r_get C hb32 (k := 0) rfl rfl celO_3 fw_X3_11 rfl dX3_askedOfAll_37 ?_
                refine r_iload_n C dX3_askedOfAll_40 rfl ?_
                refine r_aaldT C hb32 (k := 1) rfl rfl (vp_in_n rfl (by omega) (by omega)) (j := i) (cl_n rfl (by omega)) dX3_askedOfAll_41 ?_
                obtain ⟨u35, hu35⟩ : ∃ r, r = d_X5_stands (shf R_r (3 + i)) := ⟨_, rfl⟩
                refine r_callV0 C cw_X3_99 (fun l => c_X5_stands l D ((o_r + 1) + 2 + i) (shf R_r (3 + i)) u35 hu35) (rest := []) hb32 (k := (3 + i)) (kRiver_3_1 _ (by omega)) (by omega) celO_5 (blk_sub hb32 (3 + i) 1 (sRiver_3_1_1 _ (by omega)) (by omega)) (fun q h => h.elim) rfl rfl rfl (Nat.le_of_ble_eq_true rfl) ⟨Nat.le_of_ble_eq_true rfl, Nat.le_of_ble_eq_true rfl, Nat.le_refl 0, Nat.le_refl 0⟩ dX3_askedOfAll_42 (fun v H36 hp37 hq38 => ?_)
                obtain ⟨rfl, hl39⟩ := hp37
                have hb40 := blk_kept hb32 (n := 15) rfl (fun q h1 h2 => hq38 q (fun h => h))
                dsimp only [psh]
                refine r_if_eq C dX3_askedOfAll_45 (fun c41 => ?_) (fun c41 => ?_)
                · skip
                  refine r_iinc C dX3_askedOfAll_67 (nI (i + 1)) rfl (nI_inc i rfl) (ls' := [.val (.ref o_r), .val (.int sm), .val (.int (nI c)), .val (.int (nI (i + 1)))]) rfl ?_
                  refine r_goto C dX3_askedOfAll_70 ?_
                  have e42 : s17 = d_X3_askedOfAll_L15 R_r c n15 sm (i + 1) := by rw [hs17, d_X3_askedOfAll_L15]; try exact (if_neg c23).trans ((lt_eq hu27).trans ((if_neg c33).trans ((lt_eq hu35).trans ((if_pos c41).trans (rfl)))))
                  exact ih16 sm (i + 1) _  trivial (by omega) (by omega) hb40 s17 e42  kx18
                · skip
                  refine r_iload_n C dX3_askedOfAll_48 rfl ?_
                  refine r_aload_n C dX3_askedOfAll_49 rfl ?_
                  refine r_get C hb40 (k := 0) rfl rfl celO_3 fw_X3_19 rfl dX3_askedOfAll_50 ?_
                  refine r_iload_n C dX3_askedOfAll_53 rfl ?_
                  refine r_aaldC C hb40 (k := 2) rfl rfl (vp_in_n rfl (by omega) (by omega)) (j := c) (cl_n rfl (by omega)) dX3_askedOfAll_54 ?_
                  refine r_aload_n C dX3_askedOfAll_55 rfl ?_
                  refine r_get C hb40 (k := 0) rfl rfl celO_3 fw_X3_11 rfl dX3_askedOfAll_56 ?_
                  refine r_iload_n C dX3_askedOfAll_59 rfl ?_
                  refine r_aaldT C hb40 (k := 1) rfl rfl (vp_in_n rfl (by omega) (by omega)) (j := i) (cl_n rfl (by omega)) dX3_askedOfAll_60 ?_
                  refine r_iload_n C dX3_askedOfAll_61 rfl ?_
                  obtain ⟨u43, hu43⟩ : ∃ r, r = d_X0_wouldAsk (shf R_r (9 + 2 * c)) (shf R_r (3 + i)) (nI i) := ⟨_, rfl⟩
                  refine r_callV0 C cw_X3_116 (fun l => c_X0_wouldAsk l D ((o_r + 2) + 7 + 2 * c) ((o_r + 1) + 2 + i) (shf R_r (9 + 2 * c)) (shf R_r (3 + i)) (nI i) u43 hu43) (rest := [.int sm]) hb40 (k := (9 + 2 * c)) (kRiver_9_2 _ (by omega)) (by omega) celO_0 ⟨(blk_sub hb40 (9 + 2 * c) 2 (sRiver_9_2_2 _ (by omega)) (by omega)), (blk_sub hb40 (3 + i) 1 (sRiver_3_1_1 _ (by omega)) (by omega))⟩ (fun q h => h.elim) rfl rfl rfl (Nat.le_of_ble_eq_true rfl) ⟨Nat.le_of_ble_eq_true rfl, Nat.le_of_ble_eq_true rfl, Nat.le_refl 0, Nat.le_refl 0⟩ dX3_askedOfAll_62 (fun v H44 hp45 hq46 => ?_)
                  subst hp45
                  have hb47 := blk_kept hb40 (n := 15) rfl (fun q h1 h2 => hq46 q (fun h => h))
                  dsimp only [psh]
                  refine r_iadd C dX3_askedOfAll_65 ?_
                  refine r_istore_n C dX3_askedOfAll_66 (ls' := [.val (.ref o_r), .val (.int (sm + u43)), .val (.int (nI c)), .val (.int (nI i))]) rfl rfl rfl ?_
                  refine r_iinc C dX3_askedOfAll_67 (nI (i + 1)) rfl (nI_inc i rfl) (ls' := [.val (.ref o_r), .val (.int (sm + u43)), .val (.int (nI c)), .val (.int (nI (i + 1)))]) rfl ?_
                  refine r_goto C dX3_askedOfAll_70 ?_
                  have e48 : s17 = d_X3_askedOfAll_L15 R_r c n15 (sm + u43) (i + 1) := by rw [hs17, d_X3_askedOfAll_L15]; try exact (if_neg c23).trans ((lt_eq hu27).trans ((if_neg c33).trans ((lt_eq hu35).trans ((if_neg c41).trans ((lt_eq hu43).trans (rfl))))))
                  exact ih16 (sm + u43) (i + 1) _  trivial (by omega) (by omega) hb47 s17 e48  kx18
        obtain ⟨s49, hs49⟩ : ∃ r, r = d_X3_askedOfAll_L15 R_r c 7 sum 0 := ⟨_, rfl⟩
        refine d_X3_askedOfAll_L15_w 7 sum 0 _  trivial (by omega) (by omega) hb6 s49 hs49  (fun H51 z21 hz21 e52  hb50 => ?_)
        refine r_iinc C dX3_askedOfAll_73 (nI (c + 1)) rfl (nI_inc c rfl) (ls' := [.val (.ref o_r), .val (.int s49), .val (.int (nI (c + 1))), z21]) rfl ?_
        refine r_goto C dX3_askedOfAll_76 ?_
        have e53 : s3 = d_X3_askedOfAll_L4 R_r n1 s49 (c + 1) := by rw [hs3, d_X3_askedOfAll_L4]; try exact (if_neg c11).trans ((lt_eq hs49).trans (rfl))
        exact ih2 s49 (c + 1) _ z21 hz21 trivial (by omega) (by omega) hb50 s3 e53  kx4
  obtain ⟨s54, hs54⟩ : ∃ r, r = d_X3_askedOfAll_L4 R_r 4 (0 : Int32) 0 := ⟨_, rfl⟩
  refine d_X3_askedOfAll_L4_w 4 (0 : Int32) 0 _ .unset trivial trivial (by omega) (by omega) hb_r s54 hs54  (fun H56 z8 hz8 z9 hz9 e57  hb55 => ?_)
  refine r_iload_n C dX3_askedOfAll_79 rfl ?_
  refine r_iret C dX3_askedOfAll_80 ?_
  have er : res = s54 := by rw [hres, d_X3_askedOfAll]; try exact (lt_eq hs54).trans (rfl)
  rw [er]

def d_X3_sendsHome (R_t : Nat → Nat → Int32) (R_c : Nat → Nat → Int32) (i : Int32) : Int32 × (Nat → Nat → Int32) × (Nat → Nat → Int32) :=
  lt (d_X0_wouldAsk R_c R_t i) fun u1 =>
  if (R_t 0 6) = 0 then
    if (R_t 0 3) < u1 then
      if (R_t 0 6) = (2 : Int32) then
        if (R_t 0 3) < (u1 / (3 : Int32)) then
          lt (d_X5_menHeldOff R_t) fun u70 =>
          if (R_c 0 2) ≤ u70 then
            ((0 : Int32), R_t, (pt R_c 0 2 (imax (1 : Int32) ((R_c 0 2) - (2 : Int32)))))
          else
            lt (d_X0_burn R_c R_t i) fun u81 =>
            ((1 : Int32), u81.2, u81.1)
        else
          lt (d_X0_takePay R_c R_t i (u1 / (3 : Int32))) fun u87 =>
          ((0 : Int32), u87.2, u87.1)
      else
        lt (d_X5_menHeldOff R_t) fun u52 =>
        if (R_c 0 2) ≤ u52 then
          ((0 : Int32), R_t, (pt R_c 0 2 (imax (1 : Int32) ((R_c 0 2) - (2 : Int32)))))
        else
          lt (d_X0_burn R_c R_t i) fun u63 =>
          ((1 : Int32), u63.2, u63.1)
    else
      lt (d_X0_takePay R_c R_t i u1) fun u93 =>
      ((1 : Int32), u93.2, u93.1)
  else
    if (R_t 0 6) = (2 : Int32) then
      if (R_t 0 3) < (u1 / (3 : Int32)) then
        lt (d_X5_menHeldOff R_t) fun u27 =>
        if (R_c 0 2) ≤ u27 then
          ((0 : Int32), R_t, (pt R_c 0 2 (imax (1 : Int32) ((R_c 0 2) - (2 : Int32)))))
        else
          lt (d_X0_burn R_c R_t i) fun u38 =>
          ((1 : Int32), u38.2, u38.1)
      else
        lt (d_X0_takePay R_c R_t i (u1 / (3 : Int32))) fun u44 =>
        ((0 : Int32), u44.2, u44.1)
    else
      lt (d_X5_menHeldOff R_t) fun u9 =>
      if (R_c 0 2) ≤ u9 then
        ((0 : Int32), R_t, (pt R_c 0 2 (imax (1 : Int32) ((R_c 0 2) - (2 : Int32)))))
      else
        lt (d_X0_burn R_c R_t i) fun u20 =>
        ((1 : Int32), u20.2, u20.1)
set_option maxHeartbeats 4000000 in
set_option maxRecDepth 100000 in
theorem c_X3_sendsHome (l : Launch) (D : DD) (o_t o_c : Nat) (R_t : Nat → Nat → Int32) (R_c : Nat → Nat → Int32) (i : Int32) (hd : o_t < o_c ∨ o_c + 2 ≤ o_t) (res : Int32 × (Nat → Nat → Int32) × (Nat → Nat → Int32)) (hres : res = d_X3_sendsHome R_t R_c i) : Mt l D yX3_sendsHome cX3_sendsHome 4 (some .boolean) 2 45 0 0 [.ref o_t, .int i, .ref o_c] (fun H => blk D ksTown o_t R_t H ∧ blk D ksCrew o_c R_c H) (fun v H => v = some (.int res.1) ∧ bl res.1 ∧ blk D ksTown o_t res.2.1 H ∧ blk D ksCrew o_c res.2.2 H) (fp2 o_t 1 o_c 2) := by
  refine mt_of (own := RX3) (ls := [.val (.ref o_t), .val (.int i), .val (.ref o_c), .unset]) rfl (by decide +kernel) rfl ?_
  intro x H C hP
  obtain ⟨hb_t, hb_c⟩ := hP
  refine r_aload_n C dX3_sendsHome_0 rfl ?_
  refine r_aload_n C dX3_sendsHome_1 rfl ?_
  refine r_iload_n C dX3_sendsHome_2 rfl ?_
  obtain ⟨u1, hu1⟩ : ∃ r, r = d_X0_wouldAsk R_c R_t i := ⟨_, rfl⟩
  refine r_callV0 C cw_X3_116 (fun l => c_X0_wouldAsk l D o_c o_t R_c R_t i u1 hu1) (rest := []) hb_c (k := 0) rfl rfl celO_0 ⟨hb_c, hb_t⟩ (fun q h => h.elim) rfl rfl rfl (Nat.le_of_ble_eq_true rfl) ⟨Nat.le_of_ble_eq_true rfl, Nat.le_of_ble_eq_true rfl, Nat.le_refl 0, Nat.le_refl 0⟩ dX3_sendsHome_3 (fun v H2 hp3 hq4 => ?_)
  subst hp3
  have hb5 := blk_kept hb_t (n := 1) rfl (fun q h1 h2 => hq4 q (fun h => h))
  have hb6 := blk_kept hb_c (n := 2) rfl (fun q h1 h2 => hq4 q (fun h => h))
  dsimp only [psh]
  refine r_istore_n C dX3_sendsHome_6 (ls' := [.val (.ref o_t), .val (.int i), .val (.ref o_c), .val (.int u1)]) rfl trivial rfl ?_
  refine r_aload_n C dX3_sendsHome_7 rfl ?_
  refine r_get C hb5 (k := 0) rfl rfl celO_5 fw_X3_67 (z := .int (R_t 0 6)) rfl dX3_sendsHome_8 ?_
  refine r_if_ne C dX3_sendsHome_11 (fun c7 => ?_) (fun c7 => ?_)
  · skip
    refine r_aload_n C dX3_sendsHome_31 rfl ?_
    refine r_get C hb5 (k := 0) rfl rfl celO_5 fw_X3_67 (z := .int (R_t 0 6)) rfl dX3_sendsHome_32 ?_
    refine r_iconst C dX3_sendsHome_35 (2 : Int32) (by decide) ?_
    refine r_ic_ne C dX3_sendsHome_36 (fun c8 => ?_) (fun c8 => ?_)
    · skip
      refine r_aload_n C dX3_sendsHome_60 rfl ?_
      refine r_get C hb6 (k := 0) rfl rfl celO_0 fw_X3_79 (z := .int (R_c 0 2)) rfl dX3_sendsHome_61 ?_
      refine r_aload_n C dX3_sendsHome_64 rfl ?_
      obtain ⟨u9, hu9⟩ : ∃ r, r = d_X5_menHeldOff R_t := ⟨_, rfl⟩
      refine r_callV0 C cw_X3_124 (fun l => c_X5_menHeldOff l D o_t R_t u9 hu9) (rest := [.int (R_c 0 2)]) hb5 (k := 0) rfl rfl celO_5 hb5 (fun q h => h.elim) rfl rfl rfl (Nat.le_of_ble_eq_true rfl) ⟨Nat.le_of_ble_eq_true rfl, Nat.le_of_ble_eq_true rfl, Nat.le_refl 0, Nat.le_refl 0⟩ dX3_sendsHome_65 (fun v H10 hp11 hq12 => ?_)
      subst hp11
      have hb13 := blk_kept hb5 (n := 1) rfl (fun q h1 h2 => hq12 q (fun h => h))
      have hb14 := blk_kept hb6 (n := 2) rfl (fun q h1 h2 => hq12 q (fun h => h))
      dsimp only [psh]
      refine r_ic_le C dX3_sendsHome_68 (fun c15 => ?_) (fun c15 => ?_)
      · skip
        refine r_aload_n C dX3_sendsHome_79 rfl ?_
        refine r_iconst C dX3_sendsHome_80 (1 : Int32) (by decide) ?_
        refine r_aload_n C dX3_sendsHome_81 rfl ?_
        refine r_get C hb14 (k := 0) rfl rfl celO_0 fw_X3_79 (z := .int (R_c 0 2)) rfl dX3_sendsHome_82 ?_
        refine r_iconst C dX3_sendsHome_85 (2 : Int32) (by decide) ?_
        refine r_isub C dX3_sendsHome_86 ?_
        refine r_mmax C mw_X3_131 rfl ⟨Nat.le_of_ble_eq_true rfl, Nat.le_of_ble_eq_true rfl, Nat.le_refl 0, Nat.le_refl 0⟩ dX3_sendsHome_87 ?_
        refine r_put C hb14 (k := 0) rfl rfl (by unfold fp2; omega) fw_X3_79 fp_0_2 (Or.inr rfl) dX3_sendsHome_90 (fun H16 hb18 hq17 => ?_)
        have hb19 := blk_kept hb13 (n := 1) rfl (fun q h1 h2 => hq17 q (by omega))
        refine r_iconst C dX3_sendsHome_93 (0 : Int32) (by decide) ?_
        refine r_zret C dX3_sendsHome_94 (Or.inl rfl) ?_
        have er : res = ((0 : Int32), R_t, (pt R_c 0 2 (imax (1 : Int32) ((R_c 0 2) - (2 : Int32))))) := by rw [hres, d_X3_sendsHome]; try exact (lt_eq hu1).trans ((if_neg c7).trans ((if_neg c8).trans ((lt_eq hu9).trans ((if_pos c15).trans (rfl)))))
        rw [er]
        exact ⟨rfl, (Or.inl rfl), hb19, hb18⟩
      · skip
        refine r_aload_n C dX3_sendsHome_71 rfl ?_
        refine r_aload_n C dX3_sendsHome_72 rfl ?_
        refine r_iload_n C dX3_sendsHome_73 rfl ?_
        obtain ⟨u20, hu20⟩ : ∃ r, r = d_X0_burn R_c R_t i := ⟨_, rfl⟩
        refine r_callV0 C cw_X3_127 (fun l => c_X0_burn l D o_c o_t R_c R_t i (by omega) u20 hu20) (rest := []) hb14 (k := 0) rfl rfl celO_0 ⟨hb14, hb13⟩ (fun q h => by unfold fp2 at h; unfold fp2; omega) rfl rfl rfl (Nat.le_of_ble_eq_true rfl) ⟨Nat.le_of_ble_eq_true rfl, Nat.le_of_ble_eq_true rfl, Nat.le_refl 0, Nat.le_refl 0⟩ dX3_sendsHome_74 (fun v H21 hp22 hq23 => ?_)
        obtain ⟨rfl, hn24, hn25⟩ := hp22
        dsimp only [psh]
        refine r_iconst C dX3_sendsHome_77 (1 : Int32) (by decide) ?_
        refine r_zret C dX3_sendsHome_78 (Or.inr rfl) ?_
        have er : res = ((1 : Int32), u20.2, u20.1) := by rw [hres, d_X3_sendsHome]; try exact (lt_eq hu1).trans ((if_neg c7).trans ((if_neg c8).trans ((lt_eq hu9).trans ((if_neg c15).trans ((lt_eq hu20).trans (rfl))))))
        rw [er]
        exact ⟨rfl, (Or.inr rfl), hn25, hn24⟩
    · skip
      refine r_aload_n C dX3_sendsHome_39 rfl ?_
      refine r_get C hb5 (k := 0) rfl rfl celO_5 fw_X3_58 (z := .int (R_t 0 3)) rfl dX3_sendsHome_40 ?_
      refine r_iload_n C dX3_sendsHome_43 rfl ?_
      refine r_iconst C dX3_sendsHome_44 (3 : Int32) (by decide) ?_
      refine r_idiv C dX3_sendsHome_45 (by decide) ?_
      refine r_ic_lt C dX3_sendsHome_46 (fun c26 => ?_) (fun c26 => ?_)
      · skip
        refine r_aload_n C dX3_sendsHome_60 rfl ?_
        refine r_get C hb6 (k := 0) rfl rfl celO_0 fw_X3_79 (z := .int (R_c 0 2)) rfl dX3_sendsHome_61 ?_
        refine r_aload_n C dX3_sendsHome_64 rfl ?_
        obtain ⟨u27, hu27⟩ : ∃ r, r = d_X5_menHeldOff R_t := ⟨_, rfl⟩
        refine r_callV0 C cw_X3_124 (fun l => c_X5_menHeldOff l D o_t R_t u27 hu27) (rest := [.int (R_c 0 2)]) hb5 (k := 0) rfl rfl celO_5 hb5 (fun q h => h.elim) rfl rfl rfl (Nat.le_of_ble_eq_true rfl) ⟨Nat.le_of_ble_eq_true rfl, Nat.le_of_ble_eq_true rfl, Nat.le_refl 0, Nat.le_refl 0⟩ dX3_sendsHome_65 (fun v H28 hp29 hq30 => ?_)
        subst hp29
        have hb31 := blk_kept hb5 (n := 1) rfl (fun q h1 h2 => hq30 q (fun h => h))
        have hb32 := blk_kept hb6 (n := 2) rfl (fun q h1 h2 => hq30 q (fun h => h))
        dsimp only [psh]
        refine r_ic_le C dX3_sendsHome_68 (fun c33 => ?_) (fun c33 => ?_)
        · skip
          refine r_aload_n C dX3_sendsHome_79 rfl ?_
          refine r_iconst C dX3_sendsHome_80 (1 : Int32) (by decide) ?_
          refine r_aload_n C dX3_sendsHome_81 rfl ?_
          refine r_get C hb32 (k := 0) rfl rfl celO_0 fw_X3_79 (z := .int (R_c 0 2)) rfl dX3_sendsHome_82 ?_
          refine r_iconst C dX3_sendsHome_85 (2 : Int32) (by decide) ?_
          refine r_isub C dX3_sendsHome_86 ?_
          refine r_mmax C mw_X3_131 rfl ⟨Nat.le_of_ble_eq_true rfl, Nat.le_of_ble_eq_true rfl, Nat.le_refl 0, Nat.le_refl 0⟩ dX3_sendsHome_87 ?_
          refine r_put C hb32 (k := 0) rfl rfl (by unfold fp2; omega) fw_X3_79 fp_0_2 (Or.inr rfl) dX3_sendsHome_90 (fun H34 hb36 hq35 => ?_)
          have hb37 := blk_kept hb31 (n := 1) rfl (fun q h1 h2 => hq35 q (by omega))
          refine r_iconst C dX3_sendsHome_93 (0 : Int32) (by decide) ?_
          refine r_zret C dX3_sendsHome_94 (Or.inl rfl) ?_
          have er : res = ((0 : Int32), R_t, (pt R_c 0 2 (imax (1 : Int32) ((R_c 0 2) - (2 : Int32))))) := by rw [hres, d_X3_sendsHome]; try exact (lt_eq hu1).trans ((if_neg c7).trans ((if_pos c8).trans ((if_pos c26).trans ((lt_eq hu27).trans ((if_pos c33).trans (rfl))))))
          rw [er]
          exact ⟨rfl, (Or.inl rfl), hb37, hb36⟩
        · skip
          refine r_aload_n C dX3_sendsHome_71 rfl ?_
          refine r_aload_n C dX3_sendsHome_72 rfl ?_
          refine r_iload_n C dX3_sendsHome_73 rfl ?_
          obtain ⟨u38, hu38⟩ : ∃ r, r = d_X0_burn R_c R_t i := ⟨_, rfl⟩
          refine r_callV0 C cw_X3_127 (fun l => c_X0_burn l D o_c o_t R_c R_t i (by omega) u38 hu38) (rest := []) hb32 (k := 0) rfl rfl celO_0 ⟨hb32, hb31⟩ (fun q h => by unfold fp2 at h; unfold fp2; omega) rfl rfl rfl (Nat.le_of_ble_eq_true rfl) ⟨Nat.le_of_ble_eq_true rfl, Nat.le_of_ble_eq_true rfl, Nat.le_refl 0, Nat.le_refl 0⟩ dX3_sendsHome_74 (fun v H39 hp40 hq41 => ?_)
          obtain ⟨rfl, hn42, hn43⟩ := hp40
          dsimp only [psh]
          refine r_iconst C dX3_sendsHome_77 (1 : Int32) (by decide) ?_
          refine r_zret C dX3_sendsHome_78 (Or.inr rfl) ?_
          have er : res = ((1 : Int32), u38.2, u38.1) := by rw [hres, d_X3_sendsHome]; try exact (lt_eq hu1).trans ((if_neg c7).trans ((if_pos c8).trans ((if_pos c26).trans ((lt_eq hu27).trans ((if_neg c33).trans ((lt_eq hu38).trans (rfl)))))))
          rw [er]
          exact ⟨rfl, (Or.inr rfl), hn43, hn42⟩
      · skip
        refine r_aload_n C dX3_sendsHome_49 rfl ?_
        refine r_aload_n C dX3_sendsHome_50 rfl ?_
        refine r_iload_n C dX3_sendsHome_51 rfl ?_
        refine r_iload_n C dX3_sendsHome_52 rfl ?_
        refine r_iconst C dX3_sendsHome_53 (3 : Int32) (by decide) ?_
        refine r_idiv C dX3_sendsHome_54 (by decide) ?_
        obtain ⟨u44, hu44⟩ : ∃ r, r = d_X0_takePay R_c R_t i (u1 / (3 : Int32)) := ⟨_, rfl⟩
        refine r_callV0 C cw_X3_120 (fun l => c_X0_takePay l D o_c o_t R_c R_t i (u1 / (3 : Int32)) (by omega) u44 hu44) (rest := []) hb6 (k := 0) rfl rfl celO_0 ⟨hb6, hb5⟩ (fun q h => by unfold fp2 at h; unfold fp2; omega) rfl rfl rfl (Nat.le_of_ble_eq_true rfl) ⟨Nat.le_of_ble_eq_true rfl, Nat.le_of_ble_eq_true rfl, Nat.le_refl 0, Nat.le_refl 0⟩ dX3_sendsHome_55 (fun v H45 hp46 hq47 => ?_)
        obtain ⟨rfl, hn48, hn49⟩ := hp46
        dsimp only [psh]
        refine r_iconst C dX3_sendsHome_58 (0 : Int32) (by decide) ?_
        refine r_zret C dX3_sendsHome_59 (Or.inl rfl) ?_
        have er : res = ((0 : Int32), u44.2, u44.1) := by rw [hres, d_X3_sendsHome]; try exact (lt_eq hu1).trans ((if_neg c7).trans ((if_pos c8).trans ((if_neg c26).trans ((lt_eq hu44).trans (rfl)))))
        rw [er]
        exact ⟨rfl, (Or.inl rfl), hn49, hn48⟩
  · skip
    refine r_aload_n C dX3_sendsHome_14 rfl ?_
    refine r_get C hb5 (k := 0) rfl rfl celO_5 fw_X3_58 (z := .int (R_t 0 3)) rfl dX3_sendsHome_15 ?_
    refine r_iload_n C dX3_sendsHome_18 rfl ?_
    refine r_ic_lt C dX3_sendsHome_19 (fun c50 => ?_) (fun c50 => ?_)
    · skip
      refine r_aload_n C dX3_sendsHome_31 rfl ?_
      refine r_get C hb5 (k := 0) rfl rfl celO_5 fw_X3_67 (z := .int (R_t 0 6)) rfl dX3_sendsHome_32 ?_
      refine r_iconst C dX3_sendsHome_35 (2 : Int32) (by decide) ?_
      refine r_ic_ne C dX3_sendsHome_36 (fun c51 => ?_) (fun c51 => ?_)
      · skip
        refine r_aload_n C dX3_sendsHome_60 rfl ?_
        refine r_get C hb6 (k := 0) rfl rfl celO_0 fw_X3_79 (z := .int (R_c 0 2)) rfl dX3_sendsHome_61 ?_
        refine r_aload_n C dX3_sendsHome_64 rfl ?_
        obtain ⟨u52, hu52⟩ : ∃ r, r = d_X5_menHeldOff R_t := ⟨_, rfl⟩
        refine r_callV0 C cw_X3_124 (fun l => c_X5_menHeldOff l D o_t R_t u52 hu52) (rest := [.int (R_c 0 2)]) hb5 (k := 0) rfl rfl celO_5 hb5 (fun q h => h.elim) rfl rfl rfl (Nat.le_of_ble_eq_true rfl) ⟨Nat.le_of_ble_eq_true rfl, Nat.le_of_ble_eq_true rfl, Nat.le_refl 0, Nat.le_refl 0⟩ dX3_sendsHome_65 (fun v H53 hp54 hq55 => ?_)
        subst hp54
        have hb56 := blk_kept hb5 (n := 1) rfl (fun q h1 h2 => hq55 q (fun h => h))
        have hb57 := blk_kept hb6 (n := 2) rfl (fun q h1 h2 => hq55 q (fun h => h))
        dsimp only [psh]
        refine r_ic_le C dX3_sendsHome_68 (fun c58 => ?_) (fun c58 => ?_)
        · skip
          refine r_aload_n C dX3_sendsHome_79 rfl ?_
          refine r_iconst C dX3_sendsHome_80 (1 : Int32) (by decide) ?_
          refine r_aload_n C dX3_sendsHome_81 rfl ?_
          refine r_get C hb57 (k := 0) rfl rfl celO_0 fw_X3_79 (z := .int (R_c 0 2)) rfl dX3_sendsHome_82 ?_
          refine r_iconst C dX3_sendsHome_85 (2 : Int32) (by decide) ?_
          refine r_isub C dX3_sendsHome_86 ?_
          refine r_mmax C mw_X3_131 rfl ⟨Nat.le_of_ble_eq_true rfl, Nat.le_of_ble_eq_true rfl, Nat.le_refl 0, Nat.le_refl 0⟩ dX3_sendsHome_87 ?_
          refine r_put C hb57 (k := 0) rfl rfl (by unfold fp2; omega) fw_X3_79 fp_0_2 (Or.inr rfl) dX3_sendsHome_90 (fun H59 hb61 hq60 => ?_)
          have hb62 := blk_kept hb56 (n := 1) rfl (fun q h1 h2 => hq60 q (by omega))
          refine r_iconst C dX3_sendsHome_93 (0 : Int32) (by decide) ?_
          refine r_zret C dX3_sendsHome_94 (Or.inl rfl) ?_
          have er : res = ((0 : Int32), R_t, (pt R_c 0 2 (imax (1 : Int32) ((R_c 0 2) - (2 : Int32))))) := by rw [hres, d_X3_sendsHome]; try exact (lt_eq hu1).trans ((if_pos c7).trans ((if_pos c50).trans ((if_neg c51).trans ((lt_eq hu52).trans ((if_pos c58).trans (rfl))))))
          rw [er]
          exact ⟨rfl, (Or.inl rfl), hb62, hb61⟩
        · skip
          refine r_aload_n C dX3_sendsHome_71 rfl ?_
          refine r_aload_n C dX3_sendsHome_72 rfl ?_
          refine r_iload_n C dX3_sendsHome_73 rfl ?_
          obtain ⟨u63, hu63⟩ : ∃ r, r = d_X0_burn R_c R_t i := ⟨_, rfl⟩
          refine r_callV0 C cw_X3_127 (fun l => c_X0_burn l D o_c o_t R_c R_t i (by omega) u63 hu63) (rest := []) hb57 (k := 0) rfl rfl celO_0 ⟨hb57, hb56⟩ (fun q h => by unfold fp2 at h; unfold fp2; omega) rfl rfl rfl (Nat.le_of_ble_eq_true rfl) ⟨Nat.le_of_ble_eq_true rfl, Nat.le_of_ble_eq_true rfl, Nat.le_refl 0, Nat.le_refl 0⟩ dX3_sendsHome_74 (fun v H64 hp65 hq66 => ?_)
          obtain ⟨rfl, hn67, hn68⟩ := hp65
          dsimp only [psh]
          refine r_iconst C dX3_sendsHome_77 (1 : Int32) (by decide) ?_
          refine r_zret C dX3_sendsHome_78 (Or.inr rfl) ?_
          have er : res = ((1 : Int32), u63.2, u63.1) := by rw [hres, d_X3_sendsHome]; try exact (lt_eq hu1).trans ((if_pos c7).trans ((if_pos c50).trans ((if_neg c51).trans ((lt_eq hu52).trans ((if_neg c58).trans ((lt_eq hu63).trans (rfl)))))))
          rw [er]
          exact ⟨rfl, (Or.inr rfl), hn68, hn67⟩
      · skip
        refine r_aload_n C dX3_sendsHome_39 rfl ?_
        refine r_get C hb5 (k := 0) rfl rfl celO_5 fw_X3_58 (z := .int (R_t 0 3)) rfl dX3_sendsHome_40 ?_
        refine r_iload_n C dX3_sendsHome_43 rfl ?_
        refine r_iconst C dX3_sendsHome_44 (3 : Int32) (by decide) ?_
        refine r_idiv C dX3_sendsHome_45 (by decide) ?_
        refine r_ic_lt C dX3_sendsHome_46 (fun c69 => ?_) (fun c69 => ?_)
        · skip
          refine r_aload_n C dX3_sendsHome_60 rfl ?_
          refine r_get C hb6 (k := 0) rfl rfl celO_0 fw_X3_79 (z := .int (R_c 0 2)) rfl dX3_sendsHome_61 ?_
          refine r_aload_n C dX3_sendsHome_64 rfl ?_
          obtain ⟨u70, hu70⟩ : ∃ r, r = d_X5_menHeldOff R_t := ⟨_, rfl⟩
          refine r_callV0 C cw_X3_124 (fun l => c_X5_menHeldOff l D o_t R_t u70 hu70) (rest := [.int (R_c 0 2)]) hb5 (k := 0) rfl rfl celO_5 hb5 (fun q h => h.elim) rfl rfl rfl (Nat.le_of_ble_eq_true rfl) ⟨Nat.le_of_ble_eq_true rfl, Nat.le_of_ble_eq_true rfl, Nat.le_refl 0, Nat.le_refl 0⟩ dX3_sendsHome_65 (fun v H71 hp72 hq73 => ?_)
          subst hp72
          have hb74 := blk_kept hb5 (n := 1) rfl (fun q h1 h2 => hq73 q (fun h => h))
          have hb75 := blk_kept hb6 (n := 2) rfl (fun q h1 h2 => hq73 q (fun h => h))
          dsimp only [psh]
          refine r_ic_le C dX3_sendsHome_68 (fun c76 => ?_) (fun c76 => ?_)
          · skip
            refine r_aload_n C dX3_sendsHome_79 rfl ?_
            refine r_iconst C dX3_sendsHome_80 (1 : Int32) (by decide) ?_
            refine r_aload_n C dX3_sendsHome_81 rfl ?_
            refine r_get C hb75 (k := 0) rfl rfl celO_0 fw_X3_79 (z := .int (R_c 0 2)) rfl dX3_sendsHome_82 ?_
            refine r_iconst C dX3_sendsHome_85 (2 : Int32) (by decide) ?_
            refine r_isub C dX3_sendsHome_86 ?_
            refine r_mmax C mw_X3_131 rfl ⟨Nat.le_of_ble_eq_true rfl, Nat.le_of_ble_eq_true rfl, Nat.le_refl 0, Nat.le_refl 0⟩ dX3_sendsHome_87 ?_
            refine r_put C hb75 (k := 0) rfl rfl (by unfold fp2; omega) fw_X3_79 fp_0_2 (Or.inr rfl) dX3_sendsHome_90 (fun H77 hb79 hq78 => ?_)
            have hb80 := blk_kept hb74 (n := 1) rfl (fun q h1 h2 => hq78 q (by omega))
            refine r_iconst C dX3_sendsHome_93 (0 : Int32) (by decide) ?_
            refine r_zret C dX3_sendsHome_94 (Or.inl rfl) ?_
            have er : res = ((0 : Int32), R_t, (pt R_c 0 2 (imax (1 : Int32) ((R_c 0 2) - (2 : Int32))))) := by rw [hres, d_X3_sendsHome]; try exact (lt_eq hu1).trans ((if_pos c7).trans ((if_pos c50).trans ((if_pos c51).trans ((if_pos c69).trans ((lt_eq hu70).trans ((if_pos c76).trans (rfl)))))))
            rw [er]
            exact ⟨rfl, (Or.inl rfl), hb80, hb79⟩
          · skip
            refine r_aload_n C dX3_sendsHome_71 rfl ?_
            refine r_aload_n C dX3_sendsHome_72 rfl ?_
            refine r_iload_n C dX3_sendsHome_73 rfl ?_
            obtain ⟨u81, hu81⟩ : ∃ r, r = d_X0_burn R_c R_t i := ⟨_, rfl⟩
            refine r_callV0 C cw_X3_127 (fun l => c_X0_burn l D o_c o_t R_c R_t i (by omega) u81 hu81) (rest := []) hb75 (k := 0) rfl rfl celO_0 ⟨hb75, hb74⟩ (fun q h => by unfold fp2 at h; unfold fp2; omega) rfl rfl rfl (Nat.le_of_ble_eq_true rfl) ⟨Nat.le_of_ble_eq_true rfl, Nat.le_of_ble_eq_true rfl, Nat.le_refl 0, Nat.le_refl 0⟩ dX3_sendsHome_74 (fun v H82 hp83 hq84 => ?_)
            obtain ⟨rfl, hn85, hn86⟩ := hp83
            dsimp only [psh]
            refine r_iconst C dX3_sendsHome_77 (1 : Int32) (by decide) ?_
            refine r_zret C dX3_sendsHome_78 (Or.inr rfl) ?_
            have er : res = ((1 : Int32), u81.2, u81.1) := by rw [hres, d_X3_sendsHome]; try exact (lt_eq hu1).trans ((if_pos c7).trans ((if_pos c50).trans ((if_pos c51).trans ((if_pos c69).trans ((lt_eq hu70).trans ((if_neg c76).trans ((lt_eq hu81).trans (rfl))))))))
            rw [er]
            exact ⟨rfl, (Or.inr rfl), hn86, hn85⟩
        · skip
          refine r_aload_n C dX3_sendsHome_49 rfl ?_
          refine r_aload_n C dX3_sendsHome_50 rfl ?_
          refine r_iload_n C dX3_sendsHome_51 rfl ?_
          refine r_iload_n C dX3_sendsHome_52 rfl ?_
          refine r_iconst C dX3_sendsHome_53 (3 : Int32) (by decide) ?_
          refine r_idiv C dX3_sendsHome_54 (by decide) ?_
          obtain ⟨u87, hu87⟩ : ∃ r, r = d_X0_takePay R_c R_t i (u1 / (3 : Int32)) := ⟨_, rfl⟩
          refine r_callV0 C cw_X3_120 (fun l => c_X0_takePay l D o_c o_t R_c R_t i (u1 / (3 : Int32)) (by omega) u87 hu87) (rest := []) hb6 (k := 0) rfl rfl celO_0 ⟨hb6, hb5⟩ (fun q h => by unfold fp2 at h; unfold fp2; omega) rfl rfl rfl (Nat.le_of_ble_eq_true rfl) ⟨Nat.le_of_ble_eq_true rfl, Nat.le_of_ble_eq_true rfl, Nat.le_refl 0, Nat.le_refl 0⟩ dX3_sendsHome_55 (fun v H88 hp89 hq90 => ?_)
          obtain ⟨rfl, hn91, hn92⟩ := hp89
          dsimp only [psh]
          refine r_iconst C dX3_sendsHome_58 (0 : Int32) (by decide) ?_
          refine r_zret C dX3_sendsHome_59 (Or.inl rfl) ?_
          have er : res = ((0 : Int32), u87.2, u87.1) := by rw [hres, d_X3_sendsHome]; try exact (lt_eq hu1).trans ((if_pos c7).trans ((if_pos c50).trans ((if_pos c51).trans ((if_neg c69).trans ((lt_eq hu87).trans (rfl))))))
          rw [er]
          exact ⟨rfl, (Or.inl rfl), hn92, hn91⟩
    · skip
      refine r_aload_n C dX3_sendsHome_22 rfl ?_
      refine r_aload_n C dX3_sendsHome_23 rfl ?_
      refine r_iload_n C dX3_sendsHome_24 rfl ?_
      refine r_iload_n C dX3_sendsHome_25 rfl ?_
      obtain ⟨u93, hu93⟩ : ∃ r, r = d_X0_takePay R_c R_t i u1 := ⟨_, rfl⟩
      refine r_callV0 C cw_X3_120 (fun l => c_X0_takePay l D o_c o_t R_c R_t i u1 (by omega) u93 hu93) (rest := []) hb6 (k := 0) rfl rfl celO_0 ⟨hb6, hb5⟩ (fun q h => by unfold fp2 at h; unfold fp2; omega) rfl rfl rfl (Nat.le_of_ble_eq_true rfl) ⟨Nat.le_of_ble_eq_true rfl, Nat.le_of_ble_eq_true rfl, Nat.le_refl 0, Nat.le_refl 0⟩ dX3_sendsHome_26 (fun v H94 hp95 hq96 => ?_)
      obtain ⟨rfl, hn97, hn98⟩ := hp95
      dsimp only [psh]
      refine r_iconst C dX3_sendsHome_29 (1 : Int32) (by decide) ?_
      refine r_zret C dX3_sendsHome_30 (Or.inr rfl) ?_
      have er : res = ((1 : Int32), u93.2, u93.1) := by rw [hres, d_X3_sendsHome]; try exact (lt_eq hu1).trans ((if_pos c7).trans ((if_neg c50).trans ((lt_eq hu93).trans (rfl))))
      rw [er]
      exact ⟨rfl, (Or.inr rfl), hn98, hn97⟩
theorem X3_townAt_some {R : Nat → Nat → Int32} {t : Int32} {k : Nat} (h : d_X3_townAt R t = some k) : k < 6 ∧ t = nI k ∧ ¬ R (3 + k) 0 = 0 := by
  unfold d_X3_townAt at h
  split at h
  · cases h
  · rename_i h1
    split at h
    · cases h
    · rename_i h2
      have hn := nn_of (x_lo1 h1)
      have hlt := lt_of_in (vp_in_lh (N := 6) (x_lo1 h1) (x_hi1 h2 (by decide)) (by decide))
      split at h
      · cases h
      · rename_i h3
        cases h
        exact ⟨hlt, hn, h3⟩
theorem X3_townAt_lt {R : Nat → Nat → Int32} {t : Int32} {k : Nat} (h : d_X3_townAt R t = some k) : k < 6 := (X3_townAt_some h).1
theorem X3_crewAt_some {R : Nat → Nat → Int32} {t : Int32} {k : Nat} (h : d_X3_crewAt R t = some k) : k < 3 ∧ t = nI k ∧ ¬ R (9 + 2 * k) 0 = 0 := by
  unfold d_X3_crewAt at h
  split at h
  · cases h
  · rename_i h1
    split at h
    · cases h
    · rename_i h2
      have hn := nn_of (x_lo1 h1)
      have hlt := lt_of_in (vp_in_lh (N := 3) (x_lo1 h1) (x_hi1 h2 (by decide)) (by decide))
      split at h
      · cases h
      · rename_i h3
        cases h
        exact ⟨hlt, hn, h3⟩
theorem X3_crewAt_lt {R : Nat → Nat → Int32} {t : Int32} {k : Nat} (h : d_X3_crewAt R t = some k) : k < 3 := (X3_crewAt_some h).1
theorem X3_townsThere_L {R : Nat → Nat → Int32} : ∀ n m i : Nat, m ≤ i → i ≤ 6 → d_X3_townsThere_L4 R n m i ≤ 6 := by
  intro n
  induction n with
  | zero => intro m i h1 h2; simp only [d_X3_townsThere_L4]; omega
  | succ n ih =>
    intro m i h1 h2
    simp only [d_X3_townsThere_L4]
    split
    · omega
    · rename_i c
      have f : ¬ 6 ≤ i := nf_leIn (by omega) (by omega) rfl rfl c
      split <;> exact ih _ _ (by omega) (by omega)
theorem X3_townsThere_nat {R : Nat → Nat → Int32} {u : Int32} (h : u = d_X3_townsThere R) : u = nI u.toNatClampNeg ∧ u.toNatClampNeg ≤ 6 := by
  subst h
  have h := X3_townsThere_L (R := R) 7 0 0 (by omega) (by omega)
  simp only [d_X3_townsThere, lt]
  rw [nI_clamp (by omega)]
  exact ⟨rfl, h⟩
theorem X3_crewsThere_L {R : Nat → Nat → Int32} : ∀ n m i : Nat, m ≤ i → i ≤ 3 → d_X3_crewsThere_L4 R n m i ≤ 3 := by
  intro n
  induction n with
  | zero => intro m i h1 h2; simp only [d_X3_crewsThere_L4]; omega
  | succ n ih =>
    intro m i h1 h2
    simp only [d_X3_crewsThere_L4]
    split
    · omega
    · rename_i c
      have f : ¬ 3 ≤ i := nf_leIn (by omega) (by omega) rfl rfl c
      split <;> exact ih _ _ (by omega) (by omega)
theorem X3_crewsThere_nat {R : Nat → Nat → Int32} {u : Int32} (h : u = d_X3_crewsThere R) : u = nI u.toNatClampNeg ∧ u.toNatClampNeg ≤ 3 := by
  subst h
  have h := X3_crewsThere_L (R := R) 4 0 0 (by omega) (by omega)
  simp only [d_X3_crewsThere, lt]
  rw [nI_clamp (by omega)]
  exact ⟨rfl, h⟩
