theorem dX1_init_0 : dec cX1_init 0 (.aload_n 0) 1 1 := ⟨by decide +kernel, rfl⟩
theorem dX1_init_1 : dec cX1_init 1 (.invokespecial 3) 3 4 := ⟨by decide +kernel, rfl⟩
theorem dX1_init_4 : dec cX1_init 4 (.aload_n 0) 1 5 := ⟨by decide +kernel, rfl⟩
theorem dX1_init_5 : dec cX1_init 5 (.bipush 6) 2 7 := ⟨by decide +kernel, rfl⟩
theorem dX1_init_7 : dec cX1_init 7 (.newarray .int) 2 9 := ⟨by decide +kernel, rfl⟩
theorem dX1_init_9 : dec cX1_init 9 (.putfield 9) 3 12 := ⟨by decide +kernel, rfl⟩
theorem dX1_init_12 : dec cX1_init 12 (.aload_n 0) 1 13 := ⟨by decide +kernel, rfl⟩
theorem dX1_init_13 : dec cX1_init 13 (.bipush 6) 2 15 := ⟨by decide +kernel, rfl⟩
theorem dX1_init_15 : dec cX1_init 15 (.newarray .int) 2 17 := ⟨by decide +kernel, rfl⟩
theorem dX1_init_17 : dec cX1_init 17 (.putfield 15) 3 20 := ⟨by decide +kernel, rfl⟩
theorem dX1_init_20 : dec cX1_init 20 (.aload_n 0) 1 21 := ⟨by decide +kernel, rfl⟩
theorem dX1_init_21 : dec cX1_init 21 (.bipush 6) 2 23 := ⟨by decide +kernel, rfl⟩
theorem dX1_init_23 : dec cX1_init 23 (.newarray .int) 2 25 := ⟨by decide +kernel, rfl⟩
theorem dX1_init_25 : dec cX1_init 25 (.putfield 18) 3 28 := ⟨by decide +kernel, rfl⟩
theorem dX1_init_28 : dec cX1_init 28 .return_ 1 29 := ⟨by decide +kernel, rfl⟩
theorem dX1_add_0 : dec cX1_add 0 (.aload_n 0) 1 1 := ⟨by decide +kernel, rfl⟩
theorem dX1_add_1 : dec cX1_add 1 (.getfield 21) 3 4 := ⟨by decide +kernel, rfl⟩
theorem dX1_add_4 : decJ cX1_add 4 (.ifCond .lt) 3 7 16 := ⟨12, by decide +kernel, rfl, rfl⟩
theorem dX1_add_7 : dec cX1_add 7 (.aload_n 0) 1 8 := ⟨by decide +kernel, rfl⟩
theorem dX1_add_8 : dec cX1_add 8 (.getfield 21) 3 11 := ⟨by decide +kernel, rfl⟩
theorem dX1_add_11 : dec cX1_add 11 (.bipush 6) 2 13 := ⟨by decide +kernel, rfl⟩
theorem dX1_add_13 : decJ cX1_add 13 (.if_icmp .lt) 3 16 18 := ⟨5, by decide +kernel, rfl, rfl⟩
theorem dX1_add_16 : dec cX1_add 16 (.iconst 0) 1 17 := ⟨by decide +kernel, rfl⟩
theorem dX1_add_17 : dec cX1_add 17 .ireturn 1 18 := ⟨by decide +kernel, rfl⟩
theorem dX1_add_18 : dec cX1_add 18 (.aload_n 0) 1 19 := ⟨by decide +kernel, rfl⟩
theorem dX1_add_19 : dec cX1_add 19 (.getfield 9) 3 22 := ⟨by decide +kernel, rfl⟩
theorem dX1_add_22 : dec cX1_add 22 (.aload_n 0) 1 23 := ⟨by decide +kernel, rfl⟩
theorem dX1_add_23 : dec cX1_add 23 (.getfield 21) 3 26 := ⟨by decide +kernel, rfl⟩
theorem dX1_add_26 : dec cX1_add 26 (.iload_n 1) 1 27 := ⟨by decide +kernel, rfl⟩
theorem dX1_add_27 : dec cX1_add 27 .iastore 1 28 := ⟨by decide +kernel, rfl⟩
theorem dX1_add_28 : dec cX1_add 28 (.aload_n 0) 1 29 := ⟨by decide +kernel, rfl⟩
theorem dX1_add_29 : dec cX1_add 29 (.getfield 15) 3 32 := ⟨by decide +kernel, rfl⟩
theorem dX1_add_32 : dec cX1_add 32 (.aload_n 0) 1 33 := ⟨by decide +kernel, rfl⟩
theorem dX1_add_33 : dec cX1_add 33 (.getfield 21) 3 36 := ⟨by decide +kernel, rfl⟩
theorem dX1_add_36 : dec cX1_add 36 (.iload_n 2) 1 37 := ⟨by decide +kernel, rfl⟩
theorem dX1_add_37 : dec cX1_add 37 .iastore 1 38 := ⟨by decide +kernel, rfl⟩
theorem dX1_add_38 : dec cX1_add 38 (.aload_n 0) 1 39 := ⟨by decide +kernel, rfl⟩
theorem dX1_add_39 : dec cX1_add 39 (.getfield 18) 3 42 := ⟨by decide +kernel, rfl⟩
theorem dX1_add_42 : dec cX1_add 42 (.aload_n 0) 1 43 := ⟨by decide +kernel, rfl⟩
theorem dX1_add_43 : dec cX1_add 43 (.getfield 21) 3 46 := ⟨by decide +kernel, rfl⟩
theorem dX1_add_46 : dec cX1_add 46 (.iload_n 3) 1 47 := ⟨by decide +kernel, rfl⟩
theorem dX1_add_47 : dec cX1_add 47 .iastore 1 48 := ⟨by decide +kernel, rfl⟩
theorem dX1_add_48 : dec cX1_add 48 (.aload_n 0) 1 49 := ⟨by decide +kernel, rfl⟩
theorem dX1_add_49 : dec cX1_add 49 .dup 1 50 := ⟨by decide +kernel, rfl⟩
theorem dX1_add_50 : dec cX1_add 50 (.getfield 21) 3 53 := ⟨by decide +kernel, rfl⟩
theorem dX1_add_53 : dec cX1_add 53 (.iconst 1) 1 54 := ⟨by decide +kernel, rfl⟩
theorem dX1_add_54 : dec cX1_add 54 .iadd 1 55 := ⟨by decide +kernel, rfl⟩
theorem dX1_add_55 : dec cX1_add 55 (.putfield 21) 3 58 := ⟨by decide +kernel, rfl⟩
theorem dX1_add_58 : dec cX1_add 58 (.iconst 1) 1 59 := ⟨by decide +kernel, rfl⟩
theorem dX1_add_59 : dec cX1_add 59 .ireturn 1 60 := ⟨by decide +kernel, rfl⟩
theorem dX1_lastSpring_0 : dec cX1_lastSpring 0 (.iconst 0) 1 1 := ⟨by decide +kernel, rfl⟩
theorem dX1_lastSpring_1 : dec cX1_lastSpring 1 (.istore_n 1) 1 2 := ⟨by decide +kernel, rfl⟩
theorem dX1_lastSpring_2 : dec cX1_lastSpring 2 (.iconst 0) 1 3 := ⟨by decide +kernel, rfl⟩
theorem dX1_lastSpring_3 : dec cX1_lastSpring 3 (.istore_n 2) 1 4 := ⟨by decide +kernel, rfl⟩
theorem dX1_lastSpring_4 : dec cX1_lastSpring 4 (.iload_n 2) 1 5 := ⟨by decide +kernel, rfl⟩
theorem dX1_lastSpring_5 : dec cX1_lastSpring 5 (.aload_n 0) 1 6 := ⟨by decide +kernel, rfl⟩
theorem dX1_lastSpring_6 : dec cX1_lastSpring 6 (.getfield 21) 3 9 := ⟨by decide +kernel, rfl⟩
theorem dX1_lastSpring_9 : decJ cX1_lastSpring 9 (.if_icmp .ge) 3 12 35 := ⟨26, by decide +kernel, rfl, rfl⟩
theorem dX1_lastSpring_12 : dec cX1_lastSpring 12 (.iload_n 2) 1 13 := ⟨by decide +kernel, rfl⟩
theorem dX1_lastSpring_13 : dec cX1_lastSpring 13 (.bipush 6) 2 15 := ⟨by decide +kernel, rfl⟩
theorem dX1_lastSpring_15 : decJ cX1_lastSpring 15 (.if_icmp .ge) 3 18 35 := ⟨20, by decide +kernel, rfl, rfl⟩
theorem dX1_lastSpring_18 : dec cX1_lastSpring 18 (.iload_n 1) 1 19 := ⟨by decide +kernel, rfl⟩
theorem dX1_lastSpring_19 : dec cX1_lastSpring 19 (.aload_n 0) 1 20 := ⟨by decide +kernel, rfl⟩
theorem dX1_lastSpring_20 : dec cX1_lastSpring 20 (.getfield 15) 3 23 := ⟨by decide +kernel, rfl⟩
theorem dX1_lastSpring_23 : dec cX1_lastSpring 23 (.iload_n 2) 1 24 := ⟨by decide +kernel, rfl⟩
theorem dX1_lastSpring_24 : dec cX1_lastSpring 24 .iaload 1 25 := ⟨by decide +kernel, rfl⟩
theorem dX1_lastSpring_25 : dec cX1_lastSpring 25 (.invokestatic 25) 3 28 := ⟨by decide +kernel, rfl⟩
theorem dX1_lastSpring_28 : dec cX1_lastSpring 28 (.istore_n 1) 1 29 := ⟨by decide +kernel, rfl⟩
theorem dX1_lastSpring_29 : dec cX1_lastSpring 29 (.iinc 2 1) 3 32 := ⟨by decide +kernel, rfl⟩
theorem dX1_lastSpring_32 : decJ cX1_lastSpring 32 .goto 3 35 4 := ⟨-28, by decide +kernel, rfl, rfl⟩
theorem dX1_lastSpring_35 : dec cX1_lastSpring 35 (.iload_n 1) 1 36 := ⟨by decide +kernel, rfl⟩
theorem dX1_lastSpring_36 : dec cX1_lastSpring 36 .ireturn 1 37 := ⟨by decide +kernel, rfl⟩
theorem dX1_agree_0 : dec cX1_agree 0 (.iconst 0) 1 1 := ⟨by decide +kernel, rfl⟩
theorem dX1_agree_1 : dec cX1_agree 1 (.istore_n 3) 1 2 := ⟨by decide +kernel, rfl⟩
theorem dX1_agree_2 : dec cX1_agree 2 (.iload_n 3) 1 3 := ⟨by decide +kernel, rfl⟩
theorem dX1_agree_3 : dec cX1_agree 3 (.aload_n 0) 1 4 := ⟨by decide +kernel, rfl⟩
theorem dX1_agree_4 : dec cX1_agree 4 (.getfield 21) 3 7 := ⟨by decide +kernel, rfl⟩
theorem dX1_agree_7 : decJ cX1_agree 7 (.if_icmp .ge) 3 10 65 := ⟨58, by decide +kernel, rfl, rfl⟩
theorem dX1_agree_10 : dec cX1_agree 10 (.iload_n 3) 1 11 := ⟨by decide +kernel, rfl⟩
theorem dX1_agree_11 : dec cX1_agree 11 (.bipush 6) 2 13 := ⟨by decide +kernel, rfl⟩
theorem dX1_agree_13 : decJ cX1_agree 13 (.if_icmp .ge) 3 16 65 := ⟨52, by decide +kernel, rfl, rfl⟩
theorem dX1_agree_16 : dec cX1_agree 16 (.aload_n 1) 1 17 := ⟨by decide +kernel, rfl⟩
theorem dX1_agree_17 : dec cX1_agree 17 (.aload_n 0) 1 18 := ⟨by decide +kernel, rfl⟩
theorem dX1_agree_18 : dec cX1_agree 18 (.getfield 9) 3 21 := ⟨by decide +kernel, rfl⟩
theorem dX1_agree_21 : dec cX1_agree 21 (.iload_n 3) 1 22 := ⟨by decide +kernel, rfl⟩
theorem dX1_agree_22 : dec cX1_agree 22 .iaload 1 23 := ⟨by decide +kernel, rfl⟩
theorem dX1_agree_23 : dec cX1_agree 23 (.invokevirtual 31) 3 26 := ⟨by decide +kernel, rfl⟩
theorem dX1_agree_26 : dec cX1_agree 26 (.astore 4) 2 28 := ⟨by decide +kernel, rfl⟩
theorem dX1_agree_28 : dec cX1_agree 28 (.aload_n 0) 1 29 := ⟨by decide +kernel, rfl⟩
theorem dX1_agree_29 : dec cX1_agree 29 (.getfield 15) 3 32 := ⟨by decide +kernel, rfl⟩
theorem dX1_agree_32 : dec cX1_agree 32 (.iload_n 3) 1 33 := ⟨by decide +kernel, rfl⟩
theorem dX1_agree_33 : dec cX1_agree 33 .iaload 1 34 := ⟨by decide +kernel, rfl⟩
theorem dX1_agree_34 : dec cX1_agree 34 (.iload_n 2) 1 35 := ⟨by decide +kernel, rfl⟩
theorem dX1_agree_35 : decJ cX1_agree 35 (.if_icmp .ne) 3 38 59 := ⟨24, by decide +kernel, rfl, rfl⟩
theorem dX1_agree_38 : dec cX1_agree 38 (.aload 4) 2 40 := ⟨by decide +kernel, rfl⟩
theorem dX1_agree_40 : decJ cX1_agree 40 .ifnull 3 43 57 := ⟨17, by decide +kernel, rfl, rfl⟩
theorem dX1_agree_43 : dec cX1_agree 43 (.aload 4) 2 45 := ⟨by decide +kernel, rfl⟩
theorem dX1_agree_45 : dec cX1_agree 45 (.getfield 37) 3 48 := ⟨by decide +kernel, rfl⟩
theorem dX1_agree_48 : dec cX1_agree 48 (.aload_n 0) 1 49 := ⟨by decide +kernel, rfl⟩
theorem dX1_agree_49 : dec cX1_agree 49 (.getfield 18) 3 52 := ⟨by decide +kernel, rfl⟩
theorem dX1_agree_52 : dec cX1_agree 52 (.iload_n 3) 1 53 := ⟨by decide +kernel, rfl⟩
theorem dX1_agree_53 : dec cX1_agree 53 .iaload 1 54 := ⟨by decide +kernel, rfl⟩
theorem dX1_agree_54 : decJ cX1_agree 54 (.if_icmp .eq) 3 57 59 := ⟨5, by decide +kernel, rfl, rfl⟩
theorem dX1_agree_57 : dec cX1_agree 57 (.iconst 0) 1 58 := ⟨by decide +kernel, rfl⟩
theorem dX1_agree_58 : dec cX1_agree 58 .ireturn 1 59 := ⟨by decide +kernel, rfl⟩
theorem dX1_agree_59 : dec cX1_agree 59 (.iinc 3 1) 3 62 := ⟨by decide +kernel, rfl⟩
theorem dX1_agree_62 : decJ cX1_agree 62 .goto 3 65 2 := ⟨-60, by decide +kernel, rfl, rfl⟩
theorem dX1_agree_65 : dec cX1_agree 65 (.iconst 1) 1 66 := ⟨by decide +kernel, rfl⟩
theorem dX1_agree_66 : dec cX1_agree 66 .ireturn 1 67 := ⟨by decide +kernel, rfl⟩
theorem dX2_init_0 : dec cX2_init 0 (.aload_n 0) 1 1 := ⟨by decide +kernel, rfl⟩
theorem dX2_init_1 : dec cX2_init 1 (.invokespecial 3) 3 4 := ⟨by decide +kernel, rfl⟩
theorem dX2_init_4 : dec cX2_init 4 (.aload_n 0) 1 5 := ⟨by decide +kernel, rfl⟩
theorem dX2_init_5 : dec cX2_init 5 (.iconst 4) 1 6 := ⟨by decide +kernel, rfl⟩
theorem dX2_init_6 : dec cX2_init 6 (.newarray .int) 2 8 := ⟨by decide +kernel, rfl⟩
theorem dX2_init_8 : dec cX2_init 8 (.putfield 11) 3 11 := ⟨by decide +kernel, rfl⟩
theorem dX2_init_11 : dec cX2_init 11 .return_ 1 12 := ⟨by decide +kernel, rfl⟩
theorem dX2_read_0 : dec cX2_read 0 (.aload_n 3) 1 1 := ⟨by decide +kernel, rfl⟩
theorem dX2_read_1 : dec cX2_read 1 (.invokevirtual 15) 3 4 := ⟨by decide +kernel, rfl⟩
theorem dX2_read_4 : dec cX2_read 4 (.iload_n 2) 1 5 := ⟨by decide +kernel, rfl⟩
theorem dX2_read_5 : dec cX2_read 5 (.aload_n 1) 1 6 := ⟨by decide +kernel, rfl⟩
theorem dX2_read_6 : dec cX2_read 6 .arraylength 1 7 := ⟨by decide +kernel, rfl⟩
theorem dX2_read_7 : dec cX2_read 7 (.invokestatic 20) 3 10 := ⟨by decide +kernel, rfl⟩
theorem dX2_read_10 : dec cX2_read 10 (.istore 4) 2 12 := ⟨by decide +kernel, rfl⟩
theorem dX2_read_12 : dec cX2_read 12 (.iconst 0) 1 13 := ⟨by decide +kernel, rfl⟩
theorem dX2_read_13 : dec cX2_read 13 (.istore 5) 2 15 := ⟨by decide +kernel, rfl⟩
theorem dX2_read_15 : dec cX2_read 15 (.iconst 0) 1 16 := ⟨by decide +kernel, rfl⟩
theorem dX2_read_16 : dec cX2_read 16 (.istore 6) 2 18 := ⟨by decide +kernel, rfl⟩
theorem dX2_read_18 : dec cX2_read 18 (.iload 6) 2 20 := ⟨by decide +kernel, rfl⟩
theorem dX2_read_20 : dec cX2_read 20 (.iload 4) 2 22 := ⟨by decide +kernel, rfl⟩
theorem dX2_read_22 : decJ cX2_read 22 (.if_icmp .ge) 3 25 75 := ⟨53, by decide +kernel, rfl, rfl⟩
theorem dX2_read_25 : dec cX2_read 25 (.iload 5) 2 27 := ⟨by decide +kernel, rfl⟩
theorem dX2_read_27 : dec cX2_read 27 (.iload 4) 2 29 := ⟨by decide +kernel, rfl⟩
theorem dX2_read_29 : decJ cX2_read 29 (.if_icmp .ge) 3 32 75 := ⟨46, by decide +kernel, rfl, rfl⟩
theorem dX2_read_32 : dec cX2_read 32 (.aload_n 0) 1 33 := ⟨by decide +kernel, rfl⟩
theorem dX2_read_33 : dec cX2_read 33 (.aload_n 1) 1 34 := ⟨by decide +kernel, rfl⟩
theorem dX2_read_34 : dec cX2_read 34 (.iload 4) 2 36 := ⟨by decide +kernel, rfl⟩
theorem dX2_read_36 : dec cX2_read 36 (.iload 5) 2 38 := ⟨by decide +kernel, rfl⟩
theorem dX2_read_38 : dec cX2_read 38 (.invokevirtual 26) 3 41 := ⟨by decide +kernel, rfl⟩
theorem dX2_read_41 : dec cX2_read 41 (.istore 7) 2 43 := ⟨by decide +kernel, rfl⟩
theorem dX2_read_43 : dec cX2_read 43 (.iload 7) 2 45 := ⟨by decide +kernel, rfl⟩
theorem dX2_read_45 : dec cX2_read 45 (.bipush (-4)) 2 47 := ⟨by decide +kernel, rfl⟩
theorem dX2_read_47 : decJ cX2_read 47 (.if_icmp .eq) 3 50 62 := ⟨15, by decide +kernel, rfl, rfl⟩
theorem dX2_read_50 : dec cX2_read 50 (.aload_n 0) 1 51 := ⟨by decide +kernel, rfl⟩
theorem dX2_read_51 : dec cX2_read 51 (.aload_n 1) 1 52 := ⟨by decide +kernel, rfl⟩
theorem dX2_read_52 : dec cX2_read 52 (.iload 5) 2 54 := ⟨by decide +kernel, rfl⟩
theorem dX2_read_54 : dec cX2_read 54 .caload 1 55 := ⟨by decide +kernel, rfl⟩
theorem dX2_read_55 : dec cX2_read 55 (.aload_n 3) 1 56 := ⟨by decide +kernel, rfl⟩
theorem dX2_read_56 : dec cX2_read 56 (.invokevirtual 30) 3 59 := ⟨by decide +kernel, rfl⟩
theorem dX2_read_59 : decJ cX2_read 59 (.ifCond .ne) 3 62 65 := ⟨6, by decide +kernel, rfl, rfl⟩
theorem dX2_read_62 : dec cX2_read 62 (.iload 5) 2 64 := ⟨by decide +kernel, rfl⟩
theorem dX2_read_64 : dec cX2_read 64 .ireturn 1 65 := ⟨by decide +kernel, rfl⟩
theorem dX2_read_65 : dec cX2_read 65 (.iload 7) 2 67 := ⟨by decide +kernel, rfl⟩
theorem dX2_read_67 : dec cX2_read 67 (.istore 5) 2 69 := ⟨by decide +kernel, rfl⟩
theorem dX2_read_69 : dec cX2_read 69 (.iinc 6 1) 3 72 := ⟨by decide +kernel, rfl⟩
theorem dX2_read_72 : decJ cX2_read 72 .goto 3 75 18 := ⟨-54, by decide +kernel, rfl, rfl⟩
theorem dX2_read_75 : dec cX2_read 75 (.bipush (-4)) 2 77 := ⟨by decide +kernel, rfl⟩
theorem dX2_read_77 : dec cX2_read 77 .ireturn 1 78 := ⟨by decide +kernel, rfl⟩
theorem dX2_itemEnd_0 : dec cX2_itemEnd 0 (.aload_n 1) 1 1 := ⟨by decide +kernel, rfl⟩
theorem dX2_itemEnd_1 : dec cX2_itemEnd 1 (.iload_n 3) 1 2 := ⟨by decide +kernel, rfl⟩
theorem dX2_itemEnd_2 : dec cX2_itemEnd 2 .caload 1 3 := ⟨by decide +kernel, rfl⟩
theorem dX2_itemEnd_3 : dec cX2_itemEnd 3 (.invokestatic 34) 3 6 := ⟨by decide +kernel, rfl⟩
theorem dX2_itemEnd_6 : dec cX2_itemEnd 6 (.istore 4) 2 8 := ⟨by decide +kernel, rfl⟩
theorem dX2_itemEnd_8 : dec cX2_itemEnd 8 (.iload 4) 2 10 := ⟨by decide +kernel, rfl⟩
theorem dX2_itemEnd_10 : decJ cX2_itemEnd 10 (.ifCond .ne) 3 13 16 := ⟨6, by decide +kernel, rfl, rfl⟩
theorem dX2_itemEnd_13 : dec cX2_itemEnd 13 (.bipush (-4)) 2 15 := ⟨by decide +kernel, rfl⟩
theorem dX2_itemEnd_15 : dec cX2_itemEnd 15 .ireturn 1 16 := ⟨by decide +kernel, rfl⟩
theorem dX2_itemEnd_16 : dec cX2_itemEnd 16 (.iload_n 3) 1 17 := ⟨by decide +kernel, rfl⟩
theorem dX2_itemEnd_17 : dec cX2_itemEnd 17 (.iconst 1) 1 18 := ⟨by decide +kernel, rfl⟩
theorem dX2_itemEnd_18 : dec cX2_itemEnd 18 .iadd 1 19 := ⟨by decide +kernel, rfl⟩
theorem dX2_itemEnd_19 : dec cX2_itemEnd 19 (.istore 5) 2 21 := ⟨by decide +kernel, rfl⟩
theorem dX2_itemEnd_21 : dec cX2_itemEnd 21 (.iconst 0) 1 22 := ⟨by decide +kernel, rfl⟩
theorem dX2_itemEnd_22 : dec cX2_itemEnd 22 (.istore 6) 2 24 := ⟨by decide +kernel, rfl⟩
theorem dX2_itemEnd_24 : dec cX2_itemEnd 24 (.iload 6) 2 26 := ⟨by decide +kernel, rfl⟩
theorem dX2_itemEnd_26 : dec cX2_itemEnd 26 (.iload 4) 2 28 := ⟨by decide +kernel, rfl⟩
theorem dX2_itemEnd_28 : decJ cX2_itemEnd 28 (.if_icmp .ge) 3 31 126 := ⟨98, by decide +kernel, rfl, rfl⟩
theorem dX2_itemEnd_31 : dec cX2_itemEnd 31 (.iload 6) 2 33 := ⟨by decide +kernel, rfl⟩
theorem dX2_itemEnd_33 : dec cX2_itemEnd 33 (.aload_n 0) 1 34 := ⟨by decide +kernel, rfl⟩
theorem dX2_itemEnd_34 : dec cX2_itemEnd 34 (.getfield 11) 3 37 := ⟨by decide +kernel, rfl⟩
theorem dX2_itemEnd_37 : dec cX2_itemEnd 37 .arraylength 1 38 := ⟨by decide +kernel, rfl⟩
theorem dX2_itemEnd_38 : decJ cX2_itemEnd 38 (.if_icmp .ge) 3 41 126 := ⟨88, by decide +kernel, rfl, rfl⟩
theorem dX2_itemEnd_41 : dec cX2_itemEnd 41 (.aload_n 1) 1 42 := ⟨by decide +kernel, rfl⟩
theorem dX2_itemEnd_42 : dec cX2_itemEnd 42 (.iload_n 2) 1 43 := ⟨by decide +kernel, rfl⟩
theorem dX2_itemEnd_43 : dec cX2_itemEnd 43 (.iload 5) 2 45 := ⟨by decide +kernel, rfl⟩
theorem dX2_itemEnd_45 : dec cX2_itemEnd 45 (.invokestatic 38) 3 48 := ⟨by decide +kernel, rfl⟩
theorem dX2_itemEnd_48 : dec cX2_itemEnd 48 (.istore 7) 2 50 := ⟨by decide +kernel, rfl⟩
theorem dX2_itemEnd_50 : dec cX2_itemEnd 50 (.iload 7) 2 52 := ⟨by decide +kernel, rfl⟩
theorem dX2_itemEnd_52 : decJ cX2_itemEnd 52 (.ifCond .ne) 3 55 58 := ⟨6, by decide +kernel, rfl, rfl⟩
theorem dX2_itemEnd_55 : dec cX2_itemEnd 55 (.bipush (-4)) 2 57 := ⟨by decide +kernel, rfl⟩
theorem dX2_itemEnd_57 : dec cX2_itemEnd 57 .ireturn 1 58 := ⟨by decide +kernel, rfl⟩
theorem dX2_itemEnd_58 : dec cX2_itemEnd 58 (.aload_n 0) 1 59 := ⟨by decide +kernel, rfl⟩
theorem dX2_itemEnd_59 : dec cX2_itemEnd 59 (.getfield 11) 3 62 := ⟨by decide +kernel, rfl⟩
theorem dX2_itemEnd_62 : dec cX2_itemEnd 62 (.iload 6) 2 64 := ⟨by decide +kernel, rfl⟩
theorem dX2_itemEnd_64 : dec cX2_itemEnd 64 (.aload_n 1) 1 65 := ⟨by decide +kernel, rfl⟩
theorem dX2_itemEnd_65 : dec cX2_itemEnd 65 (.iload_n 2) 1 66 := ⟨by decide +kernel, rfl⟩
theorem dX2_itemEnd_66 : dec cX2_itemEnd 66 (.iload 5) 2 68 := ⟨by decide +kernel, rfl⟩
theorem dX2_itemEnd_68 : dec cX2_itemEnd 68 (.iload 7) 2 70 := ⟨by decide +kernel, rfl⟩
theorem dX2_itemEnd_70 : dec cX2_itemEnd 70 (.invokestatic 41) 3 73 := ⟨by decide +kernel, rfl⟩
theorem dX2_itemEnd_73 : dec cX2_itemEnd 73 .iastore 1 74 := ⟨by decide +kernel, rfl⟩
theorem dX2_itemEnd_74 : dec cX2_itemEnd 74 (.iload 5) 2 76 := ⟨by decide +kernel, rfl⟩
theorem dX2_itemEnd_76 : dec cX2_itemEnd 76 (.iload 7) 2 78 := ⟨by decide +kernel, rfl⟩
theorem dX2_itemEnd_78 : dec cX2_itemEnd 78 .iadd 1 79 := ⟨by decide +kernel, rfl⟩
theorem dX2_itemEnd_79 : dec cX2_itemEnd 79 (.istore 5) 2 81 := ⟨by decide +kernel, rfl⟩
theorem dX2_itemEnd_81 : dec cX2_itemEnd 81 (.iload 6) 2 83 := ⟨by decide +kernel, rfl⟩
theorem dX2_itemEnd_83 : dec cX2_itemEnd 83 (.iload 4) 2 85 := ⟨by decide +kernel, rfl⟩
theorem dX2_itemEnd_85 : dec cX2_itemEnd 85 (.iconst 1) 1 86 := ⟨by decide +kernel, rfl⟩
theorem dX2_itemEnd_86 : dec cX2_itemEnd 86 .isub 1 87 := ⟨by decide +kernel, rfl⟩
theorem dX2_itemEnd_87 : decJ cX2_itemEnd 87 (.if_icmp .ne) 3 90 95 := ⟨8, by decide +kernel, rfl, rfl⟩
theorem dX2_itemEnd_90 : dec cX2_itemEnd 90 (.bipush 59) 2 92 := ⟨by decide +kernel, rfl⟩
theorem dX2_itemEnd_92 : decJ cX2_itemEnd 92 .goto 3 95 97 := ⟨5, by decide +kernel, rfl, rfl⟩
theorem dX2_itemEnd_95 : dec cX2_itemEnd 95 (.bipush 44) 2 97 := ⟨by decide +kernel, rfl⟩
theorem dX2_itemEnd_97 : dec cX2_itemEnd 97 (.istore 8) 2 99 := ⟨by decide +kernel, rfl⟩
theorem dX2_itemEnd_99 : dec cX2_itemEnd 99 (.iload 5) 2 101 := ⟨by decide +kernel, rfl⟩
theorem dX2_itemEnd_101 : dec cX2_itemEnd 101 (.iload_n 2) 1 102 := ⟨by decide +kernel, rfl⟩
theorem dX2_itemEnd_102 : decJ cX2_itemEnd 102 (.if_icmp .ge) 3 105 114 := ⟨12, by decide +kernel, rfl, rfl⟩
theorem dX2_itemEnd_105 : dec cX2_itemEnd 105 (.aload_n 1) 1 106 := ⟨by decide +kernel, rfl⟩
theorem dX2_itemEnd_106 : dec cX2_itemEnd 106 (.iload 5) 2 108 := ⟨by decide +kernel, rfl⟩
theorem dX2_itemEnd_108 : dec cX2_itemEnd 108 .caload 1 109 := ⟨by decide +kernel, rfl⟩
theorem dX2_itemEnd_109 : dec cX2_itemEnd 109 (.iload 8) 2 111 := ⟨by decide +kernel, rfl⟩
theorem dX2_itemEnd_111 : decJ cX2_itemEnd 111 (.if_icmp .eq) 3 114 117 := ⟨6, by decide +kernel, rfl, rfl⟩
theorem dX2_itemEnd_114 : dec cX2_itemEnd 114 (.bipush (-4)) 2 116 := ⟨by decide +kernel, rfl⟩
theorem dX2_itemEnd_116 : dec cX2_itemEnd 116 .ireturn 1 117 := ⟨by decide +kernel, rfl⟩
theorem dX2_itemEnd_117 : dec cX2_itemEnd 117 (.iinc 5 1) 3 120 := ⟨by decide +kernel, rfl⟩
theorem dX2_itemEnd_120 : dec cX2_itemEnd 120 (.iinc 6 1) 3 123 := ⟨by decide +kernel, rfl⟩
theorem dX2_itemEnd_123 : decJ cX2_itemEnd 123 .goto 3 126 24 := ⟨-99, by decide +kernel, rfl, rfl⟩
theorem dX2_itemEnd_126 : dec cX2_itemEnd 126 (.iload 5) 2 128 := ⟨by decide +kernel, rfl⟩
theorem dX2_itemEnd_128 : dec cX2_itemEnd 128 .ireturn 1 129 := ⟨by decide +kernel, rfl⟩
theorem dX2_numbersBehind_0 : dec cX2_numbersBehind 0 (.iload_n 0) 1 1 := ⟨by decide +kernel, rfl⟩
theorem dX2_numbersBehind_1 : dec cX2_numbersBehind 1 (.bipush 116) 2 3 := ⟨by decide +kernel, rfl⟩
theorem dX2_numbersBehind_3 : decJ cX2_numbersBehind 3 (.if_icmp .ne) 3 6 8 := ⟨5, by decide +kernel, rfl, rfl⟩
theorem dX2_numbersBehind_6 : dec cX2_numbersBehind 6 (.iconst 4) 1 7 := ⟨by decide +kernel, rfl⟩
theorem dX2_numbersBehind_7 : dec cX2_numbersBehind 7 .ireturn 1 8 := ⟨by decide +kernel, rfl⟩
theorem dX2_numbersBehind_8 : dec cX2_numbersBehind 8 (.iload_n 0) 1 9 := ⟨by decide +kernel, rfl⟩
theorem dX2_numbersBehind_9 : dec cX2_numbersBehind 9 (.bipush 99) 2 11 := ⟨by decide +kernel, rfl⟩
theorem dX2_numbersBehind_11 : decJ cX2_numbersBehind 11 (.if_icmp .eq) 3 14 20 := ⟨9, by decide +kernel, rfl, rfl⟩
theorem dX2_numbersBehind_14 : dec cX2_numbersBehind 14 (.iload_n 0) 1 15 := ⟨by decide +kernel, rfl⟩
theorem dX2_numbersBehind_15 : dec cX2_numbersBehind 15 (.bipush 119) 2 17 := ⟨by decide +kernel, rfl⟩
theorem dX2_numbersBehind_17 : decJ cX2_numbersBehind 17 (.if_icmp .ne) 3 20 22 := ⟨5, by decide +kernel, rfl, rfl⟩
theorem dX2_numbersBehind_20 : dec cX2_numbersBehind 20 (.iconst 2) 1 21 := ⟨by decide +kernel, rfl⟩
theorem dX2_numbersBehind_21 : dec cX2_numbersBehind 21 .ireturn 1 22 := ⟨by decide +kernel, rfl⟩
theorem dX2_numbersBehind_22 : dec cX2_numbersBehind 22 (.iload_n 0) 1 23 := ⟨by decide +kernel, rfl⟩
theorem dX2_numbersBehind_23 : dec cX2_numbersBehind 23 (.bipush 98) 2 25 := ⟨by decide +kernel, rfl⟩
theorem dX2_numbersBehind_25 : decJ cX2_numbersBehind 25 (.if_icmp .ne) 3 28 32 := ⟨7, by decide +kernel, rfl, rfl⟩
theorem dX2_numbersBehind_28 : dec cX2_numbersBehind 28 (.iconst 1) 1 29 := ⟨by decide +kernel, rfl⟩
theorem dX2_numbersBehind_29 : decJ cX2_numbersBehind 29 .goto 3 32 33 := ⟨4, by decide +kernel, rfl, rfl⟩
theorem dX2_numbersBehind_32 : dec cX2_numbersBehind 32 (.iconst 0) 1 33 := ⟨by decide +kernel, rfl⟩
theorem dX2_numbersBehind_33 : dec cX2_numbersBehind 33 .ireturn 1 34 := ⟨by decide +kernel, rfl⟩
theorem dX2_figuresAt_0 : dec cX2_figuresAt 0 (.aload_n 0) 1 1 := ⟨by decide +kernel, rfl⟩
theorem dX2_figuresAt_1 : dec cX2_figuresAt 1 (.iload_n 1) 1 2 := ⟨by decide +kernel, rfl⟩
theorem dX2_figuresAt_2 : dec cX2_figuresAt 2 (.iload_n 2) 1 3 := ⟨by decide +kernel, rfl⟩
theorem dX2_figuresAt_3 : dec cX2_figuresAt 3 (.invokestatic 45) 3 6 := ⟨by decide +kernel, rfl⟩
theorem dX2_figuresAt_6 : decJ cX2_figuresAt 6 (.ifCond .ne) 3 9 11 := ⟨5, by decide +kernel, rfl, rfl⟩
theorem dX2_figuresAt_9 : dec cX2_figuresAt 9 (.iconst 0) 1 10 := ⟨by decide +kernel, rfl⟩
theorem dX2_figuresAt_10 : dec cX2_figuresAt 10 .ireturn 1 11 := ⟨by decide +kernel, rfl⟩
theorem dX2_figuresAt_11 : dec cX2_figuresAt 11 (.aload_n 0) 1 12 := ⟨by decide +kernel, rfl⟩
theorem dX2_figuresAt_12 : dec cX2_figuresAt 12 (.iload_n 1) 1 13 := ⟨by decide +kernel, rfl⟩
theorem dX2_figuresAt_13 : dec cX2_figuresAt 13 (.iload_n 2) 1 14 := ⟨by decide +kernel, rfl⟩
theorem dX2_figuresAt_14 : dec cX2_figuresAt 14 (.iconst 1) 1 15 := ⟨by decide +kernel, rfl⟩
theorem dX2_figuresAt_15 : dec cX2_figuresAt 15 .iadd 1 16 := ⟨by decide +kernel, rfl⟩
theorem dX2_figuresAt_16 : dec cX2_figuresAt 16 (.invokestatic 45) 3 19 := ⟨by decide +kernel, rfl⟩
theorem dX2_figuresAt_19 : decJ cX2_figuresAt 19 (.ifCond .eq) 3 22 26 := ⟨7, by decide +kernel, rfl, rfl⟩
theorem dX2_figuresAt_22 : dec cX2_figuresAt 22 (.iconst 2) 1 23 := ⟨by decide +kernel, rfl⟩
theorem dX2_figuresAt_23 : decJ cX2_figuresAt 23 .goto 3 26 27 := ⟨4, by decide +kernel, rfl, rfl⟩
theorem dX2_figuresAt_26 : dec cX2_figuresAt 26 (.iconst 1) 1 27 := ⟨by decide +kernel, rfl⟩
theorem dX2_figuresAt_27 : dec cX2_figuresAt 27 .ireturn 1 28 := ⟨by decide +kernel, rfl⟩
theorem dX2_isFigure_0 : dec cX2_isFigure 0 (.iload_n 2) 1 1 := ⟨by decide +kernel, rfl⟩
theorem dX2_isFigure_1 : decJ cX2_isFigure 1 (.ifCond .lt) 3 4 35 := ⟨34, by decide +kernel, rfl, rfl⟩
theorem dX2_isFigure_4 : dec cX2_isFigure 4 (.iload_n 2) 1 5 := ⟨by decide +kernel, rfl⟩
theorem dX2_isFigure_5 : dec cX2_isFigure 5 (.iload_n 1) 1 6 := ⟨by decide +kernel, rfl⟩
theorem dX2_isFigure_6 : decJ cX2_isFigure 6 (.if_icmp .ge) 3 9 35 := ⟨29, by decide +kernel, rfl, rfl⟩
theorem dX2_isFigure_9 : dec cX2_isFigure 9 (.iload_n 2) 1 10 := ⟨by decide +kernel, rfl⟩
theorem dX2_isFigure_10 : dec cX2_isFigure 10 (.aload_n 0) 1 11 := ⟨by decide +kernel, rfl⟩
theorem dX2_isFigure_11 : dec cX2_isFigure 11 .arraylength 1 12 := ⟨by decide +kernel, rfl⟩
theorem dX2_isFigure_12 : decJ cX2_isFigure 12 (.if_icmp .ge) 3 15 35 := ⟨23, by decide +kernel, rfl, rfl⟩
theorem dX2_isFigure_15 : dec cX2_isFigure 15 (.aload_n 0) 1 16 := ⟨by decide +kernel, rfl⟩
theorem dX2_isFigure_16 : dec cX2_isFigure 16 (.iload_n 2) 1 17 := ⟨by decide +kernel, rfl⟩
theorem dX2_isFigure_17 : dec cX2_isFigure 17 .caload 1 18 := ⟨by decide +kernel, rfl⟩
theorem dX2_isFigure_18 : dec cX2_isFigure 18 (.bipush 48) 2 20 := ⟨by decide +kernel, rfl⟩
theorem dX2_isFigure_20 : decJ cX2_isFigure 20 (.if_icmp .lt) 3 23 35 := ⟨15, by decide +kernel, rfl, rfl⟩
theorem dX2_isFigure_23 : dec cX2_isFigure 23 (.aload_n 0) 1 24 := ⟨by decide +kernel, rfl⟩
theorem dX2_isFigure_24 : dec cX2_isFigure 24 (.iload_n 2) 1 25 := ⟨by decide +kernel, rfl⟩
theorem dX2_isFigure_25 : dec cX2_isFigure 25 .caload 1 26 := ⟨by decide +kernel, rfl⟩
theorem dX2_isFigure_26 : dec cX2_isFigure 26 (.bipush 57) 2 28 := ⟨by decide +kernel, rfl⟩
theorem dX2_isFigure_28 : decJ cX2_isFigure 28 (.if_icmp .gt) 3 31 35 := ⟨7, by decide +kernel, rfl, rfl⟩
theorem dX2_isFigure_31 : dec cX2_isFigure 31 (.iconst 1) 1 32 := ⟨by decide +kernel, rfl⟩
theorem dX2_isFigure_32 : decJ cX2_isFigure 32 .goto 3 35 36 := ⟨4, by decide +kernel, rfl, rfl⟩
theorem dX2_isFigure_35 : dec cX2_isFigure 35 (.iconst 0) 1 36 := ⟨by decide +kernel, rfl⟩
theorem dX2_isFigure_36 : dec cX2_isFigure 36 .ireturn 1 37 := ⟨by decide +kernel, rfl⟩
theorem dX2_numberAt_0 : dec cX2_numberAt 0 (.iconst 0) 1 1 := ⟨by decide +kernel, rfl⟩
theorem dX2_numberAt_1 : dec cX2_numberAt 1 (.istore 4) 2 3 := ⟨by decide +kernel, rfl⟩
theorem dX2_numberAt_3 : dec cX2_numberAt 3 (.iload_n 2) 1 4 := ⟨by decide +kernel, rfl⟩
theorem dX2_numberAt_4 : dec cX2_numberAt 4 (.istore 5) 2 6 := ⟨by decide +kernel, rfl⟩
theorem dX2_numberAt_6 : dec cX2_numberAt 6 (.iload 5) 2 8 := ⟨by decide +kernel, rfl⟩
theorem dX2_numberAt_8 : dec cX2_numberAt 8 (.iload_n 2) 1 9 := ⟨by decide +kernel, rfl⟩
theorem dX2_numberAt_9 : dec cX2_numberAt 9 (.iload_n 3) 1 10 := ⟨by decide +kernel, rfl⟩
theorem dX2_numberAt_10 : dec cX2_numberAt 10 .iadd 1 11 := ⟨by decide +kernel, rfl⟩
theorem dX2_numberAt_11 : decJ cX2_numberAt 11 (.if_icmp .ge) 3 14 45 := ⟨34, by decide +kernel, rfl, rfl⟩
theorem dX2_numberAt_14 : dec cX2_numberAt 14 (.aload_n 0) 1 15 := ⟨by decide +kernel, rfl⟩
theorem dX2_numberAt_15 : dec cX2_numberAt 15 (.iload_n 1) 1 16 := ⟨by decide +kernel, rfl⟩
theorem dX2_numberAt_16 : dec cX2_numberAt 16 (.iload 5) 2 18 := ⟨by decide +kernel, rfl⟩
theorem dX2_numberAt_18 : dec cX2_numberAt 18 (.invokestatic 45) 3 21 := ⟨by decide +kernel, rfl⟩
theorem dX2_numberAt_21 : decJ cX2_numberAt 21 (.ifCond .eq) 3 24 45 := ⟨24, by decide +kernel, rfl, rfl⟩
theorem dX2_numberAt_24 : dec cX2_numberAt 24 (.bipush 10) 2 26 := ⟨by decide +kernel, rfl⟩
theorem dX2_numberAt_26 : dec cX2_numberAt 26 (.iload 4) 2 28 := ⟨by decide +kernel, rfl⟩
theorem dX2_numberAt_28 : dec cX2_numberAt 28 .imul 1 29 := ⟨by decide +kernel, rfl⟩
theorem dX2_numberAt_29 : dec cX2_numberAt 29 (.aload_n 0) 1 30 := ⟨by decide +kernel, rfl⟩
theorem dX2_numberAt_30 : dec cX2_numberAt 30 (.iload 5) 2 32 := ⟨by decide +kernel, rfl⟩
theorem dX2_numberAt_32 : dec cX2_numberAt 32 .caload 1 33 := ⟨by decide +kernel, rfl⟩
theorem dX2_numberAt_33 : dec cX2_numberAt 33 (.bipush 48) 2 35 := ⟨by decide +kernel, rfl⟩
theorem dX2_numberAt_35 : dec cX2_numberAt 35 .isub 1 36 := ⟨by decide +kernel, rfl⟩
theorem dX2_numberAt_36 : dec cX2_numberAt 36 .iadd 1 37 := ⟨by decide +kernel, rfl⟩
theorem dX2_numberAt_37 : dec cX2_numberAt 37 (.istore 4) 2 39 := ⟨by decide +kernel, rfl⟩
theorem dX2_numberAt_39 : dec cX2_numberAt 39 (.iinc 5 1) 3 42 := ⟨by decide +kernel, rfl⟩
theorem dX2_numberAt_42 : decJ cX2_numberAt 42 .goto 3 45 6 := ⟨-36, by decide +kernel, rfl, rfl⟩
theorem dX2_numberAt_45 : dec cX2_numberAt 45 (.iload 4) 2 47 := ⟨by decide +kernel, rfl⟩
theorem dX2_numberAt_47 : dec cX2_numberAt 47 .ireturn 1 48 := ⟨by decide +kernel, rfl⟩
theorem dX2_takes_0 : dec cX2_takes 0 (.iload_n 1) 1 1 := ⟨by decide +kernel, rfl⟩
theorem dX2_takes_1 : dec cX2_takes 1 (.bipush 116) 2 3 := ⟨by decide +kernel, rfl⟩
theorem dX2_takes_3 : decJ cX2_takes 3 (.if_icmp .ne) 3 6 35 := ⟨32, by decide +kernel, rfl, rfl⟩
theorem dX2_takes_6 : dec cX2_takes 6 (.aload_n 2) 1 7 := ⟨by decide +kernel, rfl⟩
theorem dX2_takes_7 : dec cX2_takes 7 (.aload_n 0) 1 8 := ⟨by decide +kernel, rfl⟩
theorem dX2_takes_8 : dec cX2_takes 8 (.getfield 11) 3 11 := ⟨by decide +kernel, rfl⟩
theorem dX2_takes_11 : dec cX2_takes 11 (.iconst 0) 1 12 := ⟨by decide +kernel, rfl⟩
theorem dX2_takes_12 : dec cX2_takes 12 .iaload 1 13 := ⟨by decide +kernel, rfl⟩
theorem dX2_takes_13 : dec cX2_takes 13 (.aload_n 0) 1 14 := ⟨by decide +kernel, rfl⟩
theorem dX2_takes_14 : dec cX2_takes 14 (.getfield 11) 3 17 := ⟨by decide +kernel, rfl⟩
theorem dX2_takes_17 : dec cX2_takes 17 (.iconst 1) 1 18 := ⟨by decide +kernel, rfl⟩
theorem dX2_takes_18 : dec cX2_takes 18 .iaload 1 19 := ⟨by decide +kernel, rfl⟩
theorem dX2_takes_19 : dec cX2_takes 19 (.aload_n 0) 1 20 := ⟨by decide +kernel, rfl⟩
theorem dX2_takes_20 : dec cX2_takes 20 (.getfield 11) 3 23 := ⟨by decide +kernel, rfl⟩
theorem dX2_takes_23 : dec cX2_takes 23 (.iconst 2) 1 24 := ⟨by decide +kernel, rfl⟩
theorem dX2_takes_24 : dec cX2_takes 24 .iaload 1 25 := ⟨by decide +kernel, rfl⟩
theorem dX2_takes_25 : dec cX2_takes 25 (.aload_n 0) 1 26 := ⟨by decide +kernel, rfl⟩
theorem dX2_takes_26 : dec cX2_takes 26 (.getfield 11) 3 29 := ⟨by decide +kernel, rfl⟩
theorem dX2_takes_29 : dec cX2_takes 29 (.iconst 3) 1 30 := ⟨by decide +kernel, rfl⟩
theorem dX2_takes_30 : dec cX2_takes 30 .iaload 1 31 := ⟨by decide +kernel, rfl⟩
theorem dX2_takes_31 : dec cX2_takes 31 (.invokevirtual 49) 3 34 := ⟨by decide +kernel, rfl⟩
theorem dX2_takes_34 : dec cX2_takes 34 .ireturn 1 35 := ⟨by decide +kernel, rfl⟩
theorem dX2_takes_35 : dec cX2_takes 35 (.iload_n 1) 1 36 := ⟨by decide +kernel, rfl⟩
theorem dX2_takes_36 : dec cX2_takes 36 (.bipush 99) 2 38 := ⟨by decide +kernel, rfl⟩
theorem dX2_takes_38 : decJ cX2_takes 38 (.if_icmp .ne) 3 41 58 := ⟨20, by decide +kernel, rfl, rfl⟩
theorem dX2_takes_41 : dec cX2_takes 41 (.aload_n 2) 1 42 := ⟨by decide +kernel, rfl⟩
theorem dX2_takes_42 : dec cX2_takes 42 (.aload_n 0) 1 43 := ⟨by decide +kernel, rfl⟩
theorem dX2_takes_43 : dec cX2_takes 43 (.getfield 11) 3 46 := ⟨by decide +kernel, rfl⟩
theorem dX2_takes_46 : dec cX2_takes 46 (.iconst 0) 1 47 := ⟨by decide +kernel, rfl⟩
theorem dX2_takes_47 : dec cX2_takes 47 .iaload 1 48 := ⟨by decide +kernel, rfl⟩
theorem dX2_takes_48 : dec cX2_takes 48 (.aload_n 0) 1 49 := ⟨by decide +kernel, rfl⟩
theorem dX2_takes_49 : dec cX2_takes 49 (.getfield 11) 3 52 := ⟨by decide +kernel, rfl⟩
theorem dX2_takes_52 : dec cX2_takes 52 (.iconst 1) 1 53 := ⟨by decide +kernel, rfl⟩
theorem dX2_takes_53 : dec cX2_takes 53 .iaload 1 54 := ⟨by decide +kernel, rfl⟩
theorem dX2_takes_54 : dec cX2_takes 54 (.invokevirtual 53) 3 57 := ⟨by decide +kernel, rfl⟩
theorem dX2_takes_57 : dec cX2_takes 57 .ireturn 1 58 := ⟨by decide +kernel, rfl⟩
theorem dX2_takes_58 : dec cX2_takes 58 (.iload_n 1) 1 59 := ⟨by decide +kernel, rfl⟩
theorem dX2_takes_59 : dec cX2_takes 59 (.bipush 119) 2 61 := ⟨by decide +kernel, rfl⟩
theorem dX2_takes_61 : decJ cX2_takes 61 (.if_icmp .ne) 3 64 81 := ⟨20, by decide +kernel, rfl, rfl⟩
theorem dX2_takes_64 : dec cX2_takes 64 (.aload_n 2) 1 65 := ⟨by decide +kernel, rfl⟩
theorem dX2_takes_65 : dec cX2_takes 65 (.aload_n 0) 1 66 := ⟨by decide +kernel, rfl⟩
theorem dX2_takes_66 : dec cX2_takes 66 (.getfield 11) 3 69 := ⟨by decide +kernel, rfl⟩
theorem dX2_takes_69 : dec cX2_takes 69 (.iconst 0) 1 70 := ⟨by decide +kernel, rfl⟩
theorem dX2_takes_70 : dec cX2_takes 70 .iaload 1 71 := ⟨by decide +kernel, rfl⟩
theorem dX2_takes_71 : dec cX2_takes 71 (.aload_n 0) 1 72 := ⟨by decide +kernel, rfl⟩
theorem dX2_takes_72 : dec cX2_takes 72 (.getfield 11) 3 75 := ⟨by decide +kernel, rfl⟩
theorem dX2_takes_75 : dec cX2_takes 75 (.iconst 1) 1 76 := ⟨by decide +kernel, rfl⟩
theorem dX2_takes_76 : dec cX2_takes 76 .iaload 1 77 := ⟨by decide +kernel, rfl⟩
theorem dX2_takes_77 : dec cX2_takes 77 (.invokevirtual 57) 3 80 := ⟨by decide +kernel, rfl⟩
theorem dX2_takes_80 : dec cX2_takes 80 .ireturn 1 81 := ⟨by decide +kernel, rfl⟩
theorem dX2_takes_81 : dec cX2_takes 81 (.iload_n 1) 1 82 := ⟨by decide +kernel, rfl⟩
theorem dX2_takes_82 : dec cX2_takes 82 (.bipush 98) 2 84 := ⟨by decide +kernel, rfl⟩
theorem dX2_takes_84 : decJ cX2_takes 84 (.if_icmp .ne) 3 87 104 := ⟨20, by decide +kernel, rfl, rfl⟩
theorem dX2_takes_87 : dec cX2_takes 87 (.aload_n 2) 1 88 := ⟨by decide +kernel, rfl⟩
theorem dX2_takes_88 : dec cX2_takes 88 (.aload_n 0) 1 89 := ⟨by decide +kernel, rfl⟩
theorem dX2_takes_89 : dec cX2_takes 89 (.getfield 11) 3 92 := ⟨by decide +kernel, rfl⟩
theorem dX2_takes_92 : dec cX2_takes 92 (.iconst 0) 1 93 := ⟨by decide +kernel, rfl⟩
theorem dX2_takes_93 : dec cX2_takes 93 .iaload 1 94 := ⟨by decide +kernel, rfl⟩
theorem dX2_takes_94 : dec cX2_takes 94 (.invokevirtual 60) 3 97 := ⟨by decide +kernel, rfl⟩
theorem dX2_takes_97 : decJ cX2_takes 97 (.ifCond .eq) 3 100 104 := ⟨7, by decide +kernel, rfl, rfl⟩
theorem dX2_takes_100 : dec cX2_takes 100 (.iconst 1) 1 101 := ⟨by decide +kernel, rfl⟩
theorem dX2_takes_101 : decJ cX2_takes 101 .goto 3 104 105 := ⟨4, by decide +kernel, rfl, rfl⟩
theorem dX2_takes_104 : dec cX2_takes 104 (.iconst 0) 1 105 := ⟨by decide +kernel, rfl⟩
theorem dX2_takes_105 : dec cX2_takes 105 .ireturn 1 106 := ⟨by decide +kernel, rfl⟩
theorem dX4_init_0 : dec cX4_init 0 (.aload_n 0) 1 1 := ⟨by decide +kernel, rfl⟩
theorem dX4_init_1 : dec cX4_init 1 (.invokespecial 1) 3 4 := ⟨by decide +kernel, rfl⟩
theorem dX4_init_4 : dec cX4_init 4 (.aload_n 0) 1 5 := ⟨by decide +kernel, rfl⟩
theorem dX4_init_5 : dec cX4_init 5 (.iconst 1) 1 6 := ⟨by decide +kernel, rfl⟩
theorem dX4_init_6 : dec cX4_init 6 (.iload_n 1) 1 7 := ⟨by decide +kernel, rfl⟩
theorem dX4_init_7 : dec cX4_init 7 (.invokestatic 7) 3 10 := ⟨by decide +kernel, rfl⟩
theorem dX4_init_10 : dec cX4_init 10 (.anewarray 13) 3 13 := ⟨by decide +kernel, rfl⟩
theorem dX4_init_13 : dec cX4_init 13 (.putfield 15) 3 16 := ⟨by decide +kernel, rfl⟩
theorem dX4_init_16 : dec cX4_init 16 (.iconst 0) 1 17 := ⟨by decide +kernel, rfl⟩
theorem dX4_init_17 : dec cX4_init 17 (.istore_n 2) 1 18 := ⟨by decide +kernel, rfl⟩
theorem dX4_init_18 : dec cX4_init 18 (.iload_n 2) 1 19 := ⟨by decide +kernel, rfl⟩
theorem dX4_init_19 : dec cX4_init 19 (.aload_n 0) 1 20 := ⟨by decide +kernel, rfl⟩
theorem dX4_init_20 : dec cX4_init 20 (.getfield 15) 3 23 := ⟨by decide +kernel, rfl⟩
theorem dX4_init_23 : dec cX4_init 23 .arraylength 1 24 := ⟨by decide +kernel, rfl⟩
theorem dX4_init_24 : decJ cX4_init 24 (.if_icmp .ge) 3 27 46 := ⟨22, by decide +kernel, rfl, rfl⟩
theorem dX4_init_27 : dec cX4_init 27 (.aload_n 0) 1 28 := ⟨by decide +kernel, rfl⟩
theorem dX4_init_28 : dec cX4_init 28 (.getfield 15) 3 31 := ⟨by decide +kernel, rfl⟩
theorem dX4_init_31 : dec cX4_init 31 (.iload_n 2) 1 32 := ⟨by decide +kernel, rfl⟩
theorem dX4_init_32 : dec cX4_init 32 (.new 13) 3 35 := ⟨by decide +kernel, rfl⟩
theorem dX4_init_35 : dec cX4_init 35 .dup 1 36 := ⟨by decide +kernel, rfl⟩
theorem dX4_init_36 : dec cX4_init 36 (.invokespecial 21) 3 39 := ⟨by decide +kernel, rfl⟩
theorem dX4_init_39 : dec cX4_init 39 .aastore 1 40 := ⟨by decide +kernel, rfl⟩
theorem dX4_init_40 : dec cX4_init 40 (.iinc 2 1) 3 43 := ⟨by decide +kernel, rfl⟩
theorem dX4_init_43 : decJ cX4_init 43 .goto 3 46 18 := ⟨-25, by decide +kernel, rfl, rfl⟩
theorem dX4_init_46 : dec cX4_init 46 .return_ 1 47 := ⟨by decide +kernel, rfl⟩
theorem dX4_put_0 : dec cX4_put 0 (.aload_n 0) 1 1 := ⟨by decide +kernel, rfl⟩
theorem dX4_put_1 : dec cX4_put 1 (.getfield 22) 3 4 := ⟨by decide +kernel, rfl⟩
theorem dX4_put_4 : dec cX4_put 4 (.aload_n 0) 1 5 := ⟨by decide +kernel, rfl⟩
theorem dX4_put_5 : dec cX4_put 5 (.getfield 15) 3 8 := ⟨by decide +kernel, rfl⟩
theorem dX4_put_8 : dec cX4_put 8 .arraylength 1 9 := ⟨by decide +kernel, rfl⟩
theorem dX4_put_9 : decJ cX4_put 9 (.if_icmp .lt) 3 12 16 := ⟨7, by decide +kernel, rfl, rfl⟩
theorem dX4_put_12 : dec cX4_put 12 (.aload_n 0) 1 13 := ⟨by decide +kernel, rfl⟩
theorem dX4_put_13 : dec cX4_put 13 (.invokevirtual 26) 3 16 := ⟨by decide +kernel, rfl⟩
theorem dX4_put_16 : dec cX4_put 16 (.aload_n 0) 1 17 := ⟨by decide +kernel, rfl⟩
theorem dX4_put_17 : dec cX4_put 17 (.getfield 22) 3 20 := ⟨by decide +kernel, rfl⟩
theorem dX4_put_20 : decJ cX4_put 20 (.ifCond .lt) 3 23 58 := ⟨38, by decide +kernel, rfl, rfl⟩
theorem dX4_put_23 : dec cX4_put 23 (.aload_n 0) 1 24 := ⟨by decide +kernel, rfl⟩
theorem dX4_put_24 : dec cX4_put 24 (.getfield 22) 3 27 := ⟨by decide +kernel, rfl⟩
theorem dX4_put_27 : dec cX4_put 27 (.aload_n 0) 1 28 := ⟨by decide +kernel, rfl⟩
theorem dX4_put_28 : dec cX4_put 28 (.getfield 15) 3 31 := ⟨by decide +kernel, rfl⟩
theorem dX4_put_31 : dec cX4_put 31 .arraylength 1 32 := ⟨by decide +kernel, rfl⟩
theorem dX4_put_32 : decJ cX4_put 32 (.if_icmp .ge) 3 35 58 := ⟨26, by decide +kernel, rfl, rfl⟩
theorem dX4_put_35 : dec cX4_put 35 (.aload_n 0) 1 36 := ⟨by decide +kernel, rfl⟩
theorem dX4_put_36 : dec cX4_put 36 (.getfield 15) 3 39 := ⟨by decide +kernel, rfl⟩
theorem dX4_put_39 : dec cX4_put 39 (.aload_n 0) 1 40 := ⟨by decide +kernel, rfl⟩
theorem dX4_put_40 : dec cX4_put 40 (.getfield 22) 3 43 := ⟨by decide +kernel, rfl⟩
theorem dX4_put_43 : dec cX4_put 43 .aaload 1 44 := ⟨by decide +kernel, rfl⟩
theorem dX4_put_44 : dec cX4_put 44 (.aload_n 1) 1 45 := ⟨by decide +kernel, rfl⟩
theorem dX4_put_45 : dec cX4_put 45 (.invokevirtual 29) 3 48 := ⟨by decide +kernel, rfl⟩
theorem dX4_put_48 : dec cX4_put 48 (.aload_n 0) 1 49 := ⟨by decide +kernel, rfl⟩
theorem dX4_put_49 : dec cX4_put 49 .dup 1 50 := ⟨by decide +kernel, rfl⟩
theorem dX4_put_50 : dec cX4_put 50 (.getfield 22) 3 53 := ⟨by decide +kernel, rfl⟩
theorem dX4_put_53 : dec cX4_put 53 (.iconst 1) 1 54 := ⟨by decide +kernel, rfl⟩
theorem dX4_put_54 : dec cX4_put 54 .iadd 1 55 := ⟨by decide +kernel, rfl⟩
theorem dX4_put_55 : dec cX4_put 55 (.putfield 22) 3 58 := ⟨by decide +kernel, rfl⟩
theorem dX4_put_58 : dec cX4_put 58 .return_ 1 59 := ⟨by decide +kernel, rfl⟩
theorem dX4_dropOldest_0 : dec cX4_dropOldest 0 (.aload_n 0) 1 1 := ⟨by decide +kernel, rfl⟩
theorem dX4_dropOldest_1 : dec cX4_dropOldest 1 (.getfield 15) 3 4 := ⟨by decide +kernel, rfl⟩
theorem dX4_dropOldest_4 : dec cX4_dropOldest 4 (.iconst 0) 1 5 := ⟨by decide +kernel, rfl⟩
theorem dX4_dropOldest_5 : dec cX4_dropOldest 5 .aaload 1 6 := ⟨by decide +kernel, rfl⟩
theorem dX4_dropOldest_6 : dec cX4_dropOldest 6 (.astore_n 1) 1 7 := ⟨by decide +kernel, rfl⟩
theorem dX4_dropOldest_7 : dec cX4_dropOldest 7 (.iconst 1) 1 8 := ⟨by decide +kernel, rfl⟩
theorem dX4_dropOldest_8 : dec cX4_dropOldest 8 (.istore_n 2) 1 9 := ⟨by decide +kernel, rfl⟩
theorem dX4_dropOldest_9 : dec cX4_dropOldest 9 (.iload_n 2) 1 10 := ⟨by decide +kernel, rfl⟩
theorem dX4_dropOldest_10 : dec cX4_dropOldest 10 (.aload_n 0) 1 11 := ⟨by decide +kernel, rfl⟩
theorem dX4_dropOldest_11 : dec cX4_dropOldest 11 (.getfield 15) 3 14 := ⟨by decide +kernel, rfl⟩
theorem dX4_dropOldest_14 : dec cX4_dropOldest 14 .arraylength 1 15 := ⟨by decide +kernel, rfl⟩
theorem dX4_dropOldest_15 : decJ cX4_dropOldest 15 (.if_icmp .ge) 3 18 38 := ⟨23, by decide +kernel, rfl, rfl⟩
theorem dX4_dropOldest_18 : dec cX4_dropOldest 18 (.aload_n 0) 1 19 := ⟨by decide +kernel, rfl⟩
theorem dX4_dropOldest_19 : dec cX4_dropOldest 19 (.getfield 15) 3 22 := ⟨by decide +kernel, rfl⟩
theorem dX4_dropOldest_22 : dec cX4_dropOldest 22 (.iload_n 2) 1 23 := ⟨by decide +kernel, rfl⟩
theorem dX4_dropOldest_23 : dec cX4_dropOldest 23 (.iconst 1) 1 24 := ⟨by decide +kernel, rfl⟩
theorem dX4_dropOldest_24 : dec cX4_dropOldest 24 .isub 1 25 := ⟨by decide +kernel, rfl⟩
theorem dX4_dropOldest_25 : dec cX4_dropOldest 25 (.aload_n 0) 1 26 := ⟨by decide +kernel, rfl⟩
theorem dX4_dropOldest_26 : dec cX4_dropOldest 26 (.getfield 15) 3 29 := ⟨by decide +kernel, rfl⟩
theorem dX4_dropOldest_29 : dec cX4_dropOldest 29 (.iload_n 2) 1 30 := ⟨by decide +kernel, rfl⟩
theorem dX4_dropOldest_30 : dec cX4_dropOldest 30 .aaload 1 31 := ⟨by decide +kernel, rfl⟩
theorem dX4_dropOldest_31 : dec cX4_dropOldest 31 .aastore 1 32 := ⟨by decide +kernel, rfl⟩
theorem dX4_dropOldest_32 : dec cX4_dropOldest 32 (.iinc 2 1) 3 35 := ⟨by decide +kernel, rfl⟩
theorem dX4_dropOldest_35 : decJ cX4_dropOldest 35 .goto 3 38 9 := ⟨-26, by decide +kernel, rfl, rfl⟩
theorem dX4_dropOldest_38 : dec cX4_dropOldest 38 (.aload_n 0) 1 39 := ⟨by decide +kernel, rfl⟩
theorem dX4_dropOldest_39 : dec cX4_dropOldest 39 (.getfield 15) 3 42 := ⟨by decide +kernel, rfl⟩
theorem dX4_dropOldest_42 : dec cX4_dropOldest 42 (.aload_n 0) 1 43 := ⟨by decide +kernel, rfl⟩
theorem dX4_dropOldest_43 : dec cX4_dropOldest 43 (.getfield 15) 3 46 := ⟨by decide +kernel, rfl⟩
theorem dX4_dropOldest_46 : dec cX4_dropOldest 46 .arraylength 1 47 := ⟨by decide +kernel, rfl⟩
theorem dX4_dropOldest_47 : dec cX4_dropOldest 47 (.iconst 1) 1 48 := ⟨by decide +kernel, rfl⟩
theorem dX4_dropOldest_48 : dec cX4_dropOldest 48 .isub 1 49 := ⟨by decide +kernel, rfl⟩
theorem dX4_dropOldest_49 : dec cX4_dropOldest 49 (.aload_n 1) 1 50 := ⟨by decide +kernel, rfl⟩
theorem dX4_dropOldest_50 : dec cX4_dropOldest 50 .aastore 1 51 := ⟨by decide +kernel, rfl⟩
theorem dX4_dropOldest_51 : dec cX4_dropOldest 51 (.aload_n 0) 1 52 := ⟨by decide +kernel, rfl⟩
theorem dX4_dropOldest_52 : dec cX4_dropOldest 52 (.aload_n 0) 1 53 := ⟨by decide +kernel, rfl⟩
theorem dX4_dropOldest_53 : dec cX4_dropOldest 53 (.getfield 15) 3 56 := ⟨by decide +kernel, rfl⟩
theorem dX4_dropOldest_56 : dec cX4_dropOldest 56 .arraylength 1 57 := ⟨by decide +kernel, rfl⟩
theorem dX4_dropOldest_57 : dec cX4_dropOldest 57 (.iconst 1) 1 58 := ⟨by decide +kernel, rfl⟩
theorem dX4_dropOldest_58 : dec cX4_dropOldest 58 .isub 1 59 := ⟨by decide +kernel, rfl⟩
theorem dX4_dropOldest_59 : dec cX4_dropOldest 59 (.putfield 22) 3 62 := ⟨by decide +kernel, rfl⟩
theorem dX4_dropOldest_62 : dec cX4_dropOldest 62 .return_ 1 63 := ⟨by decide +kernel, rfl⟩
theorem dX4_takeInto_0 : dec cX4_takeInto 0 (.aload_n 0) 1 1 := ⟨by decide +kernel, rfl⟩
theorem dX4_takeInto_1 : dec cX4_takeInto 1 (.getfield 22) 3 4 := ⟨by decide +kernel, rfl⟩
theorem dX4_takeInto_4 : decJ cX4_takeInto 4 (.ifCond .le) 3 7 42 := ⟨38, by decide +kernel, rfl, rfl⟩
theorem dX4_takeInto_7 : dec cX4_takeInto 7 (.aload_n 0) 1 8 := ⟨by decide +kernel, rfl⟩
theorem dX4_takeInto_8 : dec cX4_takeInto 8 (.getfield 22) 3 11 := ⟨by decide +kernel, rfl⟩
theorem dX4_takeInto_11 : dec cX4_takeInto 11 (.aload_n 0) 1 12 := ⟨by decide +kernel, rfl⟩
theorem dX4_takeInto_12 : dec cX4_takeInto 12 (.getfield 15) 3 15 := ⟨by decide +kernel, rfl⟩
theorem dX4_takeInto_15 : dec cX4_takeInto 15 .arraylength 1 16 := ⟨by decide +kernel, rfl⟩
theorem dX4_takeInto_16 : decJ cX4_takeInto 16 (.if_icmp .gt) 3 19 42 := ⟨26, by decide +kernel, rfl, rfl⟩
theorem dX4_takeInto_19 : dec cX4_takeInto 19 (.aload_n 0) 1 20 := ⟨by decide +kernel, rfl⟩
theorem dX4_takeInto_20 : dec cX4_takeInto 20 .dup 1 21 := ⟨by decide +kernel, rfl⟩
theorem dX4_takeInto_21 : dec cX4_takeInto 21 (.getfield 22) 3 24 := ⟨by decide +kernel, rfl⟩
theorem dX4_takeInto_24 : dec cX4_takeInto 24 (.iconst 1) 1 25 := ⟨by decide +kernel, rfl⟩
theorem dX4_takeInto_25 : dec cX4_takeInto 25 .isub 1 26 := ⟨by decide +kernel, rfl⟩
theorem dX4_takeInto_26 : dec cX4_takeInto 26 (.putfield 22) 3 29 := ⟨by decide +kernel, rfl⟩
theorem dX4_takeInto_29 : dec cX4_takeInto 29 (.aload_n 1) 1 30 := ⟨by decide +kernel, rfl⟩
theorem dX4_takeInto_30 : dec cX4_takeInto 30 (.aload_n 0) 1 31 := ⟨by decide +kernel, rfl⟩
theorem dX4_takeInto_31 : dec cX4_takeInto 31 (.getfield 15) 3 34 := ⟨by decide +kernel, rfl⟩
theorem dX4_takeInto_34 : dec cX4_takeInto 34 (.aload_n 0) 1 35 := ⟨by decide +kernel, rfl⟩
theorem dX4_takeInto_35 : dec cX4_takeInto 35 (.getfield 22) 3 38 := ⟨by decide +kernel, rfl⟩
theorem dX4_takeInto_38 : dec cX4_takeInto 38 .aaload 1 39 := ⟨by decide +kernel, rfl⟩
theorem dX4_takeInto_39 : dec cX4_takeInto 39 (.invokevirtual 29) 3 42 := ⟨by decide +kernel, rfl⟩
theorem dX4_takeInto_42 : dec cX4_takeInto 42 .return_ 1 43 := ⟨by decide +kernel, rfl⟩
def d_X1_add (R_f : Nat → Nat → Int32) (t : Int32) (spring : Int32) (silver : Int32) : Int32 × (Nat → Nat → Int32) :=
  if (R_f 0 3) < 0 then
    ((0 : Int32), R_f)
  else
    if (R_f 0 3) < (6 : Int32) then
      ((1 : Int32), (pt (pt (pt (pt R_f 1 ((R_f 0 3).toNatClampNeg) t) 2 ((R_f 0 3).toNatClampNeg) spring) 3 ((R_f 0 3).toNatClampNeg) silver) 0 3 ((R_f 0 3) + (1 : Int32))))
    else
      ((0 : Int32), R_f)
set_option maxHeartbeats 4000000 in
set_option maxRecDepth 100000 in
theorem c_X1_add (l : Launch) (D : DD) (o_f : Nat) (R_f : Nat → Nat → Int32) (t : Int32) (spring : Int32) (silver : Int32)  (res : Int32 × (Nat → Nat → Int32)) (hres : res = d_X1_add R_f t spring silver) : Mt l D yX1_add cX1_add 4 (some .boolean) 0 0 0 0 [.ref o_f, .int t, .int spring, .int silver] (fun H => blk D ksFinds o_f R_f H) (fun v H => v = some (.int res.1) ∧ bl res.1 ∧ blk D ksFinds o_f res.2 H) (fp1 o_f 4) := by
  refine mt_of (own := RX1) (ls := [.val (.ref o_f), .val (.int t), .val (.int spring), .val (.int silver)]) rfl (by decide +kernel) rfl ?_
  intro x H C hP
  have hb_f := hP
  refine r_aload_n C dX1_add_0 rfl ?_
  refine r_get C hb_f (k := 0) rfl rfl celO_1 fw_X1_21 (z := .int (R_f 0 3)) rfl dX1_add_1 ?_
  refine r_if_lt C dX1_add_4 (fun c1 => ?_) (fun c1 => ?_)
  · skip
    refine r_iconst C dX1_add_16 (0 : Int32) (by decide) ?_
    refine r_zret C dX1_add_17 (Or.inl rfl) ?_
    have er : res = ((0 : Int32), R_f) := by rw [hres, d_X1_add]; try exact (if_pos c1).trans (rfl)
    rw [er]
    exact ⟨rfl, (Or.inl rfl), hb_f⟩
  · skip
    refine r_aload_n C dX1_add_7 rfl ?_
    refine r_get C hb_f (k := 0) rfl rfl celO_1 fw_X1_21 (z := .int (R_f 0 3)) rfl dX1_add_8 ?_
    refine r_bipush C dX1_add_11 (6 : Int32) (by decide) ?_
    refine r_ic_lt C dX1_add_13 (fun c2 => ?_) (fun c2 => ?_)
    · skip
      refine r_aload_n C dX1_add_18 rfl ?_
      refine r_get C hb_f (k := 0) rfl rfl celO_1 fw_X1_9 rfl dX1_add_19 ?_
      refine r_aload_n C dX1_add_22 rfl ?_
      refine r_get C hb_f (k := 0) rfl rfl celO_1 fw_X1_21 (z := .int (R_f 0 3)) rfl dX1_add_23 ?_
      refine r_iload_n C dX1_add_26 rfl ?_
      refine r_iast C hb_f (k := 1) rfl rfl (by unfold fp1; omega) (vp_in_lh (x_lo1 c1) (x_hi2 (N := 6) c2 (by omega)) (by omega)) (j := (R_f 0 3).toNatClampNeg) rfl dX1_add_27 (fun H3 hb5 hq4 => ?_)
      refine r_aload_n C dX1_add_28 rfl ?_
      refine r_get C hb5 (k := 0) rfl rfl celO_1 fw_X1_15 rfl dX1_add_29 ?_
      refine r_aload_n C dX1_add_32 rfl ?_
      refine r_get C hb5 (k := 0) rfl rfl celO_1 fw_X1_21 (z := .int (R_f 0 3)) rfl dX1_add_33 ?_
      refine r_iload_n C dX1_add_36 rfl ?_
      refine r_iast C hb5 (k := 2) rfl rfl (by unfold fp1; omega) (vp_in_lh (x_lo1 c1) (x_hi2 (N := 6) c2 (by omega)) (by omega)) (j := (R_f 0 3).toNatClampNeg) rfl dX1_add_37 (fun H6 hb8 hq7 => ?_)
      refine r_aload_n C dX1_add_38 rfl ?_
      refine r_get C hb8 (k := 0) rfl rfl celO_1 fw_X1_18 rfl dX1_add_39 ?_
      refine r_aload_n C dX1_add_42 rfl ?_
      refine r_get C hb8 (k := 0) rfl rfl celO_1 fw_X1_21 (z := .int (R_f 0 3)) rfl dX1_add_43 ?_
      refine r_iload_n C dX1_add_46 rfl ?_
      refine r_iast C hb8 (k := 3) rfl rfl (by unfold fp1; omega) (vp_in_lh (x_lo1 c1) (x_hi2 (N := 6) c2 (by omega)) (by omega)) (j := (R_f 0 3).toNatClampNeg) rfl dX1_add_47 (fun H9 hb11 hq10 => ?_)
      refine r_aload_n C dX1_add_48 rfl ?_
      refine r_dup C dX1_add_49 rfl ?_
      refine r_get C hb11 (k := 0) rfl rfl celO_1 fw_X1_21 (z := .int (R_f 0 3)) rfl dX1_add_50 ?_
      refine r_iconst C dX1_add_53 (1 : Int32) (by decide) ?_
      refine r_iadd C dX1_add_54 ?_
      refine r_put C hb11 (k := 0) rfl rfl (by unfold fp1; omega) fw_X1_21 fp_1_3 (Or.inr rfl) dX1_add_55 (fun H12 hb14 hq13 => ?_)
      refine r_iconst C dX1_add_58 (1 : Int32) (by decide) ?_
      refine r_zret C dX1_add_59 (Or.inr rfl) ?_
      have er : res = ((1 : Int32), (pt (pt (pt (pt R_f 1 ((R_f 0 3).toNatClampNeg) t) 2 ((R_f 0 3).toNatClampNeg) spring) 3 ((R_f 0 3).toNatClampNeg) silver) 0 3 ((R_f 0 3) + (1 : Int32)))) := by rw [hres, d_X1_add]; try exact (if_neg c1).trans ((if_pos c2).trans (rfl))
      rw [er]
      exact ⟨rfl, (Or.inr rfl), hb14⟩
    · skip
      refine r_iconst C dX1_add_16 (0 : Int32) (by decide) ?_
      refine r_zret C dX1_add_17 (Or.inl rfl) ?_
      have er : res = ((0 : Int32), R_f) := by rw [hres, d_X1_add]; try exact (if_neg c1).trans ((if_neg c2).trans (rfl))
      rw [er]
      exact ⟨rfl, (Or.inl rfl), hb_f⟩

def d_X1_lastSpring_L4 (R_f : Nat → Nat → Int32) : Nat → Int32 → Nat → Int32
  | 0, last, _ => last
  | n1 + 1, last, i =>
    if (R_f 0 3) ≤ (nI i) then
      last
    else
      if (6 : Int32) ≤ (nI i) then
        last
      else
        d_X1_lastSpring_L4 R_f n1 (imax last (R_f 2 i)) (i + 1)
def d_X1_lastSpring (R_f : Nat → Nat → Int32) : Int32 :=
  lt (d_X1_lastSpring_L4 R_f 7 (0 : Int32) 0) fun s16 =>
  s16
set_option maxHeartbeats 4000000 in
set_option maxRecDepth 100000 in
theorem c_X1_lastSpring (l : Launch) (D : DD) (o_f : Nat) (R_f : Nat → Nat → Int32)  (res : Int32) (hres : res = d_X1_lastSpring R_f) : Mt l D yX1_lastSpring cX1_lastSpring 3 (some .int) 1 21 0 0 [.ref o_f] (fun H => blk D ksFinds o_f R_f H) (fun v H => v = some (.int res)) fp0 := by
  refine mt_of (own := RX1) (ls := [.val (.ref o_f), .unset, .unset]) rfl (by decide +kernel) rfl ?_
  intro x H C hP
  have hb_f := hP
  refine r_iconst C dX1_lastSpring_0 (0 : Int32) (by decide) ?_
  refine r_istore_n C dX1_lastSpring_1 (ls' := [.val (.ref o_f), .val (.int (0 : Int32)), .unset]) rfl trivial rfl ?_
  refine r_iconst C dX1_lastSpring_2 (0 : Int32) (by decide) ?_
  refine r_istore_n C dX1_lastSpring_3 (ls' := [.val (.ref o_f), .val (.int (0 : Int32)), .val (.int (0 : Int32))]) rfl trivial rfl ?_
  have d_X1_lastSpring_L4_w : ∀ (n1 : Nat) (last : Int32) (i : Nat) (H6 : Heap), True → (i ≤ 6) → (6 - i < n1) → blk D ksFinds o_f R_f H6 → ∀ s3 : Int32, s3 = d_X1_lastSpring_L4 R_f n1 last i → (∀ (H' : Heap) (z7 : Slot) (_ : slot1 z7), True → blk D ksFinds o_f R_f H' → WG x fp0 (Fin x (fun v H => v = some (.int res)) fp0 0 0) H' 0 0 35 [.val (.ref o_f), .val (.int s3), z7] []) → WG x fp0 (Fin x (fun v H => v = some (.int res)) fp0 0 0) H6 0 0 4 [.val (.ref o_f), .val (.int last), .val (.int (nI i))] [] := by
    intro n1
    induction n1 with
    | zero => intro last i H6  _ hi hm8; exact absurd hm8 (Nat.not_lt_zero _)
    | succ n1 ih2 =>
      intro last i H6  _ hi hm8 hb5 s3 hs3  kx4
      refine r_iload_n C dX1_lastSpring_4 rfl ?_
      refine r_aload_n C dX1_lastSpring_5 rfl ?_
      refine r_get C hb5 (k := 0) rfl rfl celO_1 fw_X1_21 (z := .int (R_f 0 3)) rfl dX1_lastSpring_6 ?_
      refine r_ic_ge C dX1_lastSpring_9 (fun c9 => ?_) (fun c9 => ?_)
      · skip
        have e10 : s3 = last := by rw [hs3, d_X1_lastSpring_L4]; try exact (if_pos c9).trans (rfl)
        rw [e10] at kx4
        exact kx4 _ (.val (.int (nI i))) rfl trivial  hb5
      · skip
        refine r_iload_n C dX1_lastSpring_12 rfl ?_
        refine r_bipush C dX1_lastSpring_13 (6 : Int32) (by decide) ?_
        refine r_ic_ge C dX1_lastSpring_15 (fun c11 => ?_) (fun c11 => ?_)
        · skip
          have f12 : (6 ≤ i) := nf_leI (by omega) (by omega) rfl rfl c11
          have e13 : s3 = last := by rw [hs3, d_X1_lastSpring_L4]; try exact (if_neg c9).trans ((if_pos c11).trans (rfl))
          rw [e13] at kx4
          exact kx4 _ (.val (.int (nI i))) rfl trivial  hb5
        · skip
          have f14 : ¬ (6 ≤ i) := nf_leIn (by omega) (by omega) rfl rfl c11
          refine r_iload_n C dX1_lastSpring_18 rfl ?_
          refine r_aload_n C dX1_lastSpring_19 rfl ?_
          refine r_get C hb5 (k := 0) rfl rfl celO_1 fw_X1_15 rfl dX1_lastSpring_20 ?_
          refine r_iload_n C dX1_lastSpring_23 rfl ?_
          refine r_iald C hb5 (k := 2) rfl rfl (vp_in_n rfl (by omega) (by omega)) (j := i) (cl_n rfl (by omega)) dX1_lastSpring_24 ?_
          refine r_mmax C mw_X1_25 rfl ⟨Nat.le_of_ble_eq_true rfl, Nat.le_of_ble_eq_true rfl, Nat.le_refl 0, Nat.le_refl 0⟩ dX1_lastSpring_25 ?_
          refine r_istore_n C dX1_lastSpring_28 (ls' := [.val (.ref o_f), .val (.int (imax last (R_f 2 i))), .val (.int (nI i))]) rfl rfl rfl ?_
          refine r_iinc C dX1_lastSpring_29 (nI (i + 1)) rfl (nI_inc i rfl) (ls' := [.val (.ref o_f), .val (.int (imax last (R_f 2 i))), .val (.int (nI (i + 1)))]) rfl ?_
          refine r_goto C dX1_lastSpring_32 ?_
          have e15 : s3 = d_X1_lastSpring_L4 R_f n1 (imax last (R_f 2 i)) (i + 1) := by rw [hs3, d_X1_lastSpring_L4]; try exact (if_neg c9).trans ((if_neg c11).trans (rfl))
          exact ih2 (imax last (R_f 2 i)) (i + 1) _  trivial (by omega) (by omega) hb5 s3 e15  kx4
  obtain ⟨s16, hs16⟩ : ∃ r, r = d_X1_lastSpring_L4 R_f 7 (0 : Int32) 0 := ⟨_, rfl⟩
  refine d_X1_lastSpring_L4_w 7 (0 : Int32) 0 _  trivial (by omega) (by omega) hb_f s16 hs16  (fun H18 z7 hz7 e19  hb17 => ?_)
  refine r_iload_n C dX1_lastSpring_35 rfl ?_
  refine r_iret C dX1_lastSpring_36 ?_
  have er : res = s16 := by rw [hres, d_X1_lastSpring]; try exact (lt_eq hs16).trans (rfl)
  rw [er]

def d_X1_agree_L2 (R_f : Nat → Nat → Int32) (R_r : Nat → Nat → Int32) (spring : Int32) : Nat → Nat → (Int32) ⊕ (Unit)
  | 0, _ => .inr ()
  | n1 + 1, i =>
    if (R_f 0 3) ≤ (nI i) then
      .inr ()
    else
      if (6 : Int32) ≤ (nI i) then
        .inr ()
      else
        oc (d_X3_townAt R_r (R_f 1 i)) (
          if (R_f 2 i) = spring then
            .inl (0 : Int32)
          else
            d_X1_agree_L2 R_f R_r spring n1 (i + 1)) fun k26 =>
        if (R_f 2 i) = spring then
          if (R_r (3 + k26) 3) = (R_f 3 i) then
            d_X1_agree_L2 R_f R_r spring n1 (i + 1)
          else
            .inl (0 : Int32)
        else
          d_X1_agree_L2 R_f R_r spring n1 (i + 1)
def d_X1_agree (R_f : Nat → Nat → Int32) (R_r : Nat → Nat → Int32) (spring : Int32) : Int32 :=
  sc (d_X1_agree_L2 R_f R_r spring 7 0) (fun r => r) fun w36 =>
  (1 : Int32)
set_option maxHeartbeats 4000000 in
set_option maxRecDepth 100000 in
theorem c_X1_agree (l : Launch) (D : DD) (o_f o_r : Nat) (R_f : Nat → Nat → Int32) (R_r : Nat → Nat → Int32) (spring : Int32)  (res : Int32) (hres : res = d_X1_agree R_f R_r spring) : Mt l D yX1_agree cX1_agree 5 (some .boolean) 1 21 0 0 [.ref o_f, .ref o_r, .int spring] (fun H => blk D ksFinds o_f R_f H ∧ blk D ksRiver o_r R_r H) (fun v H => v = some (.int res) ∧ bl res) fp0 := by
  refine mt_of (own := RX1) (ls := [.val (.ref o_f), .val (.ref o_r), .val (.int spring), .unset, .unset]) rfl (by decide +kernel) rfl ?_
  intro x H C hP
  obtain ⟨hb_f, hb_r⟩ := hP
  refine r_iconst C dX1_agree_0 (0 : Int32) (by decide) ?_
  refine r_istore_n C dX1_agree_1 (ls' := [.val (.ref o_f), .val (.ref o_r), .val (.int spring), .val (.int (0 : Int32)), .unset]) rfl trivial rfl ?_
  have d_X1_agree_L2_w : ∀ (n1 : Nat) (i : Nat) (H8 : Heap) (z5 : Slot) (_ : slot1 z5), True → (i ≤ 6) → (6 - i < n1) → blk D ksFinds o_f R_f H8 → blk D ksRiver o_r R_r H8 → ∀ s3 : (Int32) ⊕ (Unit), s3 = d_X1_agree_L2 R_f R_r spring n1 i → (∀ r, s3 = .inl r → res = r) → (∀ (w9 : Unit) (H' : Heap) (z10 : Slot) (_ : slot1 z10) (z11 : Slot) (_ : slot1 z11), s3 = .inr w9 → blk D ksFinds o_f R_f H' → blk D ksRiver o_r R_r H' → WG x fp0 (Fin x (fun v H => v = some (.int res) ∧ bl res) fp0 0 0) H' 0 0 65 [.val (.ref o_f), .val (.ref o_r), .val (.int spring), z10, z11] []) → WG x fp0 (Fin x (fun v H => v = some (.int res) ∧ bl res) fp0 0 0) H8 0 0 2 [.val (.ref o_f), .val (.ref o_r), .val (.int spring), .val (.int (nI i)), z5] [] := by
    intro n1
    induction n1 with
    | zero => intro i H8 z5 hz5 _ hi hm12; exact absurd hm12 (Nat.not_lt_zero _)
    | succ n1 ih2 =>
      intro i H8 z5 hz5 _ hi hm12 hb6 hb7 s3 hs3 hr13 kx4
      refine r_iload_n C dX1_agree_2 rfl ?_
      refine r_aload_n C dX1_agree_3 rfl ?_
      refine r_get C hb6 (k := 0) rfl rfl celO_1 fw_X1_21 (z := .int (R_f 0 3)) rfl dX1_agree_4 ?_
      refine r_ic_ge C dX1_agree_7 (fun c14 => ?_) (fun c14 => ?_)
      · skip
        have e15 : s3 = .inr () := by rw [hs3, d_X1_agree_L2]; try exact (if_pos c14).trans (rfl)
        exact kx4 () _ (.val (.int (nI i))) rfl z5 hz5 e15  hb6 hb7
      · skip
        refine r_iload_n C dX1_agree_10 rfl ?_
        refine r_bipush C dX1_agree_11 (6 : Int32) (by decide) ?_
        refine r_ic_ge C dX1_agree_13 (fun c16 => ?_) (fun c16 => ?_)
        · skip
          have f17 : (6 ≤ i) := nf_leI (by omega) (by omega) rfl rfl c16
          have e18 : s3 = .inr () := by rw [hs3, d_X1_agree_L2]; try exact (if_neg c14).trans ((if_pos c16).trans (rfl))
          exact kx4 () _ (.val (.int (nI i))) rfl z5 hz5 e18  hb6 hb7
        · skip
          have f19 : ¬ (6 ≤ i) := nf_leIn (by omega) (by omega) rfl rfl c16
          refine r_aload_n C dX1_agree_16 rfl ?_
          refine r_aload_n C dX1_agree_17 rfl ?_
          refine r_get C hb6 (k := 0) rfl rfl celO_1 fw_X1_9 rfl dX1_agree_18 ?_
          refine r_iload_n C dX1_agree_21 rfl ?_
          refine r_iald C hb6 (k := 1) rfl rfl (vp_in_n rfl (by omega) (by omega)) (j := i) (cl_n rfl (by omega)) dX1_agree_22 ?_
          obtain ⟨u20, hu20⟩ : ∃ r, r = d_X3_townAt R_r (R_f 1 i) := ⟨_, rfl⟩
          refine r_callV0 C cw_X1_31 (fun l => c_X3_townAt l D o_r R_r (R_f 1 i) u20 hu20) (rest := []) hb7 (k := 0) rfl rfl celO_3 hb7 (fun q h => h.elim) rfl rfl rfl (Nat.le_of_ble_eq_true rfl) ⟨Nat.le_of_ble_eq_true rfl, Nat.le_of_ble_eq_true rfl, Nat.le_refl 0, Nat.le_refl 0⟩ dX1_agree_23 (fun v H21 hp22 hq23 => ?_)
          subst hp22
          have hb24 := blk_kept hb6 (n := 4) rfl (fun q h1 h2 => hq23 q (fun h => h))
          have hb25 := blk_kept hb7 (n := 15) rfl (fun q h1 h2 => hq23 q (fun h => h))
          obtain ho27 | ⟨k26, ho27⟩ := opt_or u20
          · have hu20' : d_X3_townAt R_r (R_f 1 i) = none := by rw [← hu20, ho27]
            rw [ho27]; dsimp only [psh, optT, optC]
            refine r_astoreN C dX1_agree_26 (ls' := [.val (.ref o_f), .val (.ref o_r), .val (.int spring), .val (.int (nI i)), .val (.null)]) rfl hz5 rfl ?_
            refine r_aload_n C dX1_agree_28 rfl ?_
            refine r_get C hb24 (k := 0) rfl rfl celO_1 fw_X1_15 rfl dX1_agree_29 ?_
            refine r_iload_n C dX1_agree_32 rfl ?_
            refine r_iald C hb24 (k := 2) rfl rfl (vp_in_n rfl (by omega) (by omega)) (j := i) (cl_n rfl (by omega)) dX1_agree_33 ?_
            refine r_iload_n C dX1_agree_34 rfl ?_
            refine r_ic_ne C dX1_agree_35 (fun c28 => ?_) (fun c28 => ?_)
            · skip
              refine r_iinc C dX1_agree_59 (nI (i + 1)) rfl (nI_inc i rfl) (ls' := [.val (.ref o_f), .val (.ref o_r), .val (.int spring), .val (.int (nI (i + 1))), .val (.null)]) rfl ?_
              refine r_goto C dX1_agree_62 ?_
              have e29 : s3 = d_X1_agree_L2 R_f R_r spring n1 (i + 1) := by rw [hs3, d_X1_agree_L2]; try exact (if_neg c14).trans ((if_neg c16).trans ((oc_none hu20').trans ((if_neg c28).trans (rfl))))
              exact ih2 (i + 1) _ (.val (.null)) rfl trivial (by omega) (by omega) hb24 hb25 s3 e29 hr13 kx4
            · skip
              refine r_aloadN C dX1_agree_38 rfl ?_
              refine r_ifnullN C dX1_agree_40 ?_
              refine r_iconst C dX1_agree_57 (0 : Int32) (by decide) ?_
              refine r_zret C dX1_agree_58 (Or.inl rfl) ?_
              have er : res = (0 : Int32) := hr13 _ (by rw [hs3, d_X1_agree_L2]; try exact (if_neg c14).trans ((if_neg c16).trans ((oc_none hu20').trans ((if_pos c28).trans (rfl)))))
              rw [er]
              exact ⟨rfl, (Or.inl rfl)⟩
          · have hu20' : d_X3_townAt R_r (R_f 1 i) = some k26 := by rw [← hu20, ho27]
            rw [ho27]; dsimp only [psh, optT, optC]
            have fk30 := X3_townAt_lt hu20'
            refine r_astore C dX1_agree_26 (ls' := [.val (.ref o_f), .val (.ref o_r), .val (.int spring), .val (.int (nI i)), .val (.ref (o_r + 3 + k26))]) rfl hz5 rfl ?_
            refine r_aload_n C dX1_agree_28 rfl ?_
            refine r_get C hb24 (k := 0) rfl rfl celO_1 fw_X1_15 rfl dX1_agree_29 ?_
            refine r_iload_n C dX1_agree_32 rfl ?_
            refine r_iald C hb24 (k := 2) rfl rfl (vp_in_n rfl (by omega) (by omega)) (j := i) (cl_n rfl (by omega)) dX1_agree_33 ?_
            refine r_iload_n C dX1_agree_34 rfl ?_
            refine r_ic_ne C dX1_agree_35 (fun c31 => ?_) (fun c31 => ?_)
            · skip
              refine r_iinc C dX1_agree_59 (nI (i + 1)) rfl (nI_inc i rfl) (ls' := [.val (.ref o_f), .val (.ref o_r), .val (.int spring), .val (.int (nI (i + 1))), .val (.ref (o_r + 3 + k26))]) rfl ?_
              refine r_goto C dX1_agree_62 ?_
              have e32 : s3 = d_X1_agree_L2 R_f R_r spring n1 (i + 1) := by rw [hs3, d_X1_agree_L2]; try exact (if_neg c14).trans ((if_neg c16).trans ((oc_some hu20').trans ((if_neg c31).trans (rfl))))
              exact ih2 (i + 1) _ (.val (.ref (o_r + 3 + k26))) rfl trivial (by omega) (by omega) hb24 hb25 s3 e32 hr13 kx4
            · skip
              refine r_aload C dX1_agree_38 rfl ?_
              refine r_ifnull C dX1_agree_40 ?_
              refine r_aload C dX1_agree_43 rfl ?_
              refine r_get C hb25 (k := (3 + k26)) (kRiver_3_1 _ fk30) (by omega) celO_5 fw_X1_37 (z := .int (R_r (3 + k26) 3)) rfl dX1_agree_45 ?_
              refine r_aload_n C dX1_agree_48 rfl ?_
              refine r_get C hb24 (k := 0) rfl rfl celO_1 fw_X1_18 rfl dX1_agree_49 ?_
              refine r_iload_n C dX1_agree_52 rfl ?_
              refine r_iald C hb24 (k := 3) rfl rfl (vp_in_n rfl (by omega) (by omega)) (j := i) (cl_n rfl (by omega)) dX1_agree_53 ?_
              refine r_ic_eq C dX1_agree_54 (fun c33 => ?_) (fun c33 => ?_)
              · skip
                refine r_iinc C dX1_agree_59 (nI (i + 1)) rfl (nI_inc i rfl) (ls' := [.val (.ref o_f), .val (.ref o_r), .val (.int spring), .val (.int (nI (i + 1))), .val (.ref (o_r + 3 + k26))]) rfl ?_
                refine r_goto C dX1_agree_62 ?_
                have e34 : s3 = d_X1_agree_L2 R_f R_r spring n1 (i + 1) := by rw [hs3, d_X1_agree_L2]; try exact (if_neg c14).trans ((if_neg c16).trans ((oc_some hu20').trans ((if_pos c31).trans ((if_pos c33).trans (rfl)))))
                exact ih2 (i + 1) _ (.val (.ref (o_r + 3 + k26))) rfl trivial (by omega) (by omega) hb24 hb25 s3 e34 hr13 kx4
              · skip
                refine r_iconst C dX1_agree_57 (0 : Int32) (by decide) ?_
                refine r_zret C dX1_agree_58 (Or.inl rfl) ?_
                have er : res = (0 : Int32) := hr13 _ (by rw [hs3, d_X1_agree_L2]; try exact (if_neg c14).trans ((if_neg c16).trans ((oc_some hu20').trans ((if_pos c31).trans ((if_neg c33).trans (rfl))))))
                rw [er]
                exact ⟨rfl, (Or.inl rfl)⟩
  obtain ⟨s35, hs35⟩ : ∃ r, r = d_X1_agree_L2 R_f R_r spring 7 0 := ⟨_, rfl⟩
  refine d_X1_agree_L2_w 7 0 _ .unset trivial trivial (by omega) (by omega) hb_f hb_r s35 hs35 (fun r e => by rw [hres, d_X1_agree]; exact sc_inl (hs35.symm.trans e)) (fun w36 H39 z10 hz10 z11 hz11 e40  hb37 hb38 => ?_)
  have hx41 : d_X1_agree_L2 R_f R_r spring 7 0 = .inr w36 := hs35.symm.trans e40
  refine r_iconst C dX1_agree_65 (1 : Int32) (by decide) ?_
  refine r_zret C dX1_agree_66 (Or.inr rfl) ?_
  have er : res = (1 : Int32) := by rw [hres, d_X1_agree]; try exact (sc_inr hx41).trans (rfl)
  rw [er]
  exact ⟨rfl, (Or.inr rfl)⟩

def d_X2_numbersBehind (letter : Int32) : Int32 :=
  if letter = (116 : Int32) then
    (4 : Int32)
  else
    if letter = (99 : Int32) then
      (2 : Int32)
    else
      if letter = (119 : Int32) then
        (2 : Int32)
      else
        if letter = (98 : Int32) then
          (1 : Int32)
        else
          (0 : Int32)
set_option maxHeartbeats 4000000 in
set_option maxRecDepth 100000 in
theorem c_X2_numbersBehind (l : Launch) (D : DD) (letter : Int32)  (res : Int32) (hres : res = d_X2_numbersBehind letter) : Mt l D yX2_numbersBehind cX2_numbersBehind 1 (some .int) 0 0 0 0 [.int letter] (fun H => True) (fun v H => v = some (.int res)) fp0 := by
  refine mt_of (own := RX2) (ls := [.val (.int letter)]) rfl (by decide +kernel) rfl ?_
  intro x H C hP
  refine r_iload_n C dX2_numbersBehind_0 rfl ?_
  refine r_bipush C dX2_numbersBehind_1 (116 : Int32) (by decide) ?_
  refine r_ic_ne C dX2_numbersBehind_3 (fun c1 => ?_) (fun c1 => ?_)
  · skip
    refine r_iload_n C dX2_numbersBehind_8 rfl ?_
    refine r_bipush C dX2_numbersBehind_9 (99 : Int32) (by decide) ?_
    refine r_ic_eq C dX2_numbersBehind_11 (fun c2 => ?_) (fun c2 => ?_)
    · skip
      refine r_iconst C dX2_numbersBehind_20 (2 : Int32) (by decide) ?_
      refine r_iret C dX2_numbersBehind_21 ?_
      have er : res = (2 : Int32) := by rw [hres, d_X2_numbersBehind]; try exact (if_neg c1).trans ((if_pos c2).trans (rfl))
      rw [er]
    · skip
      refine r_iload_n C dX2_numbersBehind_14 rfl ?_
      refine r_bipush C dX2_numbersBehind_15 (119 : Int32) (by decide) ?_
      refine r_ic_ne C dX2_numbersBehind_17 (fun c3 => ?_) (fun c3 => ?_)
      · skip
        refine r_iload_n C dX2_numbersBehind_22 rfl ?_
        refine r_bipush C dX2_numbersBehind_23 (98 : Int32) (by decide) ?_
        refine r_ic_ne C dX2_numbersBehind_25 (fun c4 => ?_) (fun c4 => ?_)
        · skip
          refine r_iconst C dX2_numbersBehind_32 (0 : Int32) (by decide) ?_
          refine r_iret C dX2_numbersBehind_33 ?_
          have er : res = (0 : Int32) := by rw [hres, d_X2_numbersBehind]; try exact (if_neg c1).trans ((if_neg c2).trans ((if_neg c3).trans ((if_neg c4).trans (rfl))))
          rw [er]
        · skip
          refine r_iconst C dX2_numbersBehind_28 (1 : Int32) (by decide) ?_
          refine r_goto C dX2_numbersBehind_29 ?_
          refine r_iret C dX2_numbersBehind_33 ?_
          have er : res = (1 : Int32) := by rw [hres, d_X2_numbersBehind]; try exact (if_neg c1).trans ((if_neg c2).trans ((if_neg c3).trans ((if_pos c4).trans (rfl))))
          rw [er]
      · skip
        refine r_iconst C dX2_numbersBehind_20 (2 : Int32) (by decide) ?_
        refine r_iret C dX2_numbersBehind_21 ?_
        have er : res = (2 : Int32) := by rw [hres, d_X2_numbersBehind]; try exact (if_neg c1).trans ((if_neg c2).trans ((if_pos c3).trans (rfl)))
        rw [er]
  · skip
    refine r_iconst C dX2_numbersBehind_6 (4 : Int32) (by decide) ?_
    refine r_iret C dX2_numbersBehind_7 ?_
    have er : res = (4 : Int32) := by rw [hres, d_X2_numbersBehind]; try exact (if_pos c1).trans (rfl)
    rw [er]

def d_X2_isFigure (R_x : Nat → Nat → Int32) (m : Nat) (e0 : Int32) (p : Int32) : Int32 :=
  if p < 0 then
    (0 : Int32)
  else
    if e0 ≤ p then
      (0 : Int32)
    else
      if (nI m) ≤ p then
        (0 : Int32)
      else
        if (R_x 0 p.toNatClampNeg) < (48 : Int32) then
          (0 : Int32)
        else
          if (57 : Int32) < (R_x 0 p.toNatClampNeg) then
            (0 : Int32)
          else
            (1 : Int32)
set_option maxHeartbeats 4000000 in
set_option maxRecDepth 100000 in
theorem c_X2_isFigure (l : Launch) (D : DD) (o_x : Nat) (R_x : Nat → Nat → Int32) (m : Nat) (e0 : Int32) (p : Int32) (hm : m ≤ 200) (res : Int32) (hres : res = d_X2_isFigure R_x m e0 p) : Mt l D yX2_isFigure cX2_isFigure 3 (some .boolean) 0 0 0 0 [.ref o_x, .int e0, .int p] (fun H => blk D (ksCh m) o_x R_x H) (fun v H => v = some (.int res) ∧ bl res) fp0 := by
  refine mt_of (own := RX2) (ls := [.val (.ref o_x), .val (.int e0), .val (.int p)]) rfl (by decide +kernel) rfl ?_
  intro x H C hP
  have hb_x := hP
  refine r_iload_n C dX2_isFigure_0 rfl ?_
  refine r_if_lt C dX2_isFigure_1 (fun c1 => ?_) (fun c1 => ?_)
  · skip
    refine r_iconst C dX2_isFigure_35 (0 : Int32) (by decide) ?_
    refine r_zret C dX2_isFigure_36 (Or.inl rfl) ?_
    have er : res = (0 : Int32) := by rw [hres, d_X2_isFigure]; try exact (if_pos c1).trans (rfl)
    rw [er]
    exact ⟨rfl, (Or.inl rfl)⟩
  · skip
    refine r_iload_n C dX2_isFigure_4 rfl ?_
    refine r_iload_n C dX2_isFigure_5 rfl ?_
    refine r_ic_ge C dX2_isFigure_6 (fun c2 => ?_) (fun c2 => ?_)
    · skip
      refine r_iconst C dX2_isFigure_35 (0 : Int32) (by decide) ?_
      refine r_zret C dX2_isFigure_36 (Or.inl rfl) ?_
      have er : res = (0 : Int32) := by rw [hres, d_X2_isFigure]; try exact (if_neg c1).trans ((if_pos c2).trans (rfl))
      rw [er]
      exact ⟨rfl, (Or.inl rfl)⟩
    · skip
      refine r_iload_n C dX2_isFigure_9 rfl ?_
      refine r_aload_n C dX2_isFigure_10 rfl ?_
      refine r_alen C hb_x (k := 0) rfl rfl m (Or.inr (Or.inl ⟨rfl, rfl⟩)) dX2_isFigure_11 ?_
      refine r_ic_ge C dX2_isFigure_12 (fun c3 => ?_) (fun c3 => ?_)
      · skip
        refine r_iconst C dX2_isFigure_35 (0 : Int32) (by decide) ?_
        refine r_zret C dX2_isFigure_36 (Or.inl rfl) ?_
        have er : res = (0 : Int32) := by rw [hres, d_X2_isFigure]; try exact (if_neg c1).trans ((if_neg c2).trans ((if_pos c3).trans (rfl)))
        rw [er]
        exact ⟨rfl, (Or.inl rfl)⟩
      · skip
        refine r_aload_n C dX2_isFigure_15 rfl ?_
        refine r_iload_n C dX2_isFigure_16 rfl ?_
        refine r_cald C hb_x (k := 0) rfl rfl (vp_in_lh (x_lo1 c1) (x_hi1 (N := m) c3 (by omega)) (by omega)) (j := p.toNatClampNeg) rfl dX2_isFigure_17 ?_
        refine r_bipush C dX2_isFigure_18 (48 : Int32) (by decide) ?_
        refine r_ic_lt C dX2_isFigure_20 (fun c4 => ?_) (fun c4 => ?_)
        · skip
          refine r_iconst C dX2_isFigure_35 (0 : Int32) (by decide) ?_
          refine r_zret C dX2_isFigure_36 (Or.inl rfl) ?_
          have er : res = (0 : Int32) := by rw [hres, d_X2_isFigure]; try exact (if_neg c1).trans ((if_neg c2).trans ((if_neg c3).trans ((if_pos c4).trans (rfl))))
          rw [er]
          exact ⟨rfl, (Or.inl rfl)⟩
        · skip
          refine r_aload_n C dX2_isFigure_23 rfl ?_
          refine r_iload_n C dX2_isFigure_24 rfl ?_
          refine r_cald C hb_x (k := 0) rfl rfl (vp_in_lh (x_lo1 c1) (x_hi1 (N := m) c3 (by omega)) (by omega)) (j := p.toNatClampNeg) rfl dX2_isFigure_25 ?_
          refine r_bipush C dX2_isFigure_26 (57 : Int32) (by decide) ?_
          refine r_ic_gt C dX2_isFigure_28 (fun c5 => ?_) (fun c5 => ?_)
          · skip
            refine r_iconst C dX2_isFigure_35 (0 : Int32) (by decide) ?_
            refine r_zret C dX2_isFigure_36 (Or.inl rfl) ?_
            have er : res = (0 : Int32) := by rw [hres, d_X2_isFigure]; try exact (if_neg c1).trans ((if_neg c2).trans ((if_neg c3).trans ((if_neg c4).trans ((if_pos c5).trans (rfl)))))
            rw [er]
            exact ⟨rfl, (Or.inl rfl)⟩
          · skip
            refine r_iconst C dX2_isFigure_31 (1 : Int32) (by decide) ?_
            refine r_goto C dX2_isFigure_32 ?_
            refine r_zret C dX2_isFigure_36 (Or.inr rfl) ?_
            have er : res = (1 : Int32) := by rw [hres, d_X2_isFigure]; try exact (if_neg c1).trans ((if_neg c2).trans ((if_neg c3).trans ((if_neg c4).trans ((if_neg c5).trans (rfl)))))
            rw [er]
            exact ⟨rfl, (Or.inr rfl)⟩
theorem X2_isFigure_in {R : Nat → Nat → Int32} {m : Nat} {e0 p u : Int32} (hu : u = d_X2_isFigure R m e0 p) (h : ¬ u = 0) (hm : m < 2 ^ 31) : vp_in p m := by
  subst hu
  unfold d_X2_isFigure at h
  split at h
  · exact absurd rfl h
  · rename_i h1
    split at h
    · exact absurd rfl h
    · split at h
      · exact absurd rfl h
      · rename_i h3
        exact vp_in_lh (x_lo1 h1) (x_hi1 h3 hm) (Nat.le_refl _)
def d_X2_figuresAt (R_x : Nat → Nat → Int32) (m : Nat) (e0 : Int32) (p : Int32) : Int32 :=
  lt (d_X2_isFigure R_x m e0 p) fun u1 =>
  if u1 = 0 then
    (0 : Int32)
  else
    lt (d_X2_isFigure R_x m e0 (p + (1 : Int32))) fun u8 =>
    if u8 = 0 then
      (1 : Int32)
    else
      (2 : Int32)
set_option maxHeartbeats 4000000 in
set_option maxRecDepth 100000 in
theorem c_X2_figuresAt (l : Launch) (D : DD) (o_x : Nat) (R_x : Nat → Nat → Int32) (m : Nat) (e0 : Int32) (p : Int32) (hm : m ≤ 200) (res : Int32) (hres : res = d_X2_figuresAt R_x m e0 p) : Mt l D yX2_figuresAt cX2_figuresAt 3 (some .int) 1 22 0 0 [.ref o_x, .int e0, .int p] (fun H => blk D (ksCh m) o_x R_x H) (fun v H => v = some (.int res)) fp0 := by
  refine mt_of (own := RX2) (ls := [.val (.ref o_x), .val (.int e0), .val (.int p)]) rfl (by decide +kernel) rfl ?_
  intro x H C hP
  have hb_x := hP
  refine r_aload_n C dX2_figuresAt_0 rfl ?_
  refine r_iload_n C dX2_figuresAt_1 rfl ?_
  refine r_iload_n C dX2_figuresAt_2 rfl ?_
  obtain ⟨u1, hu1⟩ : ∃ r, r = d_X2_isFigure R_x m e0 p := ⟨_, rfl⟩
  refine r_callS0 C cw_X2_45 (fun l => c_X2_isFigure l D o_x R_x m e0 p (by omega) u1 hu1) (rest := []) hb_x (fun q h => h.elim) rfl rfl rfl (Nat.le_of_ble_eq_true rfl) ⟨Nat.le_of_ble_eq_true rfl, Nat.le_of_ble_eq_true rfl, Nat.le_refl 0, Nat.le_refl 0⟩ dX2_figuresAt_3 (fun v H2 hp3 hq4 => ?_)
  obtain ⟨rfl, hl5⟩ := hp3
  have hb6 := blk_kept hb_x (n := 1) rfl (fun q h1 h2 => hq4 q (fun h => h))
  dsimp only [psh]
  refine r_if_ne C dX2_figuresAt_6 (fun c7 => ?_) (fun c7 => ?_)
  · skip
    refine r_aload_n C dX2_figuresAt_11 rfl ?_
    refine r_iload_n C dX2_figuresAt_12 rfl ?_
    refine r_iload_n C dX2_figuresAt_13 rfl ?_
    refine r_iconst C dX2_figuresAt_14 (1 : Int32) (by decide) ?_
    refine r_iadd C dX2_figuresAt_15 ?_
    obtain ⟨u8, hu8⟩ : ∃ r, r = d_X2_isFigure R_x m e0 (p + (1 : Int32)) := ⟨_, rfl⟩
    refine r_callS0 C cw_X2_45 (fun l => c_X2_isFigure l D o_x R_x m e0 (p + (1 : Int32)) (by omega) u8 hu8) (rest := []) hb6 (fun q h => h.elim) rfl rfl rfl (Nat.le_of_ble_eq_true rfl) ⟨Nat.le_of_ble_eq_true rfl, Nat.le_of_ble_eq_true rfl, Nat.le_refl 0, Nat.le_refl 0⟩ dX2_figuresAt_16 (fun v H9 hp10 hq11 => ?_)
    obtain ⟨rfl, hl12⟩ := hp10
    have hb13 := blk_kept hb6 (n := 1) rfl (fun q h1 h2 => hq11 q (fun h => h))
    dsimp only [psh]
    refine r_if_eq C dX2_figuresAt_19 (fun c14 => ?_) (fun c14 => ?_)
    · skip
      refine r_iconst C dX2_figuresAt_26 (1 : Int32) (by decide) ?_
      refine r_iret C dX2_figuresAt_27 ?_
      have er : res = (1 : Int32) := by rw [hres, d_X2_figuresAt]; try exact (lt_eq hu1).trans ((if_neg c7).trans ((lt_eq hu8).trans ((if_pos c14).trans (rfl))))
      rw [er]
    · skip
      refine r_iconst C dX2_figuresAt_22 (2 : Int32) (by decide) ?_
      refine r_goto C dX2_figuresAt_23 ?_
      refine r_iret C dX2_figuresAt_27 ?_
      have er : res = (2 : Int32) := by rw [hres, d_X2_figuresAt]; try exact (lt_eq hu1).trans ((if_neg c7).trans ((lt_eq hu8).trans ((if_neg c14).trans (rfl))))
      rw [er]
  · skip
    refine r_iconst C dX2_figuresAt_9 (0 : Int32) (by decide) ?_
    refine r_iret C dX2_figuresAt_10 ?_
    have er : res = (0 : Int32) := by rw [hres, d_X2_figuresAt]; try exact (lt_eq hu1).trans ((if_pos c7).trans (rfl))
    rw [er]

def d_X2_numberAt_L6 (R_x : Nat → Nat → Int32) (m : Nat) (e0 : Int32) (p : Int32) (fg : Int32) : Nat → Int32 → Int32 → Int32
  | 0, number, _ => number
  | n1 + 1, number, i =>
    if (nI (p.toNatClampNeg + fg.toNatClampNeg)) ≤ i then
      number
    else
      lt (d_X2_isFigure R_x m e0 i) fun u13 =>
      if u13 = 0 then
        number
      else
        d_X2_numberAt_L6 R_x m e0 p fg n1 (((10 : Int32) * number) + ((R_x 0 i.toNatClampNeg) - (48 : Int32))) (nI (i.toNatClampNeg + 1))
def d_X2_numberAt (R_x : Nat → Nat → Int32) (m : Nat) (e0 : Int32) (p : Int32) (fg : Int32) : Int32 :=
  lt (d_X2_numberAt_L6 R_x m e0 p fg 3 (0 : Int32) p) fun s23 =>
  s23
set_option maxHeartbeats 4000000 in
set_option maxRecDepth 100000 in
theorem c_X2_numberAt (l : Launch) (D : DD) (o_x : Nat) (R_x : Nat → Nat → Int32) (m : Nat) (e0 : Int32) (p : Int32) (fg : Int32) (hm : m ≤ 200) (hp : p = nI p.toNatClampNeg) (hlp : p.toNatClampNeg ≤ 300) (hfg : fg = nI fg.toNatClampNeg) (hlfg : fg.toNatClampNeg ≤ 2) (res : Int32) (hres : res = d_X2_numberAt R_x m e0 p fg) : Mt l D yX2_numberAt cX2_numberAt 6 (some .int) 1 22 0 0 [.ref o_x, .int e0, .int p, .int fg] (fun H => blk D (ksCh m) o_x R_x H) (fun v H => v = some (.int res)) fp0 := by
  refine mt_of (own := RX2) (ls := [.val (.ref o_x), .val (.int e0), .val (.int p), .val (.int fg), .unset, .unset]) rfl (by decide +kernel) rfl ?_
  intro x H C hP
  have hb_x := hP
  refine r_iconst C dX2_numberAt_0 (0 : Int32) (by decide) ?_
  refine r_istore C dX2_numberAt_1 (ls' := [.val (.ref o_x), .val (.int e0), .val (.int p), .val (.int fg), .val (.int (0 : Int32)), .unset]) rfl trivial rfl ?_
  refine r_iload_n C dX2_numberAt_3 rfl ?_
  refine r_istore C dX2_numberAt_4 (ls' := [.val (.ref o_x), .val (.int e0), .val (.int p), .val (.int fg), .val (.int (0 : Int32)), .val (.int p)]) rfl trivial rfl ?_
  have d_X2_numberAt_L6_w : ∀ (n1 : Nat) (number : Int32) (i : Int32) (H6 : Heap), True → (i = nI i.toNatClampNeg) → (i.toNatClampNeg ≤ p.toNatClampNeg + fg.toNatClampNeg) → (p.toNatClampNeg + fg.toNatClampNeg - i.toNatClampNeg < n1) → blk D (ksCh m) o_x R_x H6 → ∀ s3 : Int32, s3 = d_X2_numberAt_L6 R_x m e0 p fg n1 number i → (∀ (H' : Heap) (z7 : Slot) (_ : slot1 z7), True → blk D (ksCh m) o_x R_x H' → WG x fp0 (Fin x (fun v H => v = some (.int res)) fp0 0 0) H' 0 0 45 [.val (.ref o_x), .val (.int e0), .val (.int p), .val (.int fg), .val (.int s3), z7] []) → WG x fp0 (Fin x (fun v H => v = some (.int res)) fp0 0 0) H6 0 0 6 [.val (.ref o_x), .val (.int e0), .val (.int p), .val (.int fg), .val (.int number), .val (.int i)] [] := by
    intro n1
    induction n1 with
    | zero => intro number i H6  _ hn_i hi hm8; exact absurd hm8 (Nat.not_lt_zero _)
    | succ n1 ih2 =>
      intro number i H6  _ hn_i hi hm8 hb5 s3 hs3  kx4
      refine r_iload C dX2_numberAt_6 rfl ?_
      refine r_iload_n C dX2_numberAt_8 rfl ?_
      refine r_iload_n C dX2_numberAt_9 rfl ?_
      refine r_iaddN C dX2_numberAt_10 (na := p.toNatClampNeg) (nb := fg.toNatClampNeg) hp hfg (nc := (p.toNatClampNeg + fg.toNatClampNeg)) rfl ?_
      refine r_ic_ge C dX2_numberAt_11 (fun c9 => ?_) (fun c9 => ?_)
      · skip
        have f10 : ((p.toNatClampNeg + fg.toNatClampNeg) ≤ i.toNatClampNeg) := nf_leI (by omega) (by omega) rfl hn_i c9
        have e11 : s3 = number := by rw [hs3, d_X2_numberAt_L6]; try exact (if_pos c9).trans (rfl)
        rw [e11] at kx4
        exact kx4 _ (.val (.int i)) rfl trivial  hb5
      · skip
        have f12 : ¬ ((p.toNatClampNeg + fg.toNatClampNeg) ≤ i.toNatClampNeg) := nf_leIn (by omega) (by omega) rfl hn_i c9
        refine r_aload_n C dX2_numberAt_14 rfl ?_
        refine r_iload_n C dX2_numberAt_15 rfl ?_
        refine r_iload C dX2_numberAt_16 rfl ?_
        obtain ⟨u13, hu13⟩ : ∃ r, r = d_X2_isFigure R_x m e0 i := ⟨_, rfl⟩
        refine r_callS0 C cw_X2_45 (fun l => c_X2_isFigure l D o_x R_x m e0 i (by omega) u13 hu13) (rest := []) hb5 (fun q h => h.elim) rfl rfl rfl (Nat.le_of_ble_eq_true rfl) ⟨Nat.le_of_ble_eq_true rfl, Nat.le_of_ble_eq_true rfl, Nat.le_refl 0, Nat.le_refl 0⟩ dX2_numberAt_18 (fun v H14 hp15 hq16 => ?_)
        obtain ⟨rfl, hl17⟩ := hp15
        have hb18 := blk_kept hb5 (n := 1) rfl (fun q h1 h2 => hq16 q (fun h => h))
        dsimp only [psh]
        refine r_if_eq C dX2_numberAt_21 (fun c19 => ?_) (fun c19 => ?_)
        · skip
          have e20 : s3 = number := by rw [hs3, d_X2_numberAt_L6]; try exact (if_neg c9).trans ((lt_eq hu13).trans ((if_pos c19).trans (rfl)))
          rw [e20] at kx4
          exact kx4 _ (.val (.int i)) rfl trivial  hb18
        · skip
          refine r_bipush C dX2_numberAt_24 (10 : Int32) (by decide) ?_
          refine r_iload C dX2_numberAt_26 rfl ?_
          refine r_imul C dX2_numberAt_28 ?_
          refine r_aload_n C dX2_numberAt_29 rfl ?_
          refine r_iload C dX2_numberAt_30 rfl ?_
          refine r_cald C hb18 (k := 0) rfl rfl (X2_isFigure_in hu13 c19 (by omega)) (j := i.toNatClampNeg) (cl_n hn_i (by omega)) dX2_numberAt_32 ?_
          refine r_bipush C dX2_numberAt_33 (48 : Int32) (by decide) ?_
          refine r_isub C dX2_numberAt_35 ?_
          refine r_iadd C dX2_numberAt_36 ?_
          refine r_istore C dX2_numberAt_37 (ls' := [.val (.ref o_x), .val (.int e0), .val (.int p), .val (.int fg), .val (.int (((10 : Int32) * number) + ((R_x 0 i.toNatClampNeg) - (48 : Int32)))), .val (.int i)]) rfl rfl rfl ?_
          refine r_iinc C dX2_numberAt_39 (nI (i.toNatClampNeg + 1)) rfl (nI_inc i.toNatClampNeg hn_i) (ls' := [.val (.ref o_x), .val (.int e0), .val (.int p), .val (.int fg), .val (.int (((10 : Int32) * number) + ((R_x 0 i.toNatClampNeg) - (48 : Int32)))), .val (.int (nI (i.toNatClampNeg + 1)))]) rfl ?_
          refine r_goto C dX2_numberAt_42 ?_
          have q21 := cl_n (x := nI (i.toNatClampNeg + 1)) (n := (i.toNatClampNeg + 1)) rfl (by omega)
          have e22 : s3 = d_X2_numberAt_L6 R_x m e0 p fg n1 (((10 : Int32) * number) + ((R_x 0 i.toNatClampNeg) - (48 : Int32))) (nI (i.toNatClampNeg + 1)) := by rw [hs3, d_X2_numberAt_L6]; try exact (if_neg c9).trans ((lt_eq hu13).trans ((if_neg c19).trans (rfl)))
          exact ih2 (((10 : Int32) * number) + ((R_x 0 i.toNatClampNeg) - (48 : Int32))) (nI (i.toNatClampNeg + 1)) _  trivial (nnat (a := (i.toNatClampNeg + 1)) rfl (by omega)) (by omega) (by omega) hb18 s3 e22  kx4
  obtain ⟨s23, hs23⟩ : ∃ r, r = d_X2_numberAt_L6 R_x m e0 p fg 3 (0 : Int32) p := ⟨_, rfl⟩
  refine d_X2_numberAt_L6_w 3 (0 : Int32) p _  trivial hp (by omega) (by omega) hb_x s23 hs23  (fun H25 z7 hz7 e26  hb24 => ?_)
  refine r_iload C dX2_numberAt_45 rfl ?_
  refine r_iret C dX2_numberAt_47 ?_
  have er : res = s23 := by rw [hres, d_X2_numberAt]; try exact (lt_eq hs23).trans (rfl)
  rw [er]
theorem X2_figuresAt_nat {R : Nat → Nat → Int32} {m : Nat} {e0 p u : Int32} (hu : u = d_X2_figuresAt R m e0 p) : u = nI u.toNatClampNeg ∧ u.toNatClampNeg ≤ 2 := by
  subst hu
  simp only [d_X2_figuresAt, lt]
  split
  · exact ⟨by decide, by decide⟩
  · split <;> exact ⟨by decide, by decide⟩
def d_X2_itemEnd_L24 (R_x : Nat → Nat → Int32) (m : Nat) (e0 : Int32) (u1 : Int32) : Nat → (Nat → Nat → Int32) → Nat → Nat → (Int32 × (Nat → Nat → Int32)) ⊕ ((Nat → Nat → Int32) × Nat)
  | 0, Rd, pz, _ => .inr (Rd, pz)
  | n8 + 1, Rd, pz, i =>
    if u1 ≤ (nI i) then
      .inr (Rd, pz)
    else
      if (nI 4) ≤ (nI i) then
        .inr (Rd, pz)
      else
        lt (d_X2_figuresAt R_x m e0 (nI pz)) fun u29 =>
        if u29 = 0 then
          .inl ((-4 : Int32), Rd)
        else
          lt (d_X2_numberAt R_x m e0 (nI pz) u29) fun u39 =>
          if (nI i) = (u1 - (1 : Int32)) then
            if e0 ≤ (nI (pz + u29.toNatClampNeg)) then
              .inl ((-4 : Int32), (pt Rd 1 i u39))
            else
              if (R_x 0 (pz + u29.toNatClampNeg)) = (59 : Int32) then
                d_X2_itemEnd_L24 R_x m e0 u1 n8 (pt Rd 1 i u39) ((pz + u29.toNatClampNeg) + 1) (i + 1)
              else
                .inl ((-4 : Int32), (pt Rd 1 i u39))
          else
            if e0 ≤ (nI (pz + u29.toNatClampNeg)) then
              .inl ((-4 : Int32), (pt Rd 1 i u39))
            else
              if (R_x 0 (pz + u29.toNatClampNeg)) = (44 : Int32) then
                d_X2_itemEnd_L24 R_x m e0 u1 n8 (pt Rd 1 i u39) ((pz + u29.toNatClampNeg) + 1) (i + 1)
              else
                .inl ((-4 : Int32), (pt Rd 1 i u39))
def d_X2_itemEnd (R_d : Nat → Nat → Int32) (R_x : Nat → Nat → Int32) (m : Nat) (e0 : Int32) (place : Int32) : Int32 × (Nat → Nat → Int32) :=
  lt (d_X2_numbersBehind (R_x 0 place.toNatClampNeg)) fun u1 =>
  if u1 = 0 then
    ((-4 : Int32), R_d)
  else
    sc (d_X2_itemEnd_L24 R_x m e0 u1 5 R_d (place.toNatClampNeg + 1) 0) (fun r => r) fun w62 =>
    ((nI w62.2), w62.1)
set_option maxHeartbeats 4000000 in
set_option maxRecDepth 100000 in
theorem c_X2_itemEnd (l : Launch) (D : DD) (o_d o_x : Nat) (R_d : Nat → Nat → Int32) (R_x : Nat → Nat → Int32) (m : Nat) (e0 : Int32) (place : Int32) (hm : m ≤ 200) (he0 : e0 = nI e0.toNatClampNeg) (hle0 : e0.toNatClampNeg ≤ m) (hplace : place = nI place.toNatClampNeg) (hlplace : place.toNatClampNeg < e0.toNatClampNeg) (hd : o_x < o_d ∨ o_d + 2 ≤ o_x) (res : Int32 × (Nat → Nat → Int32)) (hres : res = d_X2_itemEnd R_d R_x m e0 place) : Mt l D yX2_itemEnd cX2_itemEnd 9 (some .int) 2 47 0 0 [.ref o_d, .ref o_x, .int e0, .int place] (fun H => blk D ksReader o_d R_d H ∧ blk D (ksCh m) o_x R_x H) (fun v H => v = some (.int res.1) ∧ blk D ksReader o_d res.2 H) (fp1 o_d 2) := by
  refine mt_of (own := RX2) (ls := [.val (.ref o_d), .val (.ref o_x), .val (.int e0), .val (.int place), .unset, .unset, .unset, .unset, .unset]) rfl (by decide +kernel) rfl ?_
  intro x H C hP
  obtain ⟨hb_d, hb_x⟩ := hP
  refine r_aload_n C dX2_itemEnd_0 rfl ?_
  refine r_iload_n C dX2_itemEnd_1 rfl ?_
  refine r_cald C hb_x (k := 0) rfl rfl (vp_in_n hplace (by omega) (by omega)) (j := place.toNatClampNeg) (cl_n hplace (by omega)) dX2_itemEnd_2 ?_
  obtain ⟨u1, hu1⟩ : ∃ r, r = d_X2_numbersBehind (R_x 0 place.toNatClampNeg) := ⟨_, rfl⟩
  refine r_callS0 C cw_X2_34 (fun l => c_X2_numbersBehind l D (R_x 0 place.toNatClampNeg) u1 hu1) (rest := []) trivial (fun q h => h.elim) rfl rfl rfl (Nat.le_of_ble_eq_true rfl) ⟨Nat.le_of_ble_eq_true rfl, Nat.le_of_ble_eq_true rfl, Nat.le_refl 0, Nat.le_refl 0⟩ dX2_itemEnd_3 (fun v H2 hp3 hq4 => ?_)
  subst hp3
  have hb5 := blk_kept hb_d (n := 2) rfl (fun q h1 h2 => hq4 q (fun h => h))
  have hb6 := blk_kept hb_x (n := 1) rfl (fun q h1 h2 => hq4 q (fun h => h))
  dsimp only [psh]
  refine r_istore C dX2_itemEnd_6 (ls' := [.val (.ref o_d), .val (.ref o_x), .val (.int e0), .val (.int place), .val (.int u1), .unset, .unset, .unset, .unset]) rfl trivial rfl ?_
  refine r_iload C dX2_itemEnd_8 rfl ?_
  refine r_if_ne C dX2_itemEnd_10 (fun c7 => ?_) (fun c7 => ?_)
  · skip
    refine r_iload_n C dX2_itemEnd_16 rfl ?_
    refine r_iconst C dX2_itemEnd_17 (1 : Int32) (by decide) ?_
    refine r_iaddN C dX2_itemEnd_18 (na := place.toNatClampNeg) (nb := 1) hplace rfl (nc := (place.toNatClampNeg + 1)) rfl ?_
    refine r_istore C dX2_itemEnd_19 (ls' := [.val (.ref o_d), .val (.ref o_x), .val (.int e0), .val (.int place), .val (.int u1), .val (.int (nI (place.toNatClampNeg + 1))), .unset, .unset, .unset]) rfl trivial rfl ?_
    refine r_iconst C dX2_itemEnd_21 (0 : Int32) (by decide) ?_
    refine r_istore C dX2_itemEnd_22 (ls' := [.val (.ref o_d), .val (.ref o_x), .val (.int e0), .val (.int place), .val (.int u1), .val (.int (nI (place.toNatClampNeg + 1))), .val (.int (0 : Int32)), .unset, .unset]) rfl trivial rfl ?_
    have d_X2_itemEnd_L24_w : ∀ (n8 : Nat) (Rd : Nat → Nat → Int32) (pz : Nat) (i : Nat) (H16 : Heap) (z12 : Slot) (_ : slot1 z12) (z13 : Slot) (_ : slot1 z13), True → (i ≤ 4) → (pz ≤ e0.toNatClampNeg) → (4 - i < n8) → blk D ksReader o_d Rd H16 → blk D (ksCh m) o_x R_x H16 → ∀ s10 : (Int32 × (Nat → Nat → Int32)) ⊕ ((Nat → Nat → Int32) × Nat), s10 = d_X2_itemEnd_L24 R_x m e0 u1 n8 Rd pz i → (∀ r, s10 = .inl r → res = r) → (∀ (w17 : (Nat → Nat → Int32) × Nat) (H' : Heap) (z18 : Slot) (_ : slot1 z18) (z19 : Slot) (_ : slot1 z19) (z20 : Slot) (_ : slot1 z20), s10 = .inr w17 → blk D ksReader o_d w17.1 H' → blk D (ksCh m) o_x R_x H' → WG x (fp1 o_d 2) (Fin x (fun v H => v = some (.int res.1) ∧ blk D ksReader o_d res.2 H) (fp1 o_d 2) 0 0) H' 0 0 126 [.val (.ref o_d), .val (.ref o_x), .val (.int e0), .val (.int place), .val (.int u1), .val (.int (nI w17.2)), z18, z19, z20] []) → WG x (fp1 o_d 2) (Fin x (fun v H => v = some (.int res.1) ∧ blk D ksReader o_d res.2 H) (fp1 o_d 2) 0 0) H16 0 0 24 [.val (.ref o_d), .val (.ref o_x), .val (.int e0), .val (.int place), .val (.int u1), .val (.int (nI pz)), .val (.int (nI i)), z12, z13] [] := by
      intro n8
      induction n8 with
      | zero => intro Rd pz i H16 z12 hz12 z13 hz13 _ hi hpz hm21; exact absurd hm21 (Nat.not_lt_zero _)
      | succ n8 ih9 =>
        intro Rd pz i H16 z12 hz12 z13 hz13 _ hi hpz hm21 hb14 hb15 s10 hs10 hr22 kx11
        refine r_iload C dX2_itemEnd_24 rfl ?_
        refine r_iload C dX2_itemEnd_26 rfl ?_
        refine r_ic_ge C dX2_itemEnd_28 (fun c23 => ?_) (fun c23 => ?_)
        · skip
          have e24 : s10 = .inr (Rd, pz) := by rw [hs10, d_X2_itemEnd_L24]; try exact (if_pos c23).trans (rfl)
          exact kx11 (Rd, pz) _ (.val (.int (nI i))) rfl z12 hz12 z13 hz13 e24  hb14 hb15
        · skip
          refine r_iload C dX2_itemEnd_31 rfl ?_
          refine r_aload_n C dX2_itemEnd_33 rfl ?_
          refine r_get C hb14 (k := 0) rfl rfl celO_2 fw_X2_11 rfl dX2_itemEnd_34 ?_
          refine r_alen C hb14 (k := 1) rfl rfl 4 (Or.inl ⟨rfl, rfl⟩) dX2_itemEnd_37 ?_
          refine r_ic_ge C dX2_itemEnd_38 (fun c25 => ?_) (fun c25 => ?_)
          · skip
            have f26 : (4 ≤ i) := nf_leI (by omega) (by omega) rfl rfl c25
            have e27 : s10 = .inr (Rd, pz) := by rw [hs10, d_X2_itemEnd_L24]; try exact (if_neg c23).trans ((if_pos c25).trans (rfl))
            exact kx11 (Rd, pz) _ (.val (.int (nI i))) rfl z12 hz12 z13 hz13 e27  hb14 hb15
          · skip
            have f28 : ¬ (4 ≤ i) := nf_leIn (by omega) (by omega) rfl rfl c25
            refine r_aload_n C dX2_itemEnd_41 rfl ?_
            refine r_iload_n C dX2_itemEnd_42 rfl ?_
            refine r_iload C dX2_itemEnd_43 rfl ?_
            obtain ⟨u29, hu29⟩ : ∃ r, r = d_X2_figuresAt R_x m e0 (nI pz) := ⟨_, rfl⟩
            refine r_callS0 C cw_X2_38 (fun l => c_X2_figuresAt l D o_x R_x m e0 (nI pz) (by omega) u29 hu29) (rest := []) hb15 (fun q h => h.elim) rfl rfl rfl (Nat.le_of_ble_eq_true rfl) ⟨Nat.le_of_ble_eq_true rfl, Nat.le_of_ble_eq_true rfl, Nat.le_refl 0, Nat.le_refl 0⟩ dX2_itemEnd_45 (fun v H30 hp31 hq32 => ?_)
            subst hp31
            obtain ⟨hn33, hn34⟩ := X2_figuresAt_nat hu29
            have hb35 := blk_kept hb14 (n := 2) rfl (fun q h1 h2 => hq32 q (fun h => h))
            have hb36 := blk_kept hb15 (n := 1) rfl (fun q h1 h2 => hq32 q (fun h => h))
            dsimp only [psh]
            refine r_istore C dX2_itemEnd_48 (ls' := [.val (.ref o_d), .val (.ref o_x), .val (.int e0), .val (.int place), .val (.int u1), .val (.int (nI pz)), .val (.int (nI i)), .val (.int u29), z13]) rfl hz12 rfl ?_
            refine r_iload C dX2_itemEnd_50 rfl ?_
            refine r_if_ne C dX2_itemEnd_52 (fun c37 => ?_) (fun c37 => ?_)
            · skip
              have f38 : ¬ (u29.toNatClampNeg = 0) := nf_eqn (by omega) (by omega) hn33 rfl c37
              refine r_aload_n C dX2_itemEnd_58 rfl ?_
              refine r_get C hb35 (k := 0) rfl rfl celO_2 fw_X2_11 rfl dX2_itemEnd_59 ?_
              refine r_iload C dX2_itemEnd_62 rfl ?_
              refine r_aload_n C dX2_itemEnd_64 rfl ?_
              refine r_iload_n C dX2_itemEnd_65 rfl ?_
              refine r_iload C dX2_itemEnd_66 rfl ?_
              refine r_iload C dX2_itemEnd_68 rfl ?_
              obtain ⟨u39, hu39⟩ : ∃ r, r = d_X2_numberAt R_x m e0 (nI pz) u29 := ⟨_, rfl⟩
              refine r_callS0 C cw_X2_41 (fun l => c_X2_numberAt l D o_x R_x m e0 (nI pz) u29 (by omega) (nnat (a := pz) rfl (by omega)) (by rw [cl_n (n := pz) rfl (by omega)]; omega) hn33 (by omega) u39 hu39) (rest := [.int (nI i), .ref (o_d + 1)]) hb36 (fun q h => h.elim) rfl rfl rfl (Nat.le_of_ble_eq_true rfl) ⟨Nat.le_of_ble_eq_true rfl, Nat.le_of_ble_eq_true rfl, Nat.le_refl 0, Nat.le_refl 0⟩ dX2_itemEnd_70 (fun v H40 hp41 hq42 => ?_)
              subst hp41
              have hb43 := blk_kept hb35 (n := 2) rfl (fun q h1 h2 => hq42 q (fun h => h))
              have hb44 := blk_kept hb36 (n := 1) rfl (fun q h1 h2 => hq42 q (fun h => h))
              dsimp only [psh]
              refine r_iast C hb43 (k := 1) rfl rfl (by unfold fp1; omega) (vp_in_n rfl (by omega) (by omega)) (j := i) (cl_n rfl (by omega)) dX2_itemEnd_73 (fun H45 hb47 hq46 => ?_)
              have hb48 := blk_kept hb44 (n := 1) rfl (fun q h1 h2 => hq46 q (by omega))
              refine r_iload C dX2_itemEnd_74 rfl ?_
              refine r_iload C dX2_itemEnd_76 rfl ?_
              refine r_iaddN C dX2_itemEnd_78 (na := pz) (nb := u29.toNatClampNeg) rfl hn33 (nc := (pz + u29.toNatClampNeg)) rfl ?_
              refine r_istore C dX2_itemEnd_79 (ls' := [.val (.ref o_d), .val (.ref o_x), .val (.int e0), .val (.int place), .val (.int u1), .val (.int (nI (pz + u29.toNatClampNeg))), .val (.int (nI i)), .val (.int u29), z13]) rfl rfl rfl ?_
              refine r_iload C dX2_itemEnd_81 rfl ?_
              refine r_iload C dX2_itemEnd_83 rfl ?_
              refine r_iconst C dX2_itemEnd_85 (1 : Int32) (by decide) ?_
              refine r_isub C dX2_itemEnd_86 ?_
              refine r_ic_ne C dX2_itemEnd_87 (fun c49 => ?_) (fun c49 => ?_)
              · skip
                refine r_bipush C dX2_itemEnd_95 (44 : Int32) (by decide) ?_
                refine r_istore C dX2_itemEnd_97 (ls' := [.val (.ref o_d), .val (.ref o_x), .val (.int e0), .val (.int place), .val (.int u1), .val (.int (nI (pz + u29.toNatClampNeg))), .val (.int (nI i)), .val (.int u29), .val (.int (44 : Int32))]) rfl hz13 rfl ?_
                refine r_iload C dX2_itemEnd_99 rfl ?_
                refine r_iload_n C dX2_itemEnd_101 rfl ?_
                refine r_ic_ge C dX2_itemEnd_102 (fun c50 => ?_) (fun c50 => ?_)
                · skip
                  have f51 : (e0.toNatClampNeg ≤ (pz + u29.toNatClampNeg)) := nf_leI (by omega) (by omega) he0 rfl c50
                  refine r_bipush C dX2_itemEnd_114 (-4 : Int32) (by decide) ?_
                  refine r_iret C dX2_itemEnd_116 ?_
                  have er : res = ((-4 : Int32), (pt Rd 1 i u39)) := hr22 _ (by rw [hs10, d_X2_itemEnd_L24]; try exact (if_neg c23).trans ((if_neg c25).trans ((lt_eq hu29).trans ((if_neg c37).trans ((lt_eq hu39).trans ((if_neg c49).trans ((if_pos c50).trans (rfl))))))))
                  rw [er]
                  exact ⟨rfl, hb47⟩
                · skip
                  have f52 : ¬ (e0.toNatClampNeg ≤ (pz + u29.toNatClampNeg)) := nf_leIn (by omega) (by omega) he0 rfl c50
                  refine r_aload_n C dX2_itemEnd_105 rfl ?_
                  refine r_iload C dX2_itemEnd_106 rfl ?_
                  refine r_cald C hb48 (k := 0) rfl rfl (vp_in_n rfl (by omega) (by omega)) (j := (pz + u29.toNatClampNeg)) (cl_n rfl (by omega)) dX2_itemEnd_108 ?_
                  refine r_iload C dX2_itemEnd_109 rfl ?_
                  refine r_ic_eq C dX2_itemEnd_111 (fun c53 => ?_) (fun c53 => ?_)
                  · skip
                    refine r_iinc C dX2_itemEnd_117 (nI ((pz + u29.toNatClampNeg) + 1)) rfl (nI_inc (pz + u29.toNatClampNeg) rfl) (ls' := [.val (.ref o_d), .val (.ref o_x), .val (.int e0), .val (.int place), .val (.int u1), .val (.int (nI ((pz + u29.toNatClampNeg) + 1))), .val (.int (nI i)), .val (.int u29), .val (.int (44 : Int32))]) rfl ?_
                    refine r_iinc C dX2_itemEnd_120 (nI (i + 1)) rfl (nI_inc i rfl) (ls' := [.val (.ref o_d), .val (.ref o_x), .val (.int e0), .val (.int place), .val (.int u1), .val (.int (nI ((pz + u29.toNatClampNeg) + 1))), .val (.int (nI (i + 1))), .val (.int u29), .val (.int (44 : Int32))]) rfl ?_
                    refine r_goto C dX2_itemEnd_123 ?_
                    have e54 : s10 = d_X2_itemEnd_L24 R_x m e0 u1 n8 (pt Rd 1 i u39) ((pz + u29.toNatClampNeg) + 1) (i + 1) := by rw [hs10, d_X2_itemEnd_L24]; try exact (if_neg c23).trans ((if_neg c25).trans ((lt_eq hu29).trans ((if_neg c37).trans ((lt_eq hu39).trans ((if_neg c49).trans ((if_neg c50).trans ((if_pos c53).trans (rfl))))))))
                    exact ih9 (pt Rd 1 i u39) ((pz + u29.toNatClampNeg) + 1) (i + 1) _ (.val (.int u29)) rfl (.val (.int (44 : Int32))) rfl trivial (by omega) (by omega) (by omega) hb47 hb48 s10 e54 hr22 kx11
                  · skip
                    refine r_bipush C dX2_itemEnd_114 (-4 : Int32) (by decide) ?_
                    refine r_iret C dX2_itemEnd_116 ?_
                    have er : res = ((-4 : Int32), (pt Rd 1 i u39)) := hr22 _ (by rw [hs10, d_X2_itemEnd_L24]; try exact (if_neg c23).trans ((if_neg c25).trans ((lt_eq hu29).trans ((if_neg c37).trans ((lt_eq hu39).trans ((if_neg c49).trans ((if_neg c50).trans ((if_neg c53).trans (rfl)))))))))
                    rw [er]
                    exact ⟨rfl, hb47⟩
              · skip
                refine r_bipush C dX2_itemEnd_90 (59 : Int32) (by decide) ?_
                refine r_goto C dX2_itemEnd_92 ?_
                refine r_istore C dX2_itemEnd_97 (ls' := [.val (.ref o_d), .val (.ref o_x), .val (.int e0), .val (.int place), .val (.int u1), .val (.int (nI (pz + u29.toNatClampNeg))), .val (.int (nI i)), .val (.int u29), .val (.int (59 : Int32))]) rfl hz13 rfl ?_
                refine r_iload C dX2_itemEnd_99 rfl ?_
                refine r_iload_n C dX2_itemEnd_101 rfl ?_
                refine r_ic_ge C dX2_itemEnd_102 (fun c55 => ?_) (fun c55 => ?_)
                · skip
                  have f56 : (e0.toNatClampNeg ≤ (pz + u29.toNatClampNeg)) := nf_leI (by omega) (by omega) he0 rfl c55
                  refine r_bipush C dX2_itemEnd_114 (-4 : Int32) (by decide) ?_
                  refine r_iret C dX2_itemEnd_116 ?_
                  have er : res = ((-4 : Int32), (pt Rd 1 i u39)) := hr22 _ (by rw [hs10, d_X2_itemEnd_L24]; try exact (if_neg c23).trans ((if_neg c25).trans ((lt_eq hu29).trans ((if_neg c37).trans ((lt_eq hu39).trans ((if_pos c49).trans ((if_pos c55).trans (rfl))))))))
                  rw [er]
                  exact ⟨rfl, hb47⟩
                · skip
                  have f57 : ¬ (e0.toNatClampNeg ≤ (pz + u29.toNatClampNeg)) := nf_leIn (by omega) (by omega) he0 rfl c55
                  refine r_aload_n C dX2_itemEnd_105 rfl ?_
                  refine r_iload C dX2_itemEnd_106 rfl ?_
                  refine r_cald C hb48 (k := 0) rfl rfl (vp_in_n rfl (by omega) (by omega)) (j := (pz + u29.toNatClampNeg)) (cl_n rfl (by omega)) dX2_itemEnd_108 ?_
                  refine r_iload C dX2_itemEnd_109 rfl ?_
                  refine r_ic_eq C dX2_itemEnd_111 (fun c58 => ?_) (fun c58 => ?_)
                  · skip
                    refine r_iinc C dX2_itemEnd_117 (nI ((pz + u29.toNatClampNeg) + 1)) rfl (nI_inc (pz + u29.toNatClampNeg) rfl) (ls' := [.val (.ref o_d), .val (.ref o_x), .val (.int e0), .val (.int place), .val (.int u1), .val (.int (nI ((pz + u29.toNatClampNeg) + 1))), .val (.int (nI i)), .val (.int u29), .val (.int (59 : Int32))]) rfl ?_
                    refine r_iinc C dX2_itemEnd_120 (nI (i + 1)) rfl (nI_inc i rfl) (ls' := [.val (.ref o_d), .val (.ref o_x), .val (.int e0), .val (.int place), .val (.int u1), .val (.int (nI ((pz + u29.toNatClampNeg) + 1))), .val (.int (nI (i + 1))), .val (.int u29), .val (.int (59 : Int32))]) rfl ?_
                    refine r_goto C dX2_itemEnd_123 ?_
                    have e59 : s10 = d_X2_itemEnd_L24 R_x m e0 u1 n8 (pt Rd 1 i u39) ((pz + u29.toNatClampNeg) + 1) (i + 1) := by rw [hs10, d_X2_itemEnd_L24]; try exact (if_neg c23).trans ((if_neg c25).trans ((lt_eq hu29).trans ((if_neg c37).trans ((lt_eq hu39).trans ((if_pos c49).trans ((if_neg c55).trans ((if_pos c58).trans (rfl))))))))
                    exact ih9 (pt Rd 1 i u39) ((pz + u29.toNatClampNeg) + 1) (i + 1) _ (.val (.int u29)) rfl (.val (.int (59 : Int32))) rfl trivial (by omega) (by omega) (by omega) hb47 hb48 s10 e59 hr22 kx11
                  · skip
                    refine r_bipush C dX2_itemEnd_114 (-4 : Int32) (by decide) ?_
                    refine r_iret C dX2_itemEnd_116 ?_
                    have er : res = ((-4 : Int32), (pt Rd 1 i u39)) := hr22 _ (by rw [hs10, d_X2_itemEnd_L24]; try exact (if_neg c23).trans ((if_neg c25).trans ((lt_eq hu29).trans ((if_neg c37).trans ((lt_eq hu39).trans ((if_pos c49).trans ((if_neg c55).trans ((if_neg c58).trans (rfl)))))))))
                    rw [er]
                    exact ⟨rfl, hb47⟩
            · skip
              have f60 : (u29.toNatClampNeg = 0) := nf_eq (by omega) (by omega) hn33 rfl c37
              refine r_bipush C dX2_itemEnd_55 (-4 : Int32) (by decide) ?_
              refine r_iret C dX2_itemEnd_57 ?_
              have er : res = ((-4 : Int32), Rd) := hr22 _ (by rw [hs10, d_X2_itemEnd_L24]; try exact (if_neg c23).trans ((if_neg c25).trans ((lt_eq hu29).trans ((if_pos c37).trans (rfl)))))
              rw [er]
              exact ⟨rfl, hb35⟩
    obtain ⟨s61, hs61⟩ : ∃ r, r = d_X2_itemEnd_L24 R_x m e0 u1 5 R_d (place.toNatClampNeg + 1) 0 := ⟨_, rfl⟩
    refine d_X2_itemEnd_L24_w 5 R_d (place.toNatClampNeg + 1) 0 _ .unset trivial .unset trivial trivial (by omega) (by omega) (by omega) hb5 hb6 s61 hs61 (fun r e => by rw [hres, d_X2_itemEnd]; exact (lt_eq hu1).trans ((if_neg c7).trans (sc_inl (hs61.symm.trans e)))) (fun w62 H65 z18 hz18 z19 hz19 z20 hz20 e66  hb63 hb64 => ?_)
    have hx67 : d_X2_itemEnd_L24 R_x m e0 u1 5 R_d (place.toNatClampNeg + 1) 0 = .inr w62 := hs61.symm.trans e66
    refine r_iload C dX2_itemEnd_126 rfl ?_
    refine r_iret C dX2_itemEnd_128 ?_
    have er : res = ((nI w62.2), w62.1) := by rw [hres, d_X2_itemEnd]; try exact (lt_eq hu1).trans ((if_neg c7).trans ((sc_inr hx67).trans (rfl)))
    rw [er]
    exact ⟨rfl, hb63⟩
  · skip
    refine r_bipush C dX2_itemEnd_13 (-4 : Int32) (by decide) ?_
    refine r_iret C dX2_itemEnd_15 ?_
    have er : res = ((-4 : Int32), R_d) := by rw [hres, d_X2_itemEnd]; try exact (lt_eq hu1).trans ((if_pos c7).trans (rfl))
    rw [er]
    exact ⟨rfl, hb5⟩
theorem X2_itemEnd_L {Rx : Nat → Nat → Int32} {m : Nat} {e0 w : Int32} (hm : m ≤ 200) (he : e0 = nI e0.toNatClampNeg) (he2 : e0.toNatClampNeg ≤ m) : ∀ (n : Nat) (Rd : Nat → Nat → Int32) (q i : Nat), q ≤ e0.toNatClampNeg → (∀ r, d_X2_itemEnd_L24 Rx m e0 w n Rd q i = .inl r → r.1 = -4) ∧ (∀ s, d_X2_itemEnd_L24 Rx m e0 w n Rd q i = .inr s → s.2 ≤ e0.toNatClampNeg) := by
  intro n
  induction n with
  | zero =>
    intro Rd q i hq
    simp only [d_X2_itemEnd_L24]
    exact ⟨fun r h => (by cases h), fun s h => (by cases h; exact hq)⟩
  | succ n ih =>
    intro Rd q i hq
    have fin : ∀ (R' : Nat → Nat → Int32), (∀ r : Int32 × (Nat → Nat → Int32), (Sum.inr (R', q) : (Int32 × (Nat → Nat → Int32)) ⊕ ((Nat → Nat → Int32) × Nat)) = .inl r → r.1 = -4) ∧ (∀ s, (Sum.inr (R', q) : (Int32 × (Nat → Nat → Int32)) ⊕ ((Nat → Nat → Int32) × Nat)) = .inr s → s.2 ≤ e0.toNatClampNeg) := fun R' => ⟨fun r h => (by cases h), fun s h => (by cases h; exact hq)⟩
    have bad : ∀ (R' : Nat → Nat → Int32), (∀ r : Int32 × (Nat → Nat → Int32), (Sum.inl ((-4 : Int32), R') : (Int32 × (Nat → Nat → Int32)) ⊕ ((Nat → Nat → Int32) × Nat)) = .inl r → r.1 = -4) ∧ (∀ s, (Sum.inl ((-4 : Int32), R') : (Int32 × (Nat → Nat → Int32)) ⊕ ((Nat → Nat → Int32) × Nat)) = .inr s → s.2 ≤ e0.toNatClampNeg) := fun R' => ⟨fun r h => (by cases h; rfl), fun s h => (by cases h)⟩
    simp only [d_X2_itemEnd_L24, lt]
    obtain ⟨v, hv⟩ : ∃ v, v = d_X2_figuresAt Rx m e0 (nI q) := ⟨_, rfl⟩
    have hv2 := X2_figuresAt_nat hv
    simp only [← hv]
    split
    · exact fin _
    · split
      · exact fin _
      · split
        · exact bad _
        · split <;>
          · split
            · exact bad _
            · rename_i c
              have c' : ¬ e0.toNatClampNeg ≤ q + v.toNatClampNeg := nf_leIn (by omega) (by omega) he rfl c
              split
              · first | exact ih _ _ _ (by omega) | exact bad _
              · first | exact bad _ | exact ih _ _ _ (by omega)
theorem X2_itemEnd_nat {Rd Rx : Nat → Nat → Int32} {m : Nat} {e0 place : Int32} {u : Int32 × (Nat → Nat → Int32)} (hu : u = d_X2_itemEnd Rd Rx m e0 place) (h : ¬ u.1 = -4) (hp : place.toNatClampNeg < e0.toNatClampNeg) (hm : m ≤ 200) (he : e0 = nI e0.toNatClampNeg) (he2 : e0.toNatClampNeg ≤ m) : u.1 = nI u.1.toNatClampNeg ∧ u.1.toNatClampNeg ≤ e0.toNatClampNeg := by
  subst hu
  simp only [d_X2_itemEnd, lt, sc] at h ⊢
  split at h
  · exact absurd rfl h
  · rename_i c
    rw [if_neg c]
    have hL := X2_itemEnd_L (Rx := Rx) (w := d_X2_numbersBehind (Rx 0 place.toNatClampNeg)) hm he he2 5 Rd (place.toNatClampNeg + 1) 0 (by omega)
    split at h
    · rename_i r hr
      exact absurd (hL.1 r hr) h
    · rename_i s hs
      have hq := hL.2 s hs
      dsimp only
      rw [nI_clamp (by omega)]
      exact ⟨rfl, hq⟩
def d_X2_takes (R_d : Nat → Nat → Int32) (R_r : Nat → Nat → Int32) (letter : Int32) : Int32 × (Nat → Nat → Int32) :=
  if letter = (116 : Int32) then
    lt (d_X3_settle R_r (R_d 1 0) (R_d 1 1) (R_d 1 2) (R_d 1 3)) fun u27 =>
    (u27.1, u27.2)
  else
    if letter = (99 : Int32) then
      lt (d_X3_man R_r (R_d 1 0) (R_d 1 1)) fun u20 =>
      (u20.1, u20.2)
    else
      if letter = (119 : Int32) then
        lt (d_X3_goWay R_r (R_d 1 0) (R_d 1 1)) fun u13 =>
        (u13.1, u13.2)
      else
        if letter = (98 : Int32) then
          lt (d_X3_costWalls R_r (R_d 1 0)) fun u5 =>
          if u5.1 = 0 then
            ((0 : Int32), u5.2)
          else
            ((1 : Int32), u5.2)
        else
          ((0 : Int32), R_r)
set_option maxHeartbeats 4000000 in
set_option maxRecDepth 100000 in
theorem c_X2_takes (l : Launch) (D : DD) (o_d o_r : Nat) (R_d : Nat → Nat → Int32) (R_r : Nat → Nat → Int32) (letter : Int32) (hd : o_d + 2 ≤ o_r ∨ o_r + 15 ≤ o_d) (res : Int32 × (Nat → Nat → Int32)) (hres : res = d_X2_takes R_d R_r letter) : Mt l D yX2_takes cX2_takes 3 (some .boolean) 2 48 0 0 [.ref o_d, .int letter, .ref o_r] (fun H => blk D ksReader o_d R_d H ∧ blk D ksRiver o_r R_r H) (fun v H => v = some (.int res.1) ∧ bl res.1 ∧ blk D ksRiver o_r res.2 H) (fp1 o_r 15) := by
  refine mt_of (own := RX2) (ls := [.val (.ref o_d), .val (.int letter), .val (.ref o_r)]) rfl (by decide +kernel) rfl ?_
  intro x H C hP
  obtain ⟨hb_d, hb_r⟩ := hP
  refine r_iload_n C dX2_takes_0 rfl ?_
  refine r_bipush C dX2_takes_1 (116 : Int32) (by decide) ?_
  refine r_ic_ne C dX2_takes_3 (fun c1 => ?_) (fun c1 => ?_)
  · skip
    refine r_iload_n C dX2_takes_35 rfl ?_
    refine r_bipush C dX2_takes_36 (99 : Int32) (by decide) ?_
    refine r_ic_ne C dX2_takes_38 (fun c2 => ?_) (fun c2 => ?_)
    · skip
      refine r_iload_n C dX2_takes_58 rfl ?_
      refine r_bipush C dX2_takes_59 (119 : Int32) (by decide) ?_
      refine r_ic_ne C dX2_takes_61 (fun c3 => ?_) (fun c3 => ?_)
      · skip
        refine r_iload_n C dX2_takes_81 rfl ?_
        refine r_bipush C dX2_takes_82 (98 : Int32) (by decide) ?_
        refine r_ic_ne C dX2_takes_84 (fun c4 => ?_) (fun c4 => ?_)
        · skip
          refine r_iconst C dX2_takes_104 (0 : Int32) (by decide) ?_
          refine r_zret C dX2_takes_105 (Or.inl rfl) ?_
          have er : res = ((0 : Int32), R_r) := by rw [hres, d_X2_takes]; try exact (if_neg c1).trans ((if_neg c2).trans ((if_neg c3).trans ((if_neg c4).trans (rfl))))
          rw [er]
          exact ⟨rfl, (Or.inl rfl), hb_r⟩
        · skip
          refine r_aload_n C dX2_takes_87 rfl ?_
          refine r_aload_n C dX2_takes_88 rfl ?_
          refine r_get C hb_d (k := 0) rfl rfl celO_2 fw_X2_11 rfl dX2_takes_89 ?_
          refine r_iconst C dX2_takes_92 (0 : Int32) (by decide) ?_
          refine r_iald C hb_d (k := 1) rfl rfl (vp_in_c 0 rfl (by decide)) (j := 0) (cl_n rfl (by decide)) dX2_takes_93 ?_
          obtain ⟨u5, hu5⟩ : ∃ r, r = d_X3_costWalls R_r (R_d 1 0) := ⟨_, rfl⟩
          refine r_callV0 C cw_X2_60 (fun l => c_X3_costWalls l D o_r R_r (R_d 1 0) u5 hu5) (rest := []) hb_r (k := 0) rfl rfl celO_3 hb_r (fun q h => by unfold fp1 at h; unfold fp1; omega) rfl rfl rfl (Nat.le_of_ble_eq_true rfl) ⟨Nat.le_of_ble_eq_true rfl, Nat.le_of_ble_eq_true rfl, Nat.le_refl 0, Nat.le_refl 0⟩ dX2_takes_94 (fun v H6 hp7 hq8 => ?_)
          obtain ⟨rfl, hl9, hn10⟩ := hp7
          have hb11 := blk_kept hb_d (n := 2) rfl (fun q h1 h2 => hq8 q (by unfold fp1; omega))
          dsimp only [psh]
          refine r_if_eq C dX2_takes_97 (fun c12 => ?_) (fun c12 => ?_)
          · skip
            refine r_iconst C dX2_takes_104 (0 : Int32) (by decide) ?_
            refine r_zret C dX2_takes_105 (Or.inl rfl) ?_
            have er : res = ((0 : Int32), u5.2) := by rw [hres, d_X2_takes]; try exact (if_neg c1).trans ((if_neg c2).trans ((if_neg c3).trans ((if_pos c4).trans ((lt_eq hu5).trans ((if_pos c12).trans (rfl))))))
            rw [er]
            exact ⟨rfl, (Or.inl rfl), hn10⟩
          · skip
            refine r_iconst C dX2_takes_100 (1 : Int32) (by decide) ?_
            refine r_goto C dX2_takes_101 ?_
            refine r_zret C dX2_takes_105 (Or.inr rfl) ?_
            have er : res = ((1 : Int32), u5.2) := by rw [hres, d_X2_takes]; try exact (if_neg c1).trans ((if_neg c2).trans ((if_neg c3).trans ((if_pos c4).trans ((lt_eq hu5).trans ((if_neg c12).trans (rfl))))))
            rw [er]
            exact ⟨rfl, (Or.inr rfl), hn10⟩
      · skip
        refine r_aload_n C dX2_takes_64 rfl ?_
        refine r_aload_n C dX2_takes_65 rfl ?_
        refine r_get C hb_d (k := 0) rfl rfl celO_2 fw_X2_11 rfl dX2_takes_66 ?_
        refine r_iconst C dX2_takes_69 (0 : Int32) (by decide) ?_
        refine r_iald C hb_d (k := 1) rfl rfl (vp_in_c 0 rfl (by decide)) (j := 0) (cl_n rfl (by decide)) dX2_takes_70 ?_
        refine r_aload_n C dX2_takes_71 rfl ?_
        refine r_get C hb_d (k := 0) rfl rfl celO_2 fw_X2_11 rfl dX2_takes_72 ?_
        refine r_iconst C dX2_takes_75 (1 : Int32) (by decide) ?_
        refine r_iald C hb_d (k := 1) rfl rfl (vp_in_c 1 rfl (by decide)) (j := 1) (cl_n rfl (by decide)) dX2_takes_76 ?_
        obtain ⟨u13, hu13⟩ : ∃ r, r = d_X3_goWay R_r (R_d 1 0) (R_d 1 1) := ⟨_, rfl⟩
        refine r_callV0 C cw_X2_57 (fun l => c_X3_goWay l D o_r R_r (R_d 1 0) (R_d 1 1) u13 hu13) (rest := []) hb_r (k := 0) rfl rfl celO_3 hb_r (fun q h => by unfold fp1 at h; unfold fp1; omega) rfl rfl rfl (Nat.le_of_ble_eq_true rfl) ⟨Nat.le_of_ble_eq_true rfl, Nat.le_of_ble_eq_true rfl, Nat.le_refl 0, Nat.le_refl 0⟩ dX2_takes_77 (fun v H14 hp15 hq16 => ?_)
        obtain ⟨rfl, hl17, hn18⟩ := hp15
        have hb19 := blk_kept hb_d (n := 2) rfl (fun q h1 h2 => hq16 q (by unfold fp1; omega))
        dsimp only [psh]
        refine r_zret C dX2_takes_80 hl17 ?_
        have er : res = (u13.1, u13.2) := by rw [hres, d_X2_takes]; try exact (if_neg c1).trans ((if_neg c2).trans ((if_pos c3).trans ((lt_eq hu13).trans (rfl))))
        rw [er]
        exact ⟨rfl, hl17, hn18⟩
    · skip
      refine r_aload_n C dX2_takes_41 rfl ?_
      refine r_aload_n C dX2_takes_42 rfl ?_
      refine r_get C hb_d (k := 0) rfl rfl celO_2 fw_X2_11 rfl dX2_takes_43 ?_
      refine r_iconst C dX2_takes_46 (0 : Int32) (by decide) ?_
      refine r_iald C hb_d (k := 1) rfl rfl (vp_in_c 0 rfl (by decide)) (j := 0) (cl_n rfl (by decide)) dX2_takes_47 ?_
      refine r_aload_n C dX2_takes_48 rfl ?_
      refine r_get C hb_d (k := 0) rfl rfl celO_2 fw_X2_11 rfl dX2_takes_49 ?_
      refine r_iconst C dX2_takes_52 (1 : Int32) (by decide) ?_
      refine r_iald C hb_d (k := 1) rfl rfl (vp_in_c 1 rfl (by decide)) (j := 1) (cl_n rfl (by decide)) dX2_takes_53 ?_
      obtain ⟨u20, hu20⟩ : ∃ r, r = d_X3_man R_r (R_d 1 0) (R_d 1 1) := ⟨_, rfl⟩
      refine r_callV0 C cw_X2_53 (fun l => c_X3_man l D o_r R_r (R_d 1 0) (R_d 1 1) u20 hu20) (rest := []) hb_r (k := 0) rfl rfl celO_3 hb_r (fun q h => by unfold fp1 at h; unfold fp1; omega) rfl rfl rfl (Nat.le_of_ble_eq_true rfl) ⟨Nat.le_of_ble_eq_true rfl, Nat.le_of_ble_eq_true rfl, Nat.le_refl 0, Nat.le_refl 0⟩ dX2_takes_54 (fun v H21 hp22 hq23 => ?_)
      obtain ⟨rfl, hl24, hn25⟩ := hp22
      have hb26 := blk_kept hb_d (n := 2) rfl (fun q h1 h2 => hq23 q (by unfold fp1; omega))
      dsimp only [psh]
      refine r_zret C dX2_takes_57 hl24 ?_
      have er : res = (u20.1, u20.2) := by rw [hres, d_X2_takes]; try exact (if_neg c1).trans ((if_pos c2).trans ((lt_eq hu20).trans (rfl)))
      rw [er]
      exact ⟨rfl, hl24, hn25⟩
  · skip
    refine r_aload_n C dX2_takes_6 rfl ?_
    refine r_aload_n C dX2_takes_7 rfl ?_
    refine r_get C hb_d (k := 0) rfl rfl celO_2 fw_X2_11 rfl dX2_takes_8 ?_
    refine r_iconst C dX2_takes_11 (0 : Int32) (by decide) ?_
    refine r_iald C hb_d (k := 1) rfl rfl (vp_in_c 0 rfl (by decide)) (j := 0) (cl_n rfl (by decide)) dX2_takes_12 ?_
    refine r_aload_n C dX2_takes_13 rfl ?_
    refine r_get C hb_d (k := 0) rfl rfl celO_2 fw_X2_11 rfl dX2_takes_14 ?_
    refine r_iconst C dX2_takes_17 (1 : Int32) (by decide) ?_
    refine r_iald C hb_d (k := 1) rfl rfl (vp_in_c 1 rfl (by decide)) (j := 1) (cl_n rfl (by decide)) dX2_takes_18 ?_
    refine r_aload_n C dX2_takes_19 rfl ?_
    refine r_get C hb_d (k := 0) rfl rfl celO_2 fw_X2_11 rfl dX2_takes_20 ?_
    refine r_iconst C dX2_takes_23 (2 : Int32) (by decide) ?_
    refine r_iald C hb_d (k := 1) rfl rfl (vp_in_c 2 rfl (by decide)) (j := 2) (cl_n rfl (by decide)) dX2_takes_24 ?_
    refine r_aload_n C dX2_takes_25 rfl ?_
    refine r_get C hb_d (k := 0) rfl rfl celO_2 fw_X2_11 rfl dX2_takes_26 ?_
    refine r_iconst C dX2_takes_29 (3 : Int32) (by decide) ?_
    refine r_iald C hb_d (k := 1) rfl rfl (vp_in_c 3 rfl (by decide)) (j := 3) (cl_n rfl (by decide)) dX2_takes_30 ?_
    obtain ⟨u27, hu27⟩ : ∃ r, r = d_X3_settle R_r (R_d 1 0) (R_d 1 1) (R_d 1 2) (R_d 1 3) := ⟨_, rfl⟩
    refine r_callV0 C cw_X2_49 (fun l => c_X3_settle l D o_r R_r (R_d 1 0) (R_d 1 1) (R_d 1 2) (R_d 1 3) u27 hu27) (rest := []) hb_r (k := 0) rfl rfl celO_3 hb_r (fun q h => by unfold fp1 at h; unfold fp1; omega) rfl rfl rfl (Nat.le_of_ble_eq_true rfl) ⟨Nat.le_of_ble_eq_true rfl, Nat.le_of_ble_eq_true rfl, Nat.le_refl 0, Nat.le_refl 0⟩ dX2_takes_31 (fun v H28 hp29 hq30 => ?_)
    obtain ⟨rfl, hl31, hn32⟩ := hp29
    have hb33 := blk_kept hb_d (n := 2) rfl (fun q h1 h2 => hq30 q (by unfold fp1; omega))
    dsimp only [psh]
    refine r_zret C dX2_takes_34 hl31 ?_
    have er : res = (u27.1, u27.2) := by rw [hres, d_X2_takes]; try exact (if_pos c1).trans ((lt_eq hu27).trans (rfl))
    rw [er]
    exact ⟨rfl, hl31, hn32⟩

def d_X2_read_L18 (R_x : Nat → Nat → Int32) (m : Nat) (length : Int32) : Nat → (Nat → Nat → Int32) → (Nat → Nat → Int32) → Int32 → Nat → (Int32 × (Nat → Nat → Int32) × (Nat → Nat → Int32)) ⊕ ((Nat → Nat → Int32) × (Nat → Nat → Int32))
  | 0, Rd, Rr, _, _ => .inr (Rd, Rr)
  | n8 + 1, Rd, Rr, place, items =>
    if (imin length (nI m)) ≤ (nI items) then
      .inr (Rd, Rr)
    else
      if (imin length (nI m)) ≤ place then
        .inr (Rd, Rr)
      else
        lt (d_X2_itemEnd Rd R_x m (imin length (nI m)) place) fun u32 =>
        if u32.1 = (-4 : Int32) then
          .inl (place, u32.2, Rr)
        else
          lt (d_X2_takes u32.2 Rr (R_x 0 place.toNatClampNeg)) fun u42 =>
          if u42.1 = 0 then
            .inl (place, u32.2, u42.2)
          else
            d_X2_read_L18 R_x m length n8 u32.2 u42.2 u32.1 (items + 1)
def d_X2_read (R_d : Nat → Nat → Int32) (R_x : Nat → Nat → Int32) (R_r : Nat → Nat → Int32) (m : Nat) (length : Int32) : Int32 × (Nat → Nat → Int32) × (Nat → Nat → Int32) :=
  lt (d_X3_clear R_r) fun u1 =>
  sc (d_X2_read_L18 R_x m length 201 R_d u1 (0 : Int32) 0) (fun r => r) fun w53 =>
  ((-4 : Int32), w53.1, w53.2)
set_option maxHeartbeats 4000000 in
set_option maxRecDepth 100000 in
theorem c_X2_read (l : Launch) (D : DD) (o_d o_x o_r : Nat) (R_d : Nat → Nat → Int32) (R_x : Nat → Nat → Int32) (R_r : Nat → Nat → Int32) (m : Nat) (length : Int32) (hm : m ≤ 200) (hlength : length = nI length.toNatClampNeg) (hllength : length.toNatClampNeg ≤ 200) (hd1 : o_d + 2 ≤ o_r ∨ o_r + 15 ≤ o_d) (hd2 : o_x < o_d ∨ o_d + 2 ≤ o_x) (hd3 : o_x < o_r ∨ o_r + 15 ≤ o_x) (res : Int32 × (Nat → Nat → Int32) × (Nat → Nat → Int32)) (hres : res = d_X2_read R_d R_x R_r m length) : Mt l D yX2_read cX2_read 8 (some .int) 3 75 0 0 [.ref o_d, .ref o_x, .int length, .ref o_r] (fun H => blk D ksReader o_d R_d H ∧ blk D (ksCh m) o_x R_x H ∧ blk D ksRiver o_r R_r H) (fun v H => v = some (.int res.1) ∧ blk D ksReader o_d res.2.1 H ∧ blk D ksRiver o_r res.2.2 H) (fp2 o_d 2 o_r 15) := by
  refine mt_of (own := RX2) (ls := [.val (.ref o_d), .val (.ref o_x), .val (.int length), .val (.ref o_r), .unset, .unset, .unset, .unset]) rfl (by decide +kernel) rfl ?_
  intro x H C hP
  obtain ⟨hb_d, hb_x, hb_r⟩ := hP
  refine r_aload_n C dX2_read_0 rfl ?_
  obtain ⟨u1, hu1⟩ : ∃ r, r = d_X3_clear R_r := ⟨_, rfl⟩
  refine r_callV0 C cw_X2_15 (fun l => c_X3_clear l D o_r R_r u1 hu1) (rest := []) hb_r (k := 0) rfl rfl celO_3 hb_r (fun q h => by unfold fp1 at h; unfold fp2; omega) rfl rfl rfl (Nat.le_of_ble_eq_true rfl) ⟨Nat.le_of_ble_eq_true rfl, Nat.le_of_ble_eq_true rfl, Nat.le_refl 0, Nat.le_refl 0⟩ dX2_read_1 (fun v H2 hp3 hq4 => ?_)
  obtain ⟨rfl, hn5⟩ := hp3
  have hb6 := blk_kept hb_d (n := 2) rfl (fun q h1 h2 => hq4 q (by unfold fp1; omega))
  have hb7 := blk_kept hb_x (n := 1) rfl (fun q h1 h2 => hq4 q (by unfold fp1; omega))
  dsimp only [psh]
  refine r_iload_n C dX2_read_4 rfl ?_
  refine r_aload_n C dX2_read_5 rfl ?_
  refine r_alen C hb7 (k := 0) rfl rfl m (Or.inr (Or.inl ⟨rfl, rfl⟩)) dX2_read_6 ?_
  refine r_mmin C mw_X2_20 rfl ⟨Nat.le_of_ble_eq_true rfl, Nat.le_of_ble_eq_true rfl, Nat.le_refl 0, Nat.le_refl 0⟩ dX2_read_7 ?_
  refine r_istore C dX2_read_10 (ls' := [.val (.ref o_d), .val (.ref o_x), .val (.int length), .val (.ref o_r), .val (.int (imin length (nI m))), .unset, .unset, .unset]) rfl trivial rfl ?_
  refine r_iconst C dX2_read_12 (0 : Int32) (by decide) ?_
  refine r_istore C dX2_read_13 (ls' := [.val (.ref o_d), .val (.ref o_x), .val (.int length), .val (.ref o_r), .val (.int (imin length (nI m))), .val (.int (0 : Int32)), .unset, .unset]) rfl trivial rfl ?_
  refine r_iconst C dX2_read_15 (0 : Int32) (by decide) ?_
  refine r_istore C dX2_read_16 (ls' := [.val (.ref o_d), .val (.ref o_x), .val (.int length), .val (.ref o_r), .val (.int (imin length (nI m))), .val (.int (0 : Int32)), .val (.int (0 : Int32)), .unset]) rfl trivial rfl ?_
  have q12 := cl_n (x := (0 : Int32)) (n := 0) rfl (by omega)
  have d_X2_read_L18_w : ∀ (n8 : Nat) (Rd : Nat → Nat → Int32) (Rr : Nat → Nat → Int32) (place : Int32) (items : Nat) (H17 : Heap) (z13 : Slot) (_ : slot1 z13), True → (place = nI place.toNatClampNeg) → (items ≤ min length.toNatClampNeg m) → (place.toNatClampNeg ≤ min length.toNatClampNeg m) → ((min length.toNatClampNeg m) - items < n8) → blk D ksReader o_d Rd H17 → blk D (ksCh m) o_x R_x H17 → blk D ksRiver o_r Rr H17 → ∀ s10 : (Int32 × (Nat → Nat → Int32) × (Nat → Nat → Int32)) ⊕ ((Nat → Nat → Int32) × (Nat → Nat → Int32)), s10 = d_X2_read_L18 R_x m length n8 Rd Rr place items → (∀ r, s10 = .inl r → res = r) → (∀ (w18 : (Nat → Nat → Int32) × (Nat → Nat → Int32)) (H' : Heap) (z19 : Slot) (_ : slot1 z19) (z20 : Slot) (_ : slot1 z20) (z21 : Slot) (_ : slot1 z21), s10 = .inr w18 → blk D ksReader o_d w18.1 H' → blk D (ksCh m) o_x R_x H' → blk D ksRiver o_r w18.2 H' → WG x (fp2 o_d 2 o_r 15) (Fin x (fun v H => v = some (.int res.1) ∧ blk D ksReader o_d res.2.1 H ∧ blk D ksRiver o_r res.2.2 H) (fp2 o_d 2 o_r 15) 0 0) H' 0 0 75 [.val (.ref o_d), .val (.ref o_x), .val (.int length), .val (.ref o_r), .val (.int (imin length (nI m))), z19, z20, z21] []) → WG x (fp2 o_d 2 o_r 15) (Fin x (fun v H => v = some (.int res.1) ∧ blk D ksReader o_d res.2.1 H ∧ blk D ksRiver o_r res.2.2 H) (fp2 o_d 2 o_r 15) 0 0) H17 0 0 18 [.val (.ref o_d), .val (.ref o_x), .val (.int length), .val (.ref o_r), .val (.int (imin length (nI m))), .val (.int place), .val (.int (nI items)), z13] [] := by
    intro n8
    induction n8 with
    | zero => intro Rd Rr place items H17 z13 hz13 _ hn_place hi hp hm22; exact absurd hm22 (Nat.not_lt_zero _)
    | succ n8 ih9 =>
      intro Rd Rr place items H17 z13 hz13 _ hn_place hi hp hm22 hb14 hb15 hb16 s10 hs10 hr23 kx11
      refine r_iload C dX2_read_18 rfl ?_
      refine r_iload C dX2_read_20 rfl ?_
      refine r_ic_ge C dX2_read_22 (fun c24 => ?_) (fun c24 => ?_)
      · skip
        have f25 : ((min length.toNatClampNeg m) ≤ items) := nf_leI (by omega) (by omega) (imin_nn hlength rfl (by omega) (by omega)) rfl c24
        have e26 : s10 = .inr (Rd, Rr) := by rw [hs10, d_X2_read_L18]; try exact (if_pos c24).trans (rfl)
        exact kx11 (Rd, Rr) _ (.val (.int place)) rfl (.val (.int (nI items))) rfl z13 hz13 e26  hb14 hb15 hb16
      · skip
        have f27 : ¬ ((min length.toNatClampNeg m) ≤ items) := nf_leIn (by omega) (by omega) (imin_nn hlength rfl (by omega) (by omega)) rfl c24
        refine r_iload C dX2_read_25 rfl ?_
        refine r_iload C dX2_read_27 rfl ?_
        refine r_ic_ge C dX2_read_29 (fun c28 => ?_) (fun c28 => ?_)
        · skip
          have f29 : ((min length.toNatClampNeg m) ≤ place.toNatClampNeg) := nf_leI (by omega) (by omega) (imin_nn hlength rfl (by omega) (by omega)) hn_place c28
          have e30 : s10 = .inr (Rd, Rr) := by rw [hs10, d_X2_read_L18]; try exact (if_neg c24).trans ((if_pos c28).trans (rfl))
          exact kx11 (Rd, Rr) _ (.val (.int place)) rfl (.val (.int (nI items))) rfl z13 hz13 e30  hb14 hb15 hb16
        · skip
          have f31 : ¬ ((min length.toNatClampNeg m) ≤ place.toNatClampNeg) := nf_leIn (by omega) (by omega) (imin_nn hlength rfl (by omega) (by omega)) hn_place c28
          refine r_aload_n C dX2_read_32 rfl ?_
          refine r_aload_n C dX2_read_33 rfl ?_
          refine r_iload C dX2_read_34 rfl ?_
          refine r_iload C dX2_read_36 rfl ?_
          obtain ⟨u32, hu32⟩ : ∃ r, r = d_X2_itemEnd Rd R_x m (imin length (nI m)) place := ⟨_, rfl⟩
          refine r_callV0 C cw_X2_26 (fun l => c_X2_itemEnd l D o_d o_x Rd R_x m (imin length (nI m)) place (by omega) (nnat (a := (min length.toNatClampNeg m)) (imin_nn hlength rfl (by omega) (by omega)) (by omega)) (by have q0 := cl_n (x := (imin length (nI m))) (n := (min length.toNatClampNeg m)) (imin_nn hlength rfl (by omega) (by omega)) (by omega); omega) hn_place (by have q0 := cl_n (x := (imin length (nI m))) (n := (min length.toNatClampNeg m)) (imin_nn hlength rfl (by omega) (by omega)) (by omega); omega) (by omega) u32 hu32) (rest := []) hb14 (k := 0) rfl rfl celO_2 ⟨hb14, hb15⟩ (fun q h => by unfold fp1 at h; unfold fp2; omega) rfl rfl rfl (Nat.le_of_ble_eq_true rfl) ⟨Nat.le_of_ble_eq_true rfl, Nat.le_of_ble_eq_true rfl, Nat.le_refl 0, Nat.le_refl 0⟩ dX2_read_38 (fun v H33 hp34 hq35 => ?_)
          obtain ⟨rfl, hn36⟩ := hp34
          have hb37 := blk_kept hb15 (n := 1) rfl (fun q h1 h2 => hq35 q (by unfold fp1; omega))
          have hb38 := blk_kept hb16 (n := 15) rfl (fun q h1 h2 => hq35 q (by unfold fp1; omega))
          dsimp only [psh]
          refine r_istore C dX2_read_41 (ls' := [.val (.ref o_d), .val (.ref o_x), .val (.int length), .val (.ref o_r), .val (.int (imin length (nI m))), .val (.int place), .val (.int (nI items)), .val (.int u32.1)]) rfl hz13 rfl ?_
          refine r_iload C dX2_read_43 rfl ?_
          refine r_bipush C dX2_read_45 (-4 : Int32) (by decide) ?_
          refine r_ic_eq C dX2_read_47 (fun c39 => ?_) (fun c39 => ?_)
          · skip
            refine r_iload C dX2_read_62 rfl ?_
            refine r_iret C dX2_read_64 ?_
            have er : res = (place, u32.2, Rr) := hr23 _ (by rw [hs10, d_X2_read_L18]; try exact (if_neg c24).trans ((if_neg c28).trans ((lt_eq hu32).trans ((if_pos c39).trans (rfl)))))
            rw [er]
            exact ⟨rfl, hn36, hb38⟩
          · skip
            obtain ⟨hx40, hx41⟩ := X2_itemEnd_nat hu32 c39 (by rw [cl_n (imin_nn hlength rfl (by omega) (by omega)) (by omega)]; omega) (by omega) (nnat (imin_nn hlength rfl (by omega) (by omega)) (by omega)) (by rw [cl_n (imin_nn hlength rfl (by omega) (by omega)) (by omega)]; omega)
            rw [cl_n (imin_nn hlength rfl (by omega) (by omega)) (by omega)] at hx41
            refine r_aload_n C dX2_read_50 rfl ?_
            refine r_aload_n C dX2_read_51 rfl ?_
            refine r_iload C dX2_read_52 rfl ?_
            refine r_cald C hb37 (k := 0) rfl rfl (vp_in_n hn_place (by omega) (by omega)) (j := place.toNatClampNeg) (cl_n hn_place (by omega)) dX2_read_54 ?_
            refine r_aload_n C dX2_read_55 rfl ?_
            obtain ⟨u42, hu42⟩ : ∃ r, r = d_X2_takes u32.2 Rr (R_x 0 place.toNatClampNeg) := ⟨_, rfl⟩
            refine r_callV0 C cw_X2_30 (fun l => c_X2_takes l D o_d o_r u32.2 Rr (R_x 0 place.toNatClampNeg) (by omega) u42 hu42) (rest := []) hn36 (k := 0) rfl rfl celO_2 ⟨hn36, hb38⟩ (fun q h => by unfold fp1 at h; unfold fp2; omega) rfl rfl rfl (Nat.le_of_ble_eq_true rfl) ⟨Nat.le_of_ble_eq_true rfl, Nat.le_of_ble_eq_true rfl, Nat.le_refl 0, Nat.le_refl 0⟩ dX2_read_56 (fun v H43 hp44 hq45 => ?_)
            obtain ⟨rfl, hl46, hn47⟩ := hp44
            have hb48 := blk_kept hn36 (n := 2) rfl (fun q h1 h2 => hq45 q (by unfold fp1; omega))
            have hb49 := blk_kept hb37 (n := 1) rfl (fun q h1 h2 => hq45 q (by unfold fp1; omega))
            dsimp only [psh]
            refine r_if_ne C dX2_read_59 (fun c50 => ?_) (fun c50 => ?_)
            · skip
              refine r_iload C dX2_read_65 rfl ?_
              refine r_istore C dX2_read_67 (ls' := [.val (.ref o_d), .val (.ref o_x), .val (.int length), .val (.ref o_r), .val (.int (imin length (nI m))), .val (.int u32.1), .val (.int (nI items)), .val (.int u32.1)]) rfl rfl rfl ?_
              refine r_iinc C dX2_read_69 (nI (items + 1)) rfl (nI_inc items rfl) (ls' := [.val (.ref o_d), .val (.ref o_x), .val (.int length), .val (.ref o_r), .val (.int (imin length (nI m))), .val (.int u32.1), .val (.int (nI (items + 1))), .val (.int u32.1)]) rfl ?_
              refine r_goto C dX2_read_72 ?_
              have e51 : s10 = d_X2_read_L18 R_x m length n8 u32.2 u42.2 u32.1 (items + 1) := by rw [hs10, d_X2_read_L18]; try exact (if_neg c24).trans ((if_neg c28).trans ((lt_eq hu32).trans ((if_neg c39).trans ((lt_eq hu42).trans ((if_neg c50).trans (rfl))))))
              exact ih9 u32.2 u42.2 u32.1 (items + 1) _ (.val (.int u32.1)) rfl trivial hx40 (by omega) (by omega) (by omega) hb48 hb49 hn47 s10 e51 hr23 kx11
            · skip
              refine r_iload C dX2_read_62 rfl ?_
              refine r_iret C dX2_read_64 ?_
              have er : res = (place, u32.2, u42.2) := hr23 _ (by rw [hs10, d_X2_read_L18]; try exact (if_neg c24).trans ((if_neg c28).trans ((lt_eq hu32).trans ((if_neg c39).trans ((lt_eq hu42).trans ((if_pos c50).trans (rfl)))))))
              rw [er]
              exact ⟨rfl, hb48, hn47⟩
  obtain ⟨s52, hs52⟩ : ∃ r, r = d_X2_read_L18 R_x m length 201 R_d u1 (0 : Int32) 0 := ⟨_, rfl⟩
  refine d_X2_read_L18_w 201 R_d u1 (0 : Int32) 0 _ .unset trivial trivial (nnat (a := 0) rfl (by omega)) (by omega) (by omega) (by omega) hb6 hb7 hn5 s52 hs52 (fun r e => by rw [hres, d_X2_read]; exact (lt_eq hu1).trans (sc_inl (hs52.symm.trans e))) (fun w53 H57 z19 hz19 z20 hz20 z21 hz21 e58  hb54 hb55 hb56 => ?_)
  have hx59 : d_X2_read_L18 R_x m length 201 R_d u1 (0 : Int32) 0 = .inr w53 := hs52.symm.trans e58
  refine r_bipush C dX2_read_75 (-4 : Int32) (by decide) ?_
  refine r_iret C dX2_read_77 ?_
  have er : res = ((-4 : Int32), w53.1, w53.2) := by rw [hres, d_X2_read]; try exact (lt_eq hu1).trans ((sc_inr hx59).trans (rfl))
  rw [er]
  exact ⟨rfl, hb54, hb56⟩
def d_X4_dropOldest_L9 (n : Nat) : Nat → (Nat → Nat → Int32) → Nat → (Nat → Nat → Int32)
  | 0, Rs, _ => Rs
  | n2 + 1, Rs, i =>
    if (nI n) ≤ (nI i) then
      Rs
    else
      d_X4_dropOldest_L9 n n2 (pt Rs 1 (i - 1) (Rs 1 i)) (i + 1)
def d_X4_dropOldest (R_s : Nat → Nat → Int32) (n : Nat) : (Nat → Nat → Int32) :=
  lt (d_X4_dropOldest_L9 n (n + 1) R_s 1) fun s19 =>
  (pt (pt s19 1 (n - 1) (R_s 1 0)) 0 1 (nI (n - 1)))
set_option maxHeartbeats 4000000 in
set_option maxRecDepth 100000 in
theorem c_X4_dropOldest (l : Launch) (D : DD) (o_s : Nat) (R_s : Nat → Nat → Int32) (n : Nat) (hn : 0 < n) (hn2 : n ≤ 8) (hw : ∀ j, j < n → (R_s 1 j).toNatClampNeg < n) (res : (Nat → Nat → Int32)) (hres : res = d_X4_dropOldest R_s n) : Mt l D yX4_dropOldest cX4_dropOldest 3 none 0 0 0 0 [.ref o_s] (fun H => blk D (ksShelf n) o_s R_s H) (fun v H => v = none ∧ blk D (ksShelf n) o_s res H) (fp1 o_s (2 + 15 * n)) := by
  refine mt_of (own := RX4) (ls := [.val (.ref o_s), .unset, .unset]) rfl (by decide +kernel) rfl ?_
  intro x H C hP
  have hb_s := hP
  refine r_aload_n C dX4_dropOldest_0 rfl ?_
  refine r_get C hb_s (k := 0) rfl rfl celO_4 fw_X4_15 rfl dX4_dropOldest_1 ?_
  refine r_iconst C dX4_dropOldest_4 (0 : Int32) (by decide) ?_
  refine r_aaldS C hb_s (k := 1) rfl rfl (vp_in_n rfl (by omega) (by omega)) (j := 0) (cl_n rfl (by omega)) dX4_dropOldest_5 ?_
  have fw1 : (R_s 1 0).toNatClampNeg < n := hw _ (by omega)
  refine r_astore_n C dX4_dropOldest_6 (ls' := [.val (.ref o_s), .val (.ref ((o_s + 1) + 1 + 15 * (R_s 1 0).toNatClampNeg)), .unset]) rfl trivial rfl ?_
  refine r_iconst C dX4_dropOldest_7 (1 : Int32) (by decide) ?_
  refine r_istore_n C dX4_dropOldest_8 (ls' := [.val (.ref o_s), .val (.ref ((o_s + 1) + 1 + 15 * (R_s 1 0).toNatClampNeg)), .val (.int (1 : Int32))]) rfl trivial rfl ?_
  have d_X4_dropOldest_L9_w : ∀ (n2 : Nat) (Rs : Nat → Nat → Int32) (i : Nat) (H7 : Heap), True → (i ≤ n) → (1 ≤ i) → (∀ j, j < n → (Rs 1 j).toNatClampNeg < n) → (n - i < n2) → blk D (ksShelf n) o_s Rs H7 → ∀ s4 : (Nat → Nat → Int32), s4 = d_X4_dropOldest_L9 n n2 Rs i → (∀ (H' : Heap) (z8 : Slot) (_ : slot1 z8), True → blk D (ksShelf n) o_s s4 H' → WG x (fp1 o_s (2 + 15 * n)) (Fin x (fun v H => v = none ∧ blk D (ksShelf n) o_s res H) (fp1 o_s (2 + 15 * n)) 0 0) H' 0 0 38 [.val (.ref o_s), .val (.ref ((o_s + 1) + 1 + 15 * (R_s 1 0).toNatClampNeg)), z8] []) → WG x (fp1 o_s (2 + 15 * n)) (Fin x (fun v H => v = none ∧ blk D (ksShelf n) o_s res H) (fp1 o_s (2 + 15 * n)) 0 0) H7 0 0 9 [.val (.ref o_s), .val (.ref ((o_s + 1) + 1 + 15 * (R_s 1 0).toNatClampNeg)), .val (.int (nI i))] [] := by
    intro n2
    induction n2 with
    | zero => intro Rs i H7  _ hi h1 hwi hm9; exact absurd hm9 (Nat.not_lt_zero _)
    | succ n2 ih3 =>
      intro Rs i H7  _ hi h1 hwi hm9 hb6 s4 hs4  kx5
      refine r_iload_n C dX4_dropOldest_9 rfl ?_
      refine r_aload_n C dX4_dropOldest_10 rfl ?_
      refine r_get C hb6 (k := 0) rfl rfl celO_4 fw_X4_15 rfl dX4_dropOldest_11 ?_
      refine r_alen C hb6 (k := 1) rfl rfl n (Or.inr (Or.inr (Or.inr (Or.inr ⟨rfl, rfl⟩)))) dX4_dropOldest_14 ?_
      refine r_ic_ge C dX4_dropOldest_15 (fun c10 => ?_) (fun c10 => ?_)
      · skip
        have f11 : (n ≤ i) := nf_leI (by omega) (by omega) rfl rfl c10
        have e12 : s4 = Rs := by rw [hs4, d_X4_dropOldest_L9]; try exact (if_pos c10).trans (rfl)
        rw [e12] at kx5
        exact kx5 _ (.val (.int (nI i))) rfl trivial  hb6
      · skip
        have f13 : ¬ (n ≤ i) := nf_leIn (by omega) (by omega) rfl rfl c10
        refine r_aload_n C dX4_dropOldest_18 rfl ?_
        refine r_get C hb6 (k := 0) rfl rfl celO_4 fw_X4_15 rfl dX4_dropOldest_19 ?_
        refine r_iload_n C dX4_dropOldest_22 rfl ?_
        refine r_iconst C dX4_dropOldest_23 (1 : Int32) (by decide) ?_
        refine r_isubN C dX4_dropOldest_24 (na := i) (nb := 1) rfl rfl (by omega) (nc := (i - 1)) rfl ?_
        refine r_aload_n C dX4_dropOldest_25 rfl ?_
        refine r_get C hb6 (k := 0) rfl rfl celO_4 fw_X4_15 rfl dX4_dropOldest_26 ?_
        refine r_iload_n C dX4_dropOldest_29 rfl ?_
        refine r_aaldS C hb6 (k := 1) rfl rfl (vp_in_n rfl (by omega) (by omega)) (j := i) (cl_n rfl (by omega)) dX4_dropOldest_30 ?_
        have fw14 : (Rs 1 i).toNatClampNeg < n := hwi _ (by omega)
        refine r_aastS C hb6 (k := 1) rfl rfl (by unfold fp1; omega) (vp_in_n rfl (by omega) (by omega)) (j := (i - 1)) (cl_n rfl (by omega)) (k2 := (2 + 15 * (Rs 1 i).toNatClampNeg)) (kShelf_2_15 _ fw14) (by omega) (w := (Rs 1 i)) (by omega) dX4_dropOldest_31 (fun H15 hb17 hq16 => ?_)
        refine r_iinc C dX4_dropOldest_32 (nI (i + 1)) rfl (nI_inc i rfl) (ls' := [.val (.ref o_s), .val (.ref ((o_s + 1) + 1 + 15 * (R_s 1 0).toNatClampNeg)), .val (.int (nI (i + 1)))]) rfl ?_
        refine r_goto C dX4_dropOldest_35 ?_
        have e18 : s4 = d_X4_dropOldest_L9 n n2 (pt Rs 1 (i - 1) (Rs 1 i)) (i + 1) := by rw [hs4, d_X4_dropOldest_L9]; try exact (if_neg c10).trans (rfl)
        exact ih3 (pt Rs 1 (i - 1) (Rs 1 i)) (i + 1) _  trivial (by omega) (by omega) (pt_ok hwi (hwi _ (by omega))) (by omega) hb17 s4 e18  kx5
  obtain ⟨s19, hs19⟩ : ∃ r, r = d_X4_dropOldest_L9 n (n + 1) R_s 1 := ⟨_, rfl⟩
  refine d_X4_dropOldest_L9_w (n + 1) R_s 1 _  trivial (by omega) (by omega) hw (by omega) hb_s s19 hs19  (fun H21 z8 hz8 e22  hb20 => ?_)
  refine r_aload_n C dX4_dropOldest_38 rfl ?_
  refine r_get C hb20 (k := 0) rfl rfl celO_4 fw_X4_15 rfl dX4_dropOldest_39 ?_
  refine r_aload_n C dX4_dropOldest_42 rfl ?_
  refine r_get C hb20 (k := 0) rfl rfl celO_4 fw_X4_15 rfl dX4_dropOldest_43 ?_
  refine r_alen C hb20 (k := 1) rfl rfl n (Or.inr (Or.inr (Or.inr (Or.inr ⟨rfl, rfl⟩)))) dX4_dropOldest_46 ?_
  refine r_iconst C dX4_dropOldest_47 (1 : Int32) (by decide) ?_
  refine r_isubN C dX4_dropOldest_48 (na := n) (nb := 1) rfl rfl (by omega) (nc := (n - 1)) rfl ?_
  refine r_aload_n C dX4_dropOldest_49 rfl ?_
  refine r_aastS C hb20 (k := 1) rfl rfl (by unfold fp1; omega) (vp_in_n rfl (by omega) (by omega)) (j := (n - 1)) (cl_n rfl (by omega)) (k2 := (2 + 15 * (R_s 1 0).toNatClampNeg)) (kShelf_2_15 _ fw1) (by omega) (w := (R_s 1 0)) (by omega) dX4_dropOldest_50 (fun H23 hb25 hq24 => ?_)
  refine r_aload_n C dX4_dropOldest_51 rfl ?_
  refine r_aload_n C dX4_dropOldest_52 rfl ?_
  refine r_get C hb25 (k := 0) rfl rfl celO_4 fw_X4_15 rfl dX4_dropOldest_53 ?_
  refine r_alen C hb25 (k := 1) rfl rfl n (Or.inr (Or.inr (Or.inr (Or.inr ⟨rfl, rfl⟩)))) dX4_dropOldest_56 ?_
  refine r_iconst C dX4_dropOldest_57 (1 : Int32) (by decide) ?_
  refine r_isubN C dX4_dropOldest_58 (na := n) (nb := 1) rfl rfl (by omega) (nc := (n - 1)) rfl ?_
  refine r_put C hb25 (k := 0) rfl rfl (by unfold fp1; omega) fw_X4_22 fp_4_1 (Or.inr rfl) dX4_dropOldest_59 (fun H26 hb28 hq27 => ?_)
  refine r_vret C dX4_dropOldest_62 ?_
  have er : res = (pt (pt s19 1 (n - 1) (R_s 1 0)) 0 1 (nI (n - 1))) := by rw [hres, d_X4_dropOldest]; try exact (lt_eq hs19).trans (rfl)
  rw [er]
  exact ⟨rfl, hb28⟩
theorem X4_dropOldest_L {n : Nat} : ∀ (f : Nat) (R : Nat → Nat → Int32) (i : Nat), i ≤ n → (∀ j, j < n → (R 1 j).toNatClampNeg < n) → n ≤ 8 → ∀ j, j < n → (d_X4_dropOldest_L9 n f R i 1 j).toNatClampNeg < n := by
  intro f
  induction f with
  | zero => intro R i hi h hn; simpa only [d_X4_dropOldest_L9] using h
  | succ f ih =>
    intro R i hi h hn
    simp only [d_X4_dropOldest_L9]
    split
    · exact h
    · rename_i c
      have c' : ¬ n ≤ i := nf_leIn (by omega) (by omega) rfl rfl c
      exact ih _ _ (by omega) (pt_ok h (h _ (by omega))) hn
theorem X4_dropOldest_ok {n : Nat} {R u : Nat → Nat → Int32} (h : ∀ j, j < n → (R 1 j).toNatClampNeg < n) (hn : 0 < n) (hu : u = d_X4_dropOldest R n) (hn8 : n ≤ 8) : ∀ j, j < n → (u 1 j).toNatClampNeg < n := by
  subst hu
  have h2 := X4_dropOldest_L (n := n) (n + 1) R 1 (by omega) h hn8
  simp only [d_X4_dropOldest, lt]
  exact pt_ok (R := d_X4_dropOldest_L9 n (n + 1) R 1) h2 (h 0 hn)
def d_X4_put (R_s : Nat → Nat → Int32) (R_r : Nat → Nat → Int32) (n : Nat) : (Nat → Nat → Int32) :=
  if (R_s 0 1) < (nI n) then
    if (R_s 0 1) < 0 then
      R_s
    else
      if (nI n) ≤ (R_s 0 1) then
        R_s
      else
        lt (d_X3_copy (shf R_s (2 + 15 * (R_s 1 ((R_s 0 1).toNatClampNeg)).toNatClampNeg)) R_r) fun u5 =>
        (pt (spl R_s (2 + 15 * (R_s 1 ((R_s 0 1).toNatClampNeg)).toNatClampNeg) 15 u5) 0 1 (((spl R_s (2 + 15 * (R_s 1 ((R_s 0 1).toNatClampNeg)).toNatClampNeg) 15 u5) 0 1) + (1 : Int32)))
  else
    lt (d_X4_dropOldest R_s n) fun u16 =>
    if (u16 0 1) < 0 then
      u16
    else
      if (nI n) ≤ (u16 0 1) then
        u16
      else
        lt (d_X3_copy (shf u16 (2 + 15 * (u16 1 ((u16 0 1).toNatClampNeg)).toNatClampNeg)) R_r) fun u25 =>
        (pt (spl u16 (2 + 15 * (u16 1 ((u16 0 1).toNatClampNeg)).toNatClampNeg) 15 u25) 0 1 (((spl u16 (2 + 15 * (u16 1 ((u16 0 1).toNatClampNeg)).toNatClampNeg) 15 u25) 0 1) + (1 : Int32)))
set_option maxHeartbeats 4000000 in
set_option maxRecDepth 100000 in
theorem c_X4_put (l : Launch) (D : DD) (o_s o_r : Nat) (R_s : Nat → Nat → Int32) (R_r : Nat → Nat → Int32) (n : Nat) (hn : 0 < n) (hn2 : n ≤ 8) (hw : ∀ j, j < n → (R_s 1 j).toNatClampNeg < n) (hd : o_s + (2 + 15 * n) ≤ o_r ∨ o_r + 15 ≤ o_s) (res : (Nat → Nat → Int32)) (hres : res = d_X4_put R_s R_r n) : Mt l D yX4_put cX4_put 2 none 3 65 0 0 [.ref o_s, .ref o_r] (fun H => blk D (ksShelf n) o_s R_s H ∧ blk D ksRiver o_r R_r H) (fun v H => v = none ∧ blk D (ksShelf n) o_s res H) (fp1 o_s (2 + 15 * n)) := by
  refine mt_of (own := RX4) (ls := [.val (.ref o_s), .val (.ref o_r)]) rfl (by decide +kernel) rfl ?_
  intro x H C hP
  obtain ⟨hb_s, hb_r⟩ := hP
  refine r_aload_n C dX4_put_0 rfl ?_
  refine r_get C hb_s (k := 0) rfl rfl celO_4 fw_X4_22 (z := .int (R_s 0 1)) rfl dX4_put_1 ?_
  refine r_aload_n C dX4_put_4 rfl ?_
  refine r_get C hb_s (k := 0) rfl rfl celO_4 fw_X4_15 rfl dX4_put_5 ?_
  refine r_alen C hb_s (k := 1) rfl rfl n (Or.inr (Or.inr (Or.inr (Or.inr ⟨rfl, rfl⟩)))) dX4_put_8 ?_
  refine r_ic_lt C dX4_put_9 (fun c1 => ?_) (fun c1 => ?_)
  · skip
    refine r_aload_n C dX4_put_16 rfl ?_
    refine r_get C hb_s (k := 0) rfl rfl celO_4 fw_X4_22 (z := .int (R_s 0 1)) rfl dX4_put_17 ?_
    refine r_if_lt C dX4_put_20 (fun c2 => ?_) (fun c2 => ?_)
    · skip
      refine r_vret C dX4_put_58 ?_
      have er : res = R_s := by rw [hres, d_X4_put]; try exact (if_pos c1).trans ((if_pos c2).trans (rfl))
      rw [er]
      exact ⟨rfl, hb_s⟩
    · skip
      refine r_aload_n C dX4_put_23 rfl ?_
      refine r_get C hb_s (k := 0) rfl rfl celO_4 fw_X4_22 (z := .int (R_s 0 1)) rfl dX4_put_24 ?_
      refine r_aload_n C dX4_put_27 rfl ?_
      refine r_get C hb_s (k := 0) rfl rfl celO_4 fw_X4_15 rfl dX4_put_28 ?_
      refine r_alen C hb_s (k := 1) rfl rfl n (Or.inr (Or.inr (Or.inr (Or.inr ⟨rfl, rfl⟩)))) dX4_put_31 ?_
      refine r_ic_ge C dX4_put_32 (fun c3 => ?_) (fun c3 => ?_)
      · skip
        refine r_vret C dX4_put_58 ?_
        have er : res = R_s := by rw [hres, d_X4_put]; try exact (if_pos c1).trans ((if_neg c2).trans ((if_pos c3).trans (rfl)))
        rw [er]
        exact ⟨rfl, hb_s⟩
      · skip
        refine r_aload_n C dX4_put_35 rfl ?_
        refine r_get C hb_s (k := 0) rfl rfl celO_4 fw_X4_15 rfl dX4_put_36 ?_
        refine r_aload_n C dX4_put_39 rfl ?_
        refine r_get C hb_s (k := 0) rfl rfl celO_4 fw_X4_22 (z := .int (R_s 0 1)) rfl dX4_put_40 ?_
        refine r_aaldS C hb_s (k := 1) rfl rfl (vp_in_lh (x_lo1 c2) (x_hi1 (N := n) c3 (by omega)) (by omega)) (j := (R_s 0 1).toNatClampNeg) rfl dX4_put_43 ?_
        have fw4 : (R_s 1 ((R_s 0 1).toNatClampNeg)).toNatClampNeg < n := hw _ (lt_of_in (vp_in_lh (x_lo1 c2) (x_hi1 (N := n) c3 (by omega)) (by omega)))
        refine r_aload_n C dX4_put_44 rfl ?_
        obtain ⟨u5, hu5⟩ : ∃ r, r = d_X3_copy (shf R_s (2 + 15 * (R_s 1 ((R_s 0 1).toNatClampNeg)).toNatClampNeg)) R_r := ⟨_, rfl⟩
        refine r_callV0 C cw_X4_29 (fun l => c_X3_copy l D ((o_s + 1) + 1 + 15 * (R_s 1 ((R_s 0 1).toNatClampNeg)).toNatClampNeg) o_r (shf R_s (2 + 15 * (R_s 1 ((R_s 0 1).toNatClampNeg)).toNatClampNeg)) R_r (by omega) u5 hu5) (rest := []) hb_s (k := (2 + 15 * (R_s 1 ((R_s 0 1).toNatClampNeg)).toNatClampNeg)) (kShelf_2_15 _ fw4) (by omega) celO_3 ⟨(blk_sub hb_s (2 + 15 * (R_s 1 ((R_s 0 1).toNatClampNeg)).toNatClampNeg) 15 (sShelf_2_15_15 _ fw4) (by omega)), hb_r⟩ (fun q h => by unfold fp1 at h; unfold fp1; omega) rfl rfl rfl (Nat.le_of_ble_eq_true rfl) ⟨Nat.le_of_ble_eq_true rfl, Nat.le_of_ble_eq_true rfl, Nat.le_refl 0, Nat.le_refl 0⟩ dX4_put_45 (fun v H6 hp7 hq8 => ?_)
        obtain ⟨rfl, hn9⟩ := hp7
        have hb10 := blk_spl hb_s (2 + 15 * (R_s 1 ((R_s 0 1).toNatClampNeg)).toNatClampNeg) 15 (sShelf_2_15_15 _ fw4) (by omega) hn9 (fun q h => hq8 q (by unfold fp1; omega))
        have hb11 := blk_kept hb_r (n := 15) rfl (fun q h1 h2 => hq8 q (by unfold fp1; omega))
        dsimp only [psh]
        refine r_aload_n C dX4_put_48 rfl ?_
        refine r_dup C dX4_put_49 rfl ?_
        refine r_get C hb10 (k := 0) rfl rfl celO_4 fw_X4_22 (z := .int ((spl R_s (2 + 15 * (R_s 1 ((R_s 0 1).toNatClampNeg)).toNatClampNeg) 15 u5) 0 1)) rfl dX4_put_50 ?_
        refine r_iconst C dX4_put_53 (1 : Int32) (by decide) ?_
        refine r_iadd C dX4_put_54 ?_
        refine r_put C hb10 (k := 0) rfl rfl (by unfold fp1; omega) fw_X4_22 fp_4_1 (Or.inr rfl) dX4_put_55 (fun H12 hb14 hq13 => ?_)
        have hb15 := blk_kept hb11 (n := 15) rfl (fun q h1 h2 => hq13 q (by omega))
        refine r_vret C dX4_put_58 ?_
        have er : res = (pt (spl R_s (2 + 15 * (R_s 1 ((R_s 0 1).toNatClampNeg)).toNatClampNeg) 15 u5) 0 1 (((spl R_s (2 + 15 * (R_s 1 ((R_s 0 1).toNatClampNeg)).toNatClampNeg) 15 u5) 0 1) + (1 : Int32))) := by rw [hres, d_X4_put]; try exact (if_pos c1).trans ((if_neg c2).trans ((if_neg c3).trans ((lt_eq hu5).trans (rfl))))
        rw [er]
        exact ⟨rfl, hb14⟩
  · skip
    refine r_aload_n C dX4_put_12 rfl ?_
    obtain ⟨u16, hu16⟩ : ∃ r, r = d_X4_dropOldest R_s n := ⟨_, rfl⟩
    refine r_callV0 C cw_X4_26 (fun l => c_X4_dropOldest l D o_s R_s n (by omega) (by omega) hw u16 hu16) (rest := []) hb_s (k := 0) rfl rfl celO_4 hb_s (fun q h => by unfold fp1 at h; unfold fp1; omega) rfl rfl rfl (Nat.le_of_ble_eq_true rfl) ⟨Nat.le_of_ble_eq_true rfl, Nat.le_of_ble_eq_true rfl, Nat.le_refl 0, Nat.le_refl 0⟩ dX4_put_13 (fun v H17 hp18 hq19 => ?_)
    obtain ⟨rfl, hn20⟩ := hp18
    have hb21 := blk_kept hb_r (n := 15) rfl (fun q h1 h2 => hq19 q (by unfold fp1; omega))
    dsimp only [psh]
    refine r_aload_n C dX4_put_16 rfl ?_
    refine r_get C hn20 (k := 0) rfl rfl celO_4 fw_X4_22 (z := .int (u16 0 1)) rfl dX4_put_17 ?_
    refine r_if_lt C dX4_put_20 (fun c22 => ?_) (fun c22 => ?_)
    · skip
      refine r_vret C dX4_put_58 ?_
      have er : res = u16 := by rw [hres, d_X4_put]; try exact (if_neg c1).trans ((lt_eq hu16).trans ((if_pos c22).trans (rfl)))
      rw [er]
      exact ⟨rfl, hn20⟩
    · skip
      refine r_aload_n C dX4_put_23 rfl ?_
      refine r_get C hn20 (k := 0) rfl rfl celO_4 fw_X4_22 (z := .int (u16 0 1)) rfl dX4_put_24 ?_
      refine r_aload_n C dX4_put_27 rfl ?_
      refine r_get C hn20 (k := 0) rfl rfl celO_4 fw_X4_15 rfl dX4_put_28 ?_
      refine r_alen C hn20 (k := 1) rfl rfl n (Or.inr (Or.inr (Or.inr (Or.inr ⟨rfl, rfl⟩)))) dX4_put_31 ?_
      refine r_ic_ge C dX4_put_32 (fun c23 => ?_) (fun c23 => ?_)
      · skip
        refine r_vret C dX4_put_58 ?_
        have er : res = u16 := by rw [hres, d_X4_put]; try exact (if_neg c1).trans ((lt_eq hu16).trans ((if_neg c22).trans ((if_pos c23).trans (rfl))))
        rw [er]
        exact ⟨rfl, hn20⟩
      · skip
        refine r_aload_n C dX4_put_35 rfl ?_
        refine r_get C hn20 (k := 0) rfl rfl celO_4 fw_X4_15 rfl dX4_put_36 ?_
        refine r_aload_n C dX4_put_39 rfl ?_
        refine r_get C hn20 (k := 0) rfl rfl celO_4 fw_X4_22 (z := .int (u16 0 1)) rfl dX4_put_40 ?_
        refine r_aaldS C hn20 (k := 1) rfl rfl (vp_in_lh (x_lo1 c22) (x_hi1 (N := n) c23 (by omega)) (by omega)) (j := (u16 0 1).toNatClampNeg) rfl dX4_put_43 ?_
        have fw24 : (u16 1 ((u16 0 1).toNatClampNeg)).toNatClampNeg < n := (X4_dropOldest_ok hw hn hu16 hn2) _ (lt_of_in (vp_in_lh (x_lo1 c22) (x_hi1 (N := n) c23 (by omega)) (by omega)))
        refine r_aload_n C dX4_put_44 rfl ?_
        obtain ⟨u25, hu25⟩ : ∃ r, r = d_X3_copy (shf u16 (2 + 15 * (u16 1 ((u16 0 1).toNatClampNeg)).toNatClampNeg)) R_r := ⟨_, rfl⟩
        refine r_callV0 C cw_X4_29 (fun l => c_X3_copy l D ((o_s + 1) + 1 + 15 * (u16 1 ((u16 0 1).toNatClampNeg)).toNatClampNeg) o_r (shf u16 (2 + 15 * (u16 1 ((u16 0 1).toNatClampNeg)).toNatClampNeg)) R_r (by omega) u25 hu25) (rest := []) hn20 (k := (2 + 15 * (u16 1 ((u16 0 1).toNatClampNeg)).toNatClampNeg)) (kShelf_2_15 _ fw24) (by omega) celO_3 ⟨(blk_sub hn20 (2 + 15 * (u16 1 ((u16 0 1).toNatClampNeg)).toNatClampNeg) 15 (sShelf_2_15_15 _ fw24) (by omega)), hb21⟩ (fun q h => by unfold fp1 at h; unfold fp1; omega) rfl rfl rfl (Nat.le_of_ble_eq_true rfl) ⟨Nat.le_of_ble_eq_true rfl, Nat.le_of_ble_eq_true rfl, Nat.le_refl 0, Nat.le_refl 0⟩ dX4_put_45 (fun v H26 hp27 hq28 => ?_)
        obtain ⟨rfl, hn29⟩ := hp27
        have hb30 := blk_spl hn20 (2 + 15 * (u16 1 ((u16 0 1).toNatClampNeg)).toNatClampNeg) 15 (sShelf_2_15_15 _ fw24) (by omega) hn29 (fun q h => hq28 q (by unfold fp1; omega))
        have hb31 := blk_kept hb21 (n := 15) rfl (fun q h1 h2 => hq28 q (by unfold fp1; omega))
        dsimp only [psh]
        refine r_aload_n C dX4_put_48 rfl ?_
        refine r_dup C dX4_put_49 rfl ?_
        refine r_get C hb30 (k := 0) rfl rfl celO_4 fw_X4_22 (z := .int ((spl u16 (2 + 15 * (u16 1 ((u16 0 1).toNatClampNeg)).toNatClampNeg) 15 u25) 0 1)) rfl dX4_put_50 ?_
        refine r_iconst C dX4_put_53 (1 : Int32) (by decide) ?_
        refine r_iadd C dX4_put_54 ?_
        refine r_put C hb30 (k := 0) rfl rfl (by unfold fp1; omega) fw_X4_22 fp_4_1 (Or.inr rfl) dX4_put_55 (fun H32 hb34 hq33 => ?_)
        have hb35 := blk_kept hb31 (n := 15) rfl (fun q h1 h2 => hq33 q (by omega))
        refine r_vret C dX4_put_58 ?_
        have er : res = (pt (spl u16 (2 + 15 * (u16 1 ((u16 0 1).toNatClampNeg)).toNatClampNeg) 15 u25) 0 1 (((spl u16 (2 + 15 * (u16 1 ((u16 0 1).toNatClampNeg)).toNatClampNeg) 15 u25) 0 1) + (1 : Int32))) := by rw [hres, d_X4_put]; try exact (if_neg c1).trans ((lt_eq hu16).trans ((if_neg c22).trans ((if_neg c23).trans ((lt_eq hu25).trans (rfl)))))
        rw [er]
        exact ⟨rfl, hb34⟩

def d_X4_takeInto (R_s : Nat → Nat → Int32) (R_r : Nat → Nat → Int32) (n : Nat) : (Nat → Nat → Int32) × (Nat → Nat → Int32) :=
  if (R_s 0 1) ≤ 0 then
    (R_s, R_r)
  else
    if (nI n) < (R_s 0 1) then
      (R_s, R_r)
    else
      lt (d_X3_copy R_r (shf (pt R_s 0 1 (nI ((R_s 0 1).toNatClampNeg - 1))) (2 + 15 * ((pt R_s 0 1 (nI ((R_s 0 1).toNatClampNeg - 1))) 1 ((R_s 0 1).toNatClampNeg - 1)).toNatClampNeg))) fun u12 =>
      ((pt R_s 0 1 (nI ((R_s 0 1).toNatClampNeg - 1))), u12)
set_option maxHeartbeats 4000000 in
set_option maxRecDepth 100000 in
theorem c_X4_takeInto (l : Launch) (D : DD) (o_s o_r : Nat) (R_s : Nat → Nat → Int32) (R_r : Nat → Nat → Int32) (n : Nat) (hn2 : n ≤ 8) (hw : ∀ j, j < n → (R_s 1 j).toNatClampNeg < n) (hm : R_s 0 1 = nI (R_s 0 1).toNatClampNeg) (hm2 : (R_s 0 1).toNatClampNeg ≤ n) (hd : o_s + (2 + 15 * n) ≤ o_r ∨ o_r + 15 ≤ o_s) (res : (Nat → Nat → Int32) × (Nat → Nat → Int32)) (hres : res = d_X4_takeInto R_s R_r n) : Mt l D yX4_takeInto cX4_takeInto 2 none 3 65 0 0 [.ref o_s, .ref o_r] (fun H => blk D (ksShelf n) o_s R_s H ∧ blk D ksRiver o_r R_r H) (fun v H => v = none ∧ blk D (ksShelf n) o_s res.1 H ∧ blk D ksRiver o_r res.2 H) (fp2 o_s (2 + 15 * n) o_r 15) := by
  refine mt_of (own := RX4) (ls := [.val (.ref o_s), .val (.ref o_r)]) rfl (by decide +kernel) rfl ?_
  intro x H C hP
  obtain ⟨hb_s, hb_r⟩ := hP
  refine r_aload_n C dX4_takeInto_0 rfl ?_
  refine r_get C hb_s (k := 0) rfl rfl celO_4 fw_X4_22 (z := .int (R_s 0 1)) rfl dX4_takeInto_1 ?_
  refine r_if_le C dX4_takeInto_4 (fun c1 => ?_) (fun c1 => ?_)
  · skip
    have f2 : ((R_s 0 1).toNatClampNeg ≤ 0) := nf_leI (by omega) (by omega) hm rfl c1
    refine r_vret C dX4_takeInto_42 ?_
    have er : res = (R_s, R_r) := by rw [hres, d_X4_takeInto]; try exact (if_pos c1).trans (rfl)
    rw [er]
    exact ⟨rfl, hb_s, hb_r⟩
  · skip
    have f3 : ¬ ((R_s 0 1).toNatClampNeg ≤ 0) := nf_leIn (by omega) (by omega) hm rfl c1
    refine r_aload_n C dX4_takeInto_7 rfl ?_
    refine r_get C hb_s (k := 0) rfl rfl celO_4 fw_X4_22 (z := .int (R_s 0 1)) rfl dX4_takeInto_8 ?_
    refine r_aload_n C dX4_takeInto_11 rfl ?_
    refine r_get C hb_s (k := 0) rfl rfl celO_4 fw_X4_15 rfl dX4_takeInto_12 ?_
    refine r_alen C hb_s (k := 1) rfl rfl n (Or.inr (Or.inr (Or.inr (Or.inr ⟨rfl, rfl⟩)))) dX4_takeInto_15 ?_
    refine r_ic_gt C dX4_takeInto_16 (fun c4 => ?_) (fun c4 => ?_)
    · skip
      have f5 : (n < (R_s 0 1).toNatClampNeg) := nf_ltI (by omega) (by omega) rfl hm c4
      refine r_vret C dX4_takeInto_42 ?_
      have er : res = (R_s, R_r) := by rw [hres, d_X4_takeInto]; try exact (if_neg c1).trans ((if_pos c4).trans (rfl))
      rw [er]
      exact ⟨rfl, hb_s, hb_r⟩
    · skip
      have f6 : ¬ (n < (R_s 0 1).toNatClampNeg) := nf_ltIn (by omega) (by omega) rfl hm c4
      refine r_aload_n C dX4_takeInto_19 rfl ?_
      refine r_dup C dX4_takeInto_20 rfl ?_
      refine r_get C hb_s (k := 0) rfl rfl celO_4 fw_X4_22 (z := .int (R_s 0 1)) rfl dX4_takeInto_21 ?_
      refine r_iconst C dX4_takeInto_24 (1 : Int32) (by decide) ?_
      refine r_isubN C dX4_takeInto_25 (na := (R_s 0 1).toNatClampNeg) (nb := 1) hm rfl (by omega) (nc := ((R_s 0 1).toNatClampNeg - 1)) rfl ?_
      refine r_put C hb_s (k := 0) rfl rfl (by unfold fp2; omega) fw_X4_22 fp_4_1 (Or.inr rfl) dX4_takeInto_26 (fun H7 hb9 hq8 => ?_)
      have hb10 := blk_kept hb_r (n := 15) rfl (fun q h1 h2 => hq8 q (by omega))
      refine r_aload_n C dX4_takeInto_29 rfl ?_
      refine r_aload_n C dX4_takeInto_30 rfl ?_
      refine r_get C hb9 (k := 0) rfl rfl celO_4 fw_X4_15 rfl dX4_takeInto_31 ?_
      refine r_aload_n C dX4_takeInto_34 rfl ?_
      refine r_get C hb9 (k := 0) rfl rfl celO_4 fw_X4_22 (z := .int (nI ((R_s 0 1).toNatClampNeg - 1))) rfl dX4_takeInto_35 ?_
      refine r_aaldS C hb9 (k := 1) rfl rfl (vp_in_n rfl (by omega) (by omega)) (j := ((R_s 0 1).toNatClampNeg - 1)) (cl_n rfl (by omega)) dX4_takeInto_38 ?_
      have fw11 : ((pt R_s 0 1 (nI ((R_s 0 1).toNatClampNeg - 1))) 1 ((R_s 0 1).toNatClampNeg - 1)).toNatClampNeg < n := hw _ (by omega)
      obtain ⟨u12, hu12⟩ : ∃ r, r = d_X3_copy R_r (shf (pt R_s 0 1 (nI ((R_s 0 1).toNatClampNeg - 1))) (2 + 15 * ((pt R_s 0 1 (nI ((R_s 0 1).toNatClampNeg - 1))) 1 ((R_s 0 1).toNatClampNeg - 1)).toNatClampNeg)) := ⟨_, rfl⟩
      refine r_callV0 C cw_X4_29 (fun l => c_X3_copy l D o_r ((o_s + 1) + 1 + 15 * ((pt R_s 0 1 (nI ((R_s 0 1).toNatClampNeg - 1))) 1 ((R_s 0 1).toNatClampNeg - 1)).toNatClampNeg) R_r (shf (pt R_s 0 1 (nI ((R_s 0 1).toNatClampNeg - 1))) (2 + 15 * ((pt R_s 0 1 (nI ((R_s 0 1).toNatClampNeg - 1))) 1 ((R_s 0 1).toNatClampNeg - 1)).toNatClampNeg)) (by omega) u12 hu12) (rest := []) hb10 (k := 0) rfl rfl celO_3 ⟨hb10, (blk_sub hb9 (2 + 15 * ((pt R_s 0 1 (nI ((R_s 0 1).toNatClampNeg - 1))) 1 ((R_s 0 1).toNatClampNeg - 1)).toNatClampNeg) 15 (sShelf_2_15_15 _ fw11) (by omega))⟩ (fun q h => by unfold fp1 at h; unfold fp2; omega) rfl rfl rfl (Nat.le_of_ble_eq_true rfl) ⟨Nat.le_of_ble_eq_true rfl, Nat.le_of_ble_eq_true rfl, Nat.le_refl 0, Nat.le_refl 0⟩ dX4_takeInto_39 (fun v H13 hp14 hq15 => ?_)
      obtain ⟨rfl, hn16⟩ := hp14
      have hb17 := blk_kept hb9 (n := (2 + 15 * n)) (lenShelf _) (fun q h1 h2 => hq15 q (by unfold fp1; omega))
      dsimp only [psh]
      refine r_vret C dX4_takeInto_42 ?_
      have er : res = ((pt R_s 0 1 (nI ((R_s 0 1).toNatClampNeg - 1))), u12) := by rw [hres, d_X4_takeInto]; try exact (if_neg c1).trans ((if_neg c4).trans ((lt_eq hu12).trans (rfl)))
      rw [er]
      exact ⟨rfl, hb17, hn16⟩
