theorem dX0_init_0 : decode cX0_init 0 = .ok (.aload_n 0, 1) := by decide +kernel
theorem dX0_init_1 : decode cX0_init 1 = .ok (.invokespecial 3, 3) := by decide +kernel
theorem dX0_init_4 : decode cX0_init 4 = .ok (.aload_n 0, 1) := by decide +kernel
theorem dX0_init_5 : decode cX0_init 5 = .ok (.iconst 4, 1) := by decide +kernel
theorem dX0_init_6 : decode cX0_init 6 = .ok (.newarray .char, 2) := by decide +kernel
theorem dX0_init_8 : decode cX0_init 8 = .ok (.putfield 9, 3) := by decide +kernel
theorem dX0_init_11 : decode cX0_init 11 = .ok (.aload_n 0, 1) := by decide +kernel
theorem dX0_init_12 : decode cX0_init 12 = .ok (.iconst 4, 1) := by decide +kernel
theorem dX0_init_13 : decode cX0_init 13 = .ok (.newarray .char, 2) := by decide +kernel
theorem dX0_init_15 : decode cX0_init 15 = .ok (.putfield 15, 3) := by decide +kernel
theorem dX0_init_18 : decode cX0_init 18 = .ok (.aload_n 0, 1) := by decide +kernel
theorem dX0_init_19 : decode cX0_init 19 = .ok (.iconst 4, 1) := by decide +kernel
theorem dX0_init_20 : decode cX0_init 20 = .ok (.newarray .char, 2) := by decide +kernel
theorem dX0_init_22 : decode cX0_init 22 = .ok (.putfield 18, 3) := by decide +kernel
theorem dX0_init_25 : decode cX0_init 25 = .ok (.aload_n 0, 1) := by decide +kernel
theorem dX0_init_26 : decode cX0_init 26 = .ok (.iconst 4, 1) := by decide +kernel
theorem dX0_init_27 : decode cX0_init 27 = .ok (.newarray .char, 2) := by decide +kernel
theorem dX0_init_29 : decode cX0_init 29 = .ok (.putfield 21, 3) := by decide +kernel
theorem dX0_init_32 : decode cX0_init 32 = .ok (.iconst 0, 1) := by decide +kernel
theorem dX0_init_33 : decode cX0_init 33 = .ok (.istore_n 1, 1) := by decide +kernel
theorem dX0_init_34 : decode cX0_init 34 = .ok (.iload_n 1, 1) := by decide +kernel
theorem dX0_init_35 : decode cX0_init 35 = .ok (.iconst 4, 1) := by decide +kernel
theorem dX0_init_36 : decode cX0_init 36 = .ok (.if_icmp .ge 41, 3) := by decide +kernel
theorem dX0_init_39 : decode cX0_init 39 = .ok (.aload_n 0, 1) := by decide +kernel
theorem dX0_init_40 : decode cX0_init 40 = .ok (.getfield 9, 3) := by decide +kernel
theorem dX0_init_43 : decode cX0_init 43 = .ok (.iload_n 1, 1) := by decide +kernel
theorem dX0_init_44 : decode cX0_init 44 = .ok (.bipush 45, 2) := by decide +kernel
theorem dX0_init_46 : decode cX0_init 46 = .ok (.castore, 1) := by decide +kernel
theorem dX0_init_47 : decode cX0_init 47 = .ok (.aload_n 0, 1) := by decide +kernel
theorem dX0_init_48 : decode cX0_init 48 = .ok (.getfield 15, 3) := by decide +kernel
theorem dX0_init_51 : decode cX0_init 51 = .ok (.iload_n 1, 1) := by decide +kernel
theorem dX0_init_52 : decode cX0_init 52 = .ok (.bipush 45, 2) := by decide +kernel
theorem dX0_init_54 : decode cX0_init 54 = .ok (.castore, 1) := by decide +kernel
theorem dX0_init_55 : decode cX0_init 55 = .ok (.aload_n 0, 1) := by decide +kernel
theorem dX0_init_56 : decode cX0_init 56 = .ok (.getfield 18, 3) := by decide +kernel
theorem dX0_init_59 : decode cX0_init 59 = .ok (.iload_n 1, 1) := by decide +kernel
theorem dX0_init_60 : decode cX0_init 60 = .ok (.bipush 45, 2) := by decide +kernel
theorem dX0_init_62 : decode cX0_init 62 = .ok (.castore, 1) := by decide +kernel
theorem dX0_init_63 : decode cX0_init 63 = .ok (.aload_n 0, 1) := by decide +kernel
theorem dX0_init_64 : decode cX0_init 64 = .ok (.getfield 21, 3) := by decide +kernel
theorem dX0_init_67 : decode cX0_init 67 = .ok (.iload_n 1, 1) := by decide +kernel
theorem dX0_init_68 : decode cX0_init 68 = .ok (.bipush 45, 2) := by decide +kernel
theorem dX0_init_70 : decode cX0_init 70 = .ok (.castore, 1) := by decide +kernel
theorem dX0_init_71 : decode cX0_init 71 = .ok (.iinc 1 1, 3) := by decide +kernel
theorem dX0_init_74 : decode cX0_init 74 = .ok (.goto (-40), 3) := by decide +kernel
theorem dX0_init_77 : decode cX0_init 77 = .ok (.return_, 1) := by decide +kernel
theorem dX0_has_0 : decode cX0_has 0 = .ok (.aload_n 0, 1) := by decide +kernel
theorem dX0_has_1 : decode cX0_has 1 = .ok (.getfield 9, 3) := by decide +kernel
theorem dX0_has_4 : decode cX0_has 4 = .ok (.iload_n 1, 1) := by decide +kernel
theorem dX0_has_5 : decode cX0_has 5 = .ok (.caload, 1) := by decide +kernel
theorem dX0_has_6 : decode cX0_has 6 = .ok (.bipush 45, 2) := by decide +kernel
theorem dX0_has_8 : decode cX0_has 8 = .ok (.if_icmp .eq 7, 3) := by decide +kernel
theorem dX0_has_11 : decode cX0_has 11 = .ok (.iconst 1, 1) := by decide +kernel
theorem dX0_has_12 : decode cX0_has 12 = .ok (.goto 4, 3) := by decide +kernel
theorem dX0_has_15 : decode cX0_has 15 = .ok (.iconst 0, 1) := by decide +kernel
theorem dX0_has_16 : decode cX0_has 16 = .ok (.ireturn, 1) := by decide +kernel
theorem dX0_members_0 : decode cX0_members 0 = .ok (.iconst 0, 1) := by decide +kernel
theorem dX0_members_1 : decode cX0_members 1 = .ok (.istore_n 1, 1) := by decide +kernel
theorem dX0_members_2 : decode cX0_members 2 = .ok (.iconst 0, 1) := by decide +kernel
theorem dX0_members_3 : decode cX0_members 3 = .ok (.istore_n 2, 1) := by decide +kernel
theorem dX0_members_4 : decode cX0_members 4 = .ok (.iload_n 2, 1) := by decide +kernel
theorem dX0_members_5 : decode cX0_members 5 = .ok (.iconst 4, 1) := by decide +kernel
theorem dX0_members_6 : decode cX0_members 6 = .ok (.if_icmp .ge 23, 3) := by decide +kernel
theorem dX0_members_9 : decode cX0_members 9 = .ok (.aload_n 0, 1) := by decide +kernel
theorem dX0_members_10 : decode cX0_members 10 = .ok (.iload_n 2, 1) := by decide +kernel
theorem dX0_members_11 : decode cX0_members 11 = .ok (.invokevirtual 24, 3) := by decide +kernel
theorem dX0_members_14 : decode cX0_members 14 = .ok (.ifCond .eq 9, 3) := by decide +kernel
theorem dX0_members_17 : decode cX0_members 17 = .ok (.iload_n 1, 1) := by decide +kernel
theorem dX0_members_18 : decode cX0_members 18 = .ok (.iconst 1, 1) := by decide +kernel
theorem dX0_members_19 : decode cX0_members 19 = .ok (.iload_n 2, 1) := by decide +kernel
theorem dX0_members_20 : decode cX0_members 20 = .ok (.ishl, 1) := by decide +kernel
theorem dX0_members_21 : decode cX0_members 21 = .ok (.ior, 1) := by decide +kernel
theorem dX0_members_22 : decode cX0_members 22 = .ok (.istore_n 1, 1) := by decide +kernel
theorem dX0_members_23 : decode cX0_members 23 = .ok (.iinc 2 1, 3) := by decide +kernel
theorem dX0_members_26 : decode cX0_members 26 = .ok (.goto (-22), 3) := by decide +kernel
theorem dX0_members_29 : decode cX0_members 29 = .ok (.iload_n 1, 1) := by decide +kernel
theorem dX0_members_30 : decode cX0_members 30 = .ok (.ireturn, 1) := by decide +kernel
theorem dX0_onlyMember_0 : decode cX0_onlyMember 0 = .ok (.iconst (-1), 1) := by decide +kernel
theorem dX0_onlyMember_1 : decode cX0_onlyMember 1 = .ok (.istore_n 1, 1) := by decide +kernel
theorem dX0_onlyMember_2 : decode cX0_onlyMember 2 = .ok (.iconst 0, 1) := by decide +kernel
theorem dX0_onlyMember_3 : decode cX0_onlyMember 3 = .ok (.istore_n 2, 1) := by decide +kernel
theorem dX0_onlyMember_4 : decode cX0_onlyMember 4 = .ok (.iload_n 2, 1) := by decide +kernel
theorem dX0_onlyMember_5 : decode cX0_onlyMember 5 = .ok (.iconst 4, 1) := by decide +kernel
theorem dX0_onlyMember_6 : decode cX0_onlyMember 6 = .ok (.if_icmp .ge 26, 3) := by decide +kernel
theorem dX0_onlyMember_9 : decode cX0_onlyMember 9 = .ok (.aload_n 0, 1) := by decide +kernel
theorem dX0_onlyMember_10 : decode cX0_onlyMember 10 = .ok (.iload_n 2, 1) := by decide +kernel
theorem dX0_onlyMember_11 : decode cX0_onlyMember 11 = .ok (.invokevirtual 24, 3) := by decide +kernel
theorem dX0_onlyMember_14 : decode cX0_onlyMember 14 = .ok (.ifCond .eq 12, 3) := by decide +kernel
theorem dX0_onlyMember_17 : decode cX0_onlyMember 17 = .ok (.iload_n 1, 1) := by decide +kernel
theorem dX0_onlyMember_18 : decode cX0_onlyMember 18 = .ok (.iconst (-1), 1) := by decide +kernel
theorem dX0_onlyMember_19 : decode cX0_onlyMember 19 = .ok (.if_icmp .eq 5, 3) := by decide +kernel
theorem dX0_onlyMember_22 : decode cX0_onlyMember 22 = .ok (.iconst (-1), 1) := by decide +kernel
theorem dX0_onlyMember_23 : decode cX0_onlyMember 23 = .ok (.ireturn, 1) := by decide +kernel
theorem dX0_onlyMember_24 : decode cX0_onlyMember 24 = .ok (.iload_n 2, 1) := by decide +kernel
theorem dX0_onlyMember_25 : decode cX0_onlyMember 25 = .ok (.istore_n 1, 1) := by decide +kernel
theorem dX0_onlyMember_26 : decode cX0_onlyMember 26 = .ok (.iinc 2 1, 3) := by decide +kernel
theorem dX0_onlyMember_29 : decode cX0_onlyMember 29 = .ok (.goto (-25), 3) := by decide +kernel
theorem dX0_onlyMember_32 : decode cX0_onlyMember 32 = .ok (.iload_n 1, 1) := by decide +kernel
theorem dX0_onlyMember_33 : decode cX0_onlyMember 33 = .ok (.ireturn, 1) := by decide +kernel
theorem dX0_areEdgesOfThoseIn_0 : decode cX0_areEdgesOfThoseIn 0 = .ok (.iconst 0, 1) := by decide +kernel
theorem dX0_areEdgesOfThoseIn_1 : decode cX0_areEdgesOfThoseIn 1 = .ok (.istore_n 1, 1) := by decide +kernel
theorem dX0_areEdgesOfThoseIn_2 : decode cX0_areEdgesOfThoseIn 2 = .ok (.iload_n 1, 1) := by decide +kernel
theorem dX0_areEdgesOfThoseIn_3 : decode cX0_areEdgesOfThoseIn 3 = .ok (.iconst 4, 1) := by decide +kernel
theorem dX0_areEdgesOfThoseIn_4 : decode cX0_areEdgesOfThoseIn 4 = .ok (.if_icmp .ge 41, 3) := by decide +kernel
theorem dX0_areEdgesOfThoseIn_7 : decode cX0_areEdgesOfThoseIn 7 = .ok (.aload_n 0, 1) := by decide +kernel
theorem dX0_areEdgesOfThoseIn_8 : decode cX0_areEdgesOfThoseIn 8 = .ok (.iload_n 1, 1) := by decide +kernel
theorem dX0_areEdgesOfThoseIn_9 : decode cX0_areEdgesOfThoseIn 9 = .ok (.invokevirtual 24, 3) := by decide +kernel
theorem dX0_areEdgesOfThoseIn_12 : decode cX0_areEdgesOfThoseIn 12 = .ok (.ifCond .ne 27, 3) := by decide +kernel
theorem dX0_areEdgesOfThoseIn_15 : decode cX0_areEdgesOfThoseIn 15 = .ok (.aload_n 0, 1) := by decide +kernel
theorem dX0_areEdgesOfThoseIn_16 : decode cX0_areEdgesOfThoseIn 16 = .ok (.getfield 18, 3) := by decide +kernel
theorem dX0_areEdgesOfThoseIn_19 : decode cX0_areEdgesOfThoseIn 19 = .ok (.iload_n 1, 1) := by decide +kernel
theorem dX0_areEdgesOfThoseIn_20 : decode cX0_areEdgesOfThoseIn 20 = .ok (.caload, 1) := by decide +kernel
theorem dX0_areEdgesOfThoseIn_21 : decode cX0_areEdgesOfThoseIn 21 = .ok (.bipush 45, 2) := by decide +kernel
theorem dX0_areEdgesOfThoseIn_23 : decode cX0_areEdgesOfThoseIn 23 = .ok (.if_icmp .ne 14, 3) := by decide +kernel
theorem dX0_areEdgesOfThoseIn_26 : decode cX0_areEdgesOfThoseIn 26 = .ok (.aload_n 0, 1) := by decide +kernel
theorem dX0_areEdgesOfThoseIn_27 : decode cX0_areEdgesOfThoseIn 27 = .ok (.getfield 21, 3) := by decide +kernel
theorem dX0_areEdgesOfThoseIn_30 : decode cX0_areEdgesOfThoseIn 30 = .ok (.iload_n 1, 1) := by decide +kernel
theorem dX0_areEdgesOfThoseIn_31 : decode cX0_areEdgesOfThoseIn 31 = .ok (.caload, 1) := by decide +kernel
theorem dX0_areEdgesOfThoseIn_32 : decode cX0_areEdgesOfThoseIn 32 = .ok (.bipush 45, 2) := by decide +kernel
theorem dX0_areEdgesOfThoseIn_34 : decode cX0_areEdgesOfThoseIn 34 = .ok (.if_icmp .eq 5, 3) := by decide +kernel
theorem dX0_areEdgesOfThoseIn_37 : decode cX0_areEdgesOfThoseIn 37 = .ok (.iconst 0, 1) := by decide +kernel
theorem dX0_areEdgesOfThoseIn_38 : decode cX0_areEdgesOfThoseIn 38 = .ok (.ireturn, 1) := by decide +kernel
theorem dX0_areEdgesOfThoseIn_39 : decode cX0_areEdgesOfThoseIn 39 = .ok (.iinc 1 1, 3) := by decide +kernel
theorem dX0_areEdgesOfThoseIn_42 : decode cX0_areEdgesOfThoseIn 42 = .ok (.goto (-40), 3) := by decide +kernel
theorem dX0_areEdgesOfThoseIn_45 : decode cX0_areEdgesOfThoseIn 45 = .ok (.iconst 1, 1) := by decide +kernel
theorem dX0_areEdgesOfThoseIn_46 : decode cX0_areEdgesOfThoseIn 46 = .ok (.ireturn, 1) := by decide +kernel
theorem dX1_init_0 : decode cX1_init 0 = .ok (.aload_n 0, 1) := by decide +kernel
theorem dX1_init_1 : decode cX1_init 1 = .ok (.invokespecial 1, 3) := by decide +kernel
theorem dX1_init_4 : decode cX1_init 4 = .ok (.aload_n 0, 1) := by decide +kernel
theorem dX1_init_5 : decode cX1_init 5 = .ok (.bipush 111, 2) := by decide +kernel
theorem dX1_init_7 : decode cX1_init 7 = .ok (.putfield 7, 3) := by decide +kernel
theorem dX1_init_10 : decode cX1_init 10 = .ok (.aload_n 0, 1) := by decide +kernel
theorem dX1_init_11 : decode cX1_init 11 = .ok (.aload_n 1, 1) := by decide +kernel
theorem dX1_init_12 : decode cX1_init 12 = .ok (.putfield 13, 3) := by decide +kernel
theorem dX1_init_15 : decode cX1_init 15 = .ok (.aload_n 0, 1) := by decide +kernel
theorem dX1_init_16 : decode cX1_init 16 = .ok (.aload_n 1, 1) := by decide +kernel
theorem dX1_init_17 : decode cX1_init 17 = .ok (.getfield 17, 3) := by decide +kernel
theorem dX1_init_20 : decode cX1_init 20 = .ok (.putfield 23, 3) := by decide +kernel
theorem dX1_init_23 : decode cX1_init 23 = .ok (.return_, 1) := by decide +kernel
theorem dX1_kind_0 : decode cX1_kind 0 = .ok (.aload_n 0, 1) := by decide +kernel
theorem dX1_kind_1 : decode cX1_kind 1 = .ok (.getfield 7, 3) := by decide +kernel
theorem dX1_kind_4 : decode cX1_kind 4 = .ok (.bipush 111, 2) := by decide +kernel
theorem dX1_kind_6 : decode cX1_kind 6 = .ok (.if_icmp .ne 22, 3) := by decide +kernel
theorem dX1_kind_9 : decode cX1_kind 9 = .ok (.aload_n 0, 1) := by decide +kernel
theorem dX1_kind_10 : decode cX1_kind 10 = .ok (.getfield 23, 3) := by decide +kernel
theorem dX1_kind_13 : decode cX1_kind 13 = .ok (.aload_n 0, 1) := by decide +kernel
theorem dX1_kind_14 : decode cX1_kind 14 = .ok (.getfield 13, 3) := by decide +kernel
theorem dX1_kind_17 : decode cX1_kind 17 = .ok (.getfield 17, 3) := by decide +kernel
theorem dX1_kind_20 : decode cX1_kind 20 = .ok (.if_icmp .eq 8, 3) := by decide +kernel
theorem dX1_kind_23 : decode cX1_kind 23 = .ok (.bipush 115, 2) := by decide +kernel
theorem dX1_kind_25 : decode cX1_kind 25 = .ok (.goto 7, 3) := by decide +kernel
theorem dX1_kind_28 : decode cX1_kind 28 = .ok (.aload_n 0, 1) := by decide +kernel
theorem dX1_kind_29 : decode cX1_kind 29 = .ok (.getfield 7, 3) := by decide +kernel
theorem dX1_kind_32 : decode cX1_kind 32 = .ok (.ireturn, 1) := by decide +kernel
theorem dX2_init_0 : decode cX2_init 0 = .ok (.aload_n 0, 1) := by decide +kernel
theorem dX2_init_1 : decode cX2_init 1 = .ok (.invokespecial 3, 3) := by decide +kernel
theorem dX2_init_4 : decode cX2_init 4 = .ok (.aload_n 0, 1) := by decide +kernel
theorem dX2_init_5 : decode cX2_init 5 = .ok (.bipush 36, 2) := by decide +kernel
theorem dX2_init_7 : decode cX2_init 7 = .ok (.newarray .boolean, 2) := by decide +kernel
theorem dX2_init_9 : decode cX2_init 9 = .ok (.putfield 9, 3) := by decide +kernel
theorem dX2_init_12 : decode cX2_init 12 = .ok (.aload_n 0, 1) := by decide +kernel
theorem dX2_init_13 : decode cX2_init 13 = .ok (.sipush 384, 3) := by decide +kernel
theorem dX2_init_16 : decode cX2_init 16 = .ok (.newarray .int, 2) := by decide +kernel
theorem dX2_init_18 : decode cX2_init 18 = .ok (.putfield 15, 3) := by decide +kernel
theorem dX2_init_21 : decode cX2_init 21 = .ok (.aload_n 0, 1) := by decide +kernel
theorem dX2_init_22 : decode cX2_init 22 = .ok (.sipush 384, 3) := by decide +kernel
theorem dX2_init_25 : decode cX2_init 25 = .ok (.newarray .int, 2) := by decide +kernel
theorem dX2_init_27 : decode cX2_init 27 = .ok (.putfield 19, 3) := by decide +kernel
theorem dX2_init_30 : decode cX2_init 30 = .ok (.return_, 1) := by decide +kernel
theorem dX2_layOut_0 : decode cX2_layOut 0 = .ok (.aload_n 0, 1) := by decide +kernel
theorem dX2_layOut_1 : decode cX2_layOut 1 = .ok (.aload_n 1, 1) := by decide +kernel
theorem dX2_layOut_2 : decode cX2_layOut 2 = .ok (.invokevirtual 22, 3) := by decide +kernel
theorem dX2_layOut_5 : decode cX2_layOut 5 = .ok (.bipush 6, 2) := by decide +kernel
theorem dX2_layOut_7 : decode cX2_layOut 7 = .ok (.invokestatic 28, 3) := by decide +kernel
theorem dX2_layOut_10 : decode cX2_layOut 10 = .ok (.putfield 34, 3) := by decide +kernel
theorem dX2_layOut_13 : decode cX2_layOut 13 = .ok (.iconst 0, 1) := by decide +kernel
theorem dX2_layOut_14 : decode cX2_layOut 14 = .ok (.istore_n 2, 1) := by decide +kernel
theorem dX2_layOut_15 : decode cX2_layOut 15 = .ok (.iload_n 2, 1) := by decide +kernel
theorem dX2_layOut_16 : decode cX2_layOut 16 = .ok (.aload_n 0, 1) := by decide +kernel
theorem dX2_layOut_17 : decode cX2_layOut 17 = .ok (.getfield 34, 3) := by decide +kernel
theorem dX2_layOut_20 : decode cX2_layOut 20 = .ok (.if_icmp .ge 64, 3) := by decide +kernel
theorem dX2_layOut_23 : decode cX2_layOut 23 = .ok (.iconst 0, 1) := by decide +kernel
theorem dX2_layOut_24 : decode cX2_layOut 24 = .ok (.istore_n 3, 1) := by decide +kernel
theorem dX2_layOut_25 : decode cX2_layOut 25 = .ok (.iload_n 3, 1) := by decide +kernel
theorem dX2_layOut_26 : decode cX2_layOut 26 = .ok (.aload_n 0, 1) := by decide +kernel
theorem dX2_layOut_27 : decode cX2_layOut 27 = .ok (.getfield 34, 3) := by decide +kernel
theorem dX2_layOut_30 : decode cX2_layOut 30 = .ok (.if_icmp .ge 48, 3) := by decide +kernel
theorem dX2_layOut_33 : decode cX2_layOut 33 = .ok (.aload_n 0, 1) := by decide +kernel
theorem dX2_layOut_34 : decode cX2_layOut 34 = .ok (.getfield 9, 3) := by decide +kernel
theorem dX2_layOut_37 : decode cX2_layOut 37 = .ok (.iload_n 2, 1) := by decide +kernel
theorem dX2_layOut_38 : decode cX2_layOut 38 = .ok (.iload_n 3, 1) := by decide +kernel
theorem dX2_layOut_39 : decode cX2_layOut 39 = .ok (.invokestatic 38, 3) := by decide +kernel
theorem dX2_layOut_42 : decode cX2_layOut 42 = .ok (.aload_n 1, 1) := by decide +kernel
theorem dX2_layOut_43 : decode cX2_layOut 43 = .ok (.iload_n 2, 1) := by decide +kernel
theorem dX2_layOut_44 : decode cX2_layOut 44 = .ok (.invokevirtual 41, 3) := by decide +kernel
theorem dX2_layOut_47 : decode cX2_layOut 47 = .ok (.checkcast 45, 3) := by decide +kernel
theorem dX2_layOut_50 : decode cX2_layOut 50 = .ok (.aload_n 1, 1) := by decide +kernel
theorem dX2_layOut_51 : decode cX2_layOut 51 = .ok (.iload_n 3, 1) := by decide +kernel
theorem dX2_layOut_52 : decode cX2_layOut 52 = .ok (.invokevirtual 41, 3) := by decide +kernel
theorem dX2_layOut_55 : decode cX2_layOut 55 = .ok (.checkcast 45, 3) := by decide +kernel
theorem dX2_layOut_58 : decode cX2_layOut 58 = .ok (.invokestatic 47, 3) := by decide +kernel
theorem dX2_layOut_61 : decode cX2_layOut 61 = .ok (.bipush 45, 2) := by decide +kernel
theorem dX2_layOut_63 : decode cX2_layOut 63 = .ok (.if_icmp .eq 7, 3) := by decide +kernel
theorem dX2_layOut_66 : decode cX2_layOut 66 = .ok (.iconst 1, 1) := by decide +kernel
theorem dX2_layOut_67 : decode cX2_layOut 67 = .ok (.goto 4, 3) := by decide +kernel
theorem dX2_layOut_70 : decode cX2_layOut 70 = .ok (.iconst 0, 1) := by decide +kernel
theorem dX2_layOut_71 : decode cX2_layOut 71 = .ok (.bastore, 1) := by decide +kernel
theorem dX2_layOut_72 : decode cX2_layOut 72 = .ok (.iinc 3 1, 3) := by decide +kernel
theorem dX2_layOut_75 : decode cX2_layOut 75 = .ok (.goto (-50), 3) := by decide +kernel
theorem dX2_layOut_78 : decode cX2_layOut 78 = .ok (.iinc 2 1, 3) := by decide +kernel
theorem dX2_layOut_81 : decode cX2_layOut 81 = .ok (.goto (-66), 3) := by decide +kernel
theorem dX2_layOut_84 : decode cX2_layOut 84 = .ok (.iconst 1, 1) := by decide +kernel
theorem dX2_layOut_85 : decode cX2_layOut 85 = .ok (.istore_n 2, 1) := by decide +kernel
theorem dX2_layOut_86 : decode cX2_layOut 86 = .ok (.iload_n 2, 1) := by decide +kernel
theorem dX2_layOut_87 : decode cX2_layOut 87 = .ok (.iconst 1, 1) := by decide +kernel
theorem dX2_layOut_88 : decode cX2_layOut 88 = .ok (.aload_n 0, 1) := by decide +kernel
theorem dX2_layOut_89 : decode cX2_layOut 89 = .ok (.getfield 34, 3) := by decide +kernel
theorem dX2_layOut_92 : decode cX2_layOut 92 = .ok (.ishl, 1) := by decide +kernel
theorem dX2_layOut_93 : decode cX2_layOut 93 = .ok (.if_icmp .ge 57, 3) := by decide +kernel
theorem dX2_layOut_96 : decode cX2_layOut 96 = .ok (.iconst 0, 1) := by decide +kernel
theorem dX2_layOut_97 : decode cX2_layOut 97 = .ok (.istore_n 3, 1) := by decide +kernel
theorem dX2_layOut_98 : decode cX2_layOut 98 = .ok (.iload_n 3, 1) := by decide +kernel
theorem dX2_layOut_99 : decode cX2_layOut 99 = .ok (.aload_n 0, 1) := by decide +kernel
theorem dX2_layOut_100 : decode cX2_layOut 100 = .ok (.getfield 34, 3) := by decide +kernel
theorem dX2_layOut_103 : decode cX2_layOut 103 = .ok (.if_icmp .ge 41, 3) := by decide +kernel
theorem dX2_layOut_106 : decode cX2_layOut 106 = .ok (.aload_n 0, 1) := by decide +kernel
theorem dX2_layOut_107 : decode cX2_layOut 107 = .ok (.getfield 15, 3) := by decide +kernel
theorem dX2_layOut_110 : decode cX2_layOut 110 = .ok (.iload_n 2, 1) := by decide +kernel
theorem dX2_layOut_111 : decode cX2_layOut 111 = .ok (.iload_n 3, 1) := by decide +kernel
theorem dX2_layOut_112 : decode cX2_layOut 112 = .ok (.invokestatic 38, 3) := by decide +kernel
theorem dX2_layOut_115 : decode cX2_layOut 115 = .ok (.aload_n 0, 1) := by decide +kernel
theorem dX2_layOut_116 : decode cX2_layOut 116 = .ok (.iload_n 3, 1) := by decide +kernel
theorem dX2_layOut_117 : decode cX2_layOut 117 = .ok (.iload_n 2, 1) := by decide +kernel
theorem dX2_layOut_118 : decode cX2_layOut 118 = .ok (.invokevirtual 51, 3) := by decide +kernel
theorem dX2_layOut_121 : decode cX2_layOut 121 = .ok (.iastore, 1) := by decide +kernel
theorem dX2_layOut_122 : decode cX2_layOut 122 = .ok (.aload_n 0, 1) := by decide +kernel
theorem dX2_layOut_123 : decode cX2_layOut 123 = .ok (.getfield 19, 3) := by decide +kernel
theorem dX2_layOut_126 : decode cX2_layOut 126 = .ok (.iload_n 2, 1) := by decide +kernel
theorem dX2_layOut_127 : decode cX2_layOut 127 = .ok (.iload_n 3, 1) := by decide +kernel
theorem dX2_layOut_128 : decode cX2_layOut 128 = .ok (.invokestatic 38, 3) := by decide +kernel
theorem dX2_layOut_131 : decode cX2_layOut 131 = .ok (.aload_n 0, 1) := by decide +kernel
theorem dX2_layOut_132 : decode cX2_layOut 132 = .ok (.iload_n 3, 1) := by decide +kernel
theorem dX2_layOut_133 : decode cX2_layOut 133 = .ok (.iload_n 2, 1) := by decide +kernel
theorem dX2_layOut_134 : decode cX2_layOut 134 = .ok (.invokevirtual 54, 3) := by decide +kernel
theorem dX2_layOut_137 : decode cX2_layOut 137 = .ok (.iastore, 1) := by decide +kernel
theorem dX2_layOut_138 : decode cX2_layOut 138 = .ok (.iinc 3 1, 3) := by decide +kernel
theorem dX2_layOut_141 : decode cX2_layOut 141 = .ok (.goto (-43), 3) := by decide +kernel
theorem dX2_layOut_144 : decode cX2_layOut 144 = .ok (.iinc 2 1, 3) := by decide +kernel
theorem dX2_layOut_147 : decode cX2_layOut 147 = .ok (.goto (-61), 3) := by decide +kernel
theorem dX2_layOut_150 : decode cX2_layOut 150 = .ok (.return_, 1) := by decide +kernel
theorem dX2_allGood_0 : decode cX2_allGood 0 = .ok (.iconst 1, 1) := by decide +kernel
theorem dX2_allGood_1 : decode cX2_allGood 1 = .ok (.aload_n 0, 1) := by decide +kernel
theorem dX2_allGood_2 : decode cX2_allGood 2 = .ok (.getfield 34, 3) := by decide +kernel
theorem dX2_allGood_5 : decode cX2_allGood 5 = .ok (.ishl, 1) := by decide +kernel
theorem dX2_allGood_6 : decode cX2_allGood 6 = .ok (.iconst 1, 1) := by decide +kernel
theorem dX2_allGood_7 : decode cX2_allGood 7 = .ok (.isub, 1) := by decide +kernel
theorem dX2_allGood_8 : decode cX2_allGood 8 = .ok (.istore_n 1, 1) := by decide +kernel
theorem dX2_allGood_9 : decode cX2_allGood 9 = .ok (.iconst 0, 1) := by decide +kernel
theorem dX2_allGood_10 : decode cX2_allGood 10 = .ok (.istore_n 2, 1) := by decide +kernel
theorem dX2_allGood_11 : decode cX2_allGood 11 = .ok (.iconst 0, 1) := by decide +kernel
theorem dX2_allGood_12 : decode cX2_allGood 12 = .ok (.istore_n 3, 1) := by decide +kernel
theorem dX2_allGood_13 : decode cX2_allGood 13 = .ok (.iload_n 3, 1) := by decide +kernel
theorem dX2_allGood_14 : decode cX2_allGood 14 = .ok (.aload_n 0, 1) := by decide +kernel
theorem dX2_allGood_15 : decode cX2_allGood 15 = .ok (.getfield 34, 3) := by decide +kernel
theorem dX2_allGood_18 : decode cX2_allGood 18 = .ok (.if_icmp .ge 22, 3) := by decide +kernel
theorem dX2_allGood_21 : decode cX2_allGood 21 = .ok (.iload_n 2, 1) := by decide +kernel
theorem dX2_allGood_22 : decode cX2_allGood 22 = .ok (.aload_n 0, 1) := by decide +kernel
theorem dX2_allGood_23 : decode cX2_allGood 23 = .ok (.getfield 15, 3) := by decide +kernel
theorem dX2_allGood_26 : decode cX2_allGood 26 = .ok (.iload_n 1, 1) := by decide +kernel
theorem dX2_allGood_27 : decode cX2_allGood 27 = .ok (.iload_n 3, 1) := by decide +kernel
theorem dX2_allGood_28 : decode cX2_allGood 28 = .ok (.invokestatic 38, 3) := by decide +kernel
theorem dX2_allGood_31 : decode cX2_allGood 31 = .ok (.iaload, 1) := by decide +kernel
theorem dX2_allGood_32 : decode cX2_allGood 32 = .ok (.iadd, 1) := by decide +kernel
theorem dX2_allGood_33 : decode cX2_allGood 33 = .ok (.istore_n 2, 1) := by decide +kernel
theorem dX2_allGood_34 : decode cX2_allGood 34 = .ok (.iinc 3 1, 3) := by decide +kernel
theorem dX2_allGood_37 : decode cX2_allGood 37 = .ok (.goto (-24), 3) := by decide +kernel
theorem dX2_allGood_40 : decode cX2_allGood 40 = .ok (.iload_n 2, 1) := by decide +kernel
theorem dX2_allGood_41 : decode cX2_allGood 41 = .ok (.ireturn, 1) := by decide +kernel
theorem dX2_leastWrong_0 : decode cX2_leastWrong 0 = .ok (.iconst 1, 1) := by decide +kernel
theorem dX2_leastWrong_1 : decode cX2_leastWrong 1 = .ok (.aload_n 0, 1) := by decide +kernel
theorem dX2_leastWrong_2 : decode cX2_leastWrong 2 = .ok (.getfield 34, 3) := by decide +kernel
theorem dX2_leastWrong_5 : decode cX2_leastWrong 5 = .ok (.ishl, 1) := by decide +kernel
theorem dX2_leastWrong_6 : decode cX2_leastWrong 6 = .ok (.iconst 1, 1) := by decide +kernel
theorem dX2_leastWrong_7 : decode cX2_leastWrong 7 = .ok (.isub, 1) := by decide +kernel
theorem dX2_leastWrong_8 : decode cX2_leastWrong 8 = .ok (.istore_n 1, 1) := by decide +kernel
theorem dX2_leastWrong_9 : decode cX2_leastWrong 9 = .ok (.sipush 1000, 3) := by decide +kernel
theorem dX2_leastWrong_12 : decode cX2_leastWrong 12 = .ok (.istore_n 2, 1) := by decide +kernel
theorem dX2_leastWrong_13 : decode cX2_leastWrong 13 = .ok (.iconst 0, 1) := by decide +kernel
theorem dX2_leastWrong_14 : decode cX2_leastWrong 14 = .ok (.istore_n 3, 1) := by decide +kernel
theorem dX2_leastWrong_15 : decode cX2_leastWrong 15 = .ok (.iload_n 3, 1) := by decide +kernel
theorem dX2_leastWrong_16 : decode cX2_leastWrong 16 = .ok (.aload_n 0, 1) := by decide +kernel
theorem dX2_leastWrong_17 : decode cX2_leastWrong 17 = .ok (.getfield 34, 3) := by decide +kernel
theorem dX2_leastWrong_20 : decode cX2_leastWrong 20 = .ok (.if_icmp .ge 24, 3) := by decide +kernel
theorem dX2_leastWrong_23 : decode cX2_leastWrong 23 = .ok (.iload_n 2, 1) := by decide +kernel
theorem dX2_leastWrong_24 : decode cX2_leastWrong 24 = .ok (.aload_n 0, 1) := by decide +kernel
theorem dX2_leastWrong_25 : decode cX2_leastWrong 25 = .ok (.getfield 19, 3) := by decide +kernel
theorem dX2_leastWrong_28 : decode cX2_leastWrong 28 = .ok (.iload_n 1, 1) := by decide +kernel
theorem dX2_leastWrong_29 : decode cX2_leastWrong 29 = .ok (.iload_n 3, 1) := by decide +kernel
theorem dX2_leastWrong_30 : decode cX2_leastWrong 30 = .ok (.invokestatic 38, 3) := by decide +kernel
theorem dX2_leastWrong_33 : decode cX2_leastWrong 33 = .ok (.iaload, 1) := by decide +kernel
theorem dX2_leastWrong_34 : decode cX2_leastWrong 34 = .ok (.invokestatic 28, 3) := by decide +kernel
theorem dX2_leastWrong_37 : decode cX2_leastWrong 37 = .ok (.istore_n 2, 1) := by decide +kernel
theorem dX2_leastWrong_38 : decode cX2_leastWrong 38 = .ok (.iinc 3 1, 3) := by decide +kernel
theorem dX2_leastWrong_41 : decode cX2_leastWrong 41 = .ok (.goto (-26), 3) := by decide +kernel
theorem dX2_leastWrong_44 : decode cX2_leastWrong 44 = .ok (.iload_n 2, 1) := by decide +kernel
theorem dX2_leastWrong_45 : decode cX2_leastWrong 45 = .ok (.ireturn, 1) := by decide +kernel
theorem dX2_goodEndingWith_0 : decode cX2_goodEndingWith 0 = .ok (.iload_n 2, 1) := by decide +kernel
theorem dX2_goodEndingWith_1 : decode cX2_goodEndingWith 1 = .ok (.iconst 1, 1) := by decide +kernel
theorem dX2_goodEndingWith_2 : decode cX2_goodEndingWith 2 = .ok (.iload_n 1, 1) := by decide +kernel
theorem dX2_goodEndingWith_3 : decode cX2_goodEndingWith 3 = .ok (.ishl, 1) := by decide +kernel
theorem dX2_goodEndingWith_4 : decode cX2_goodEndingWith 4 = .ok (.iconst (-1), 1) := by decide +kernel
theorem dX2_goodEndingWith_5 : decode cX2_goodEndingWith 5 = .ok (.ixor, 1) := by decide +kernel
theorem dX2_goodEndingWith_6 : decode cX2_goodEndingWith 6 = .ok (.iand, 1) := by decide +kernel
theorem dX2_goodEndingWith_7 : decode cX2_goodEndingWith 7 = .ok (.istore_n 3, 1) := by decide +kernel
theorem dX2_goodEndingWith_8 : decode cX2_goodEndingWith 8 = .ok (.iload_n 3, 1) := by decide +kernel
theorem dX2_goodEndingWith_9 : decode cX2_goodEndingWith 9 = .ok (.iload_n 2, 1) := by decide +kernel
theorem dX2_goodEndingWith_10 : decode cX2_goodEndingWith 10 = .ok (.if_icmp .ne 5, 3) := by decide +kernel
theorem dX2_goodEndingWith_13 : decode cX2_goodEndingWith 13 = .ok (.iconst 0, 1) := by decide +kernel
theorem dX2_goodEndingWith_14 : decode cX2_goodEndingWith 14 = .ok (.ireturn, 1) := by decide +kernel
theorem dX2_goodEndingWith_15 : decode cX2_goodEndingWith 15 = .ok (.iload_n 3, 1) := by decide +kernel
theorem dX2_goodEndingWith_16 : decode cX2_goodEndingWith 16 = .ok (.ifCond .ne 5, 3) := by decide +kernel
theorem dX2_goodEndingWith_19 : decode cX2_goodEndingWith 19 = .ok (.iconst 1, 1) := by decide +kernel
theorem dX2_goodEndingWith_20 : decode cX2_goodEndingWith 20 = .ok (.ireturn, 1) := by decide +kernel
theorem dX2_goodEndingWith_21 : decode cX2_goodEndingWith 21 = .ok (.iconst 0, 1) := by decide +kernel
theorem dX2_goodEndingWith_22 : decode cX2_goodEndingWith 22 = .ok (.istore 4, 2) := by decide +kernel
theorem dX2_goodEndingWith_24 : decode cX2_goodEndingWith 24 = .ok (.iconst 0, 1) := by decide +kernel
theorem dX2_goodEndingWith_25 : decode cX2_goodEndingWith 25 = .ok (.istore 5, 2) := by decide +kernel
theorem dX2_goodEndingWith_27 : decode cX2_goodEndingWith 27 = .ok (.iload 5, 2) := by decide +kernel
theorem dX2_goodEndingWith_29 : decode cX2_goodEndingWith 29 = .ok (.aload_n 0, 1) := by decide +kernel
theorem dX2_goodEndingWith_30 : decode cX2_goodEndingWith 30 = .ok (.getfield 34, 3) := by decide +kernel
theorem dX2_goodEndingWith_33 : decode cX2_goodEndingWith 33 = .ok (.if_icmp .ge 39, 3) := by decide +kernel
theorem dX2_goodEndingWith_36 : decode cX2_goodEndingWith 36 = .ok (.aload_n 0, 1) := by decide +kernel
theorem dX2_goodEndingWith_37 : decode cX2_goodEndingWith 37 = .ok (.getfield 9, 3) := by decide +kernel
theorem dX2_goodEndingWith_40 : decode cX2_goodEndingWith 40 = .ok (.iload 5, 2) := by decide +kernel
theorem dX2_goodEndingWith_42 : decode cX2_goodEndingWith 42 = .ok (.iload_n 1, 1) := by decide +kernel
theorem dX2_goodEndingWith_43 : decode cX2_goodEndingWith 43 = .ok (.invokestatic 38, 3) := by decide +kernel
theorem dX2_goodEndingWith_46 : decode cX2_goodEndingWith 46 = .ok (.baload, 1) := by decide +kernel
theorem dX2_goodEndingWith_47 : decode cX2_goodEndingWith 47 = .ok (.ifCond .ne 19, 3) := by decide +kernel
theorem dX2_goodEndingWith_50 : decode cX2_goodEndingWith 50 = .ok (.iload 4, 2) := by decide +kernel
theorem dX2_goodEndingWith_52 : decode cX2_goodEndingWith 52 = .ok (.aload_n 0, 1) := by decide +kernel
theorem dX2_goodEndingWith_53 : decode cX2_goodEndingWith 53 = .ok (.getfield 15, 3) := by decide +kernel
theorem dX2_goodEndingWith_56 : decode cX2_goodEndingWith 56 = .ok (.iload_n 3, 1) := by decide +kernel
theorem dX2_goodEndingWith_57 : decode cX2_goodEndingWith 57 = .ok (.iload 5, 2) := by decide +kernel
theorem dX2_goodEndingWith_59 : decode cX2_goodEndingWith 59 = .ok (.invokestatic 38, 3) := by decide +kernel
theorem dX2_goodEndingWith_62 : decode cX2_goodEndingWith 62 = .ok (.iaload, 1) := by decide +kernel
theorem dX2_goodEndingWith_63 : decode cX2_goodEndingWith 63 = .ok (.iadd, 1) := by decide +kernel
theorem dX2_goodEndingWith_64 : decode cX2_goodEndingWith 64 = .ok (.istore 4, 2) := by decide +kernel
theorem dX2_goodEndingWith_66 : decode cX2_goodEndingWith 66 = .ok (.iinc 5 1, 3) := by decide +kernel
theorem dX2_goodEndingWith_69 : decode cX2_goodEndingWith 69 = .ok (.goto (-42), 3) := by decide +kernel
theorem dX2_goodEndingWith_72 : decode cX2_goodEndingWith 72 = .ok (.iload 4, 2) := by decide +kernel
theorem dX2_goodEndingWith_74 : decode cX2_goodEndingWith 74 = .ok (.ireturn, 1) := by decide +kernel
theorem dX2_leastEndingWith_0 : decode cX2_leastEndingWith 0 = .ok (.iload_n 2, 1) := by decide +kernel
theorem dX2_leastEndingWith_1 : decode cX2_leastEndingWith 1 = .ok (.iconst 1, 1) := by decide +kernel
theorem dX2_leastEndingWith_2 : decode cX2_leastEndingWith 2 = .ok (.iload_n 1, 1) := by decide +kernel
theorem dX2_leastEndingWith_3 : decode cX2_leastEndingWith 3 = .ok (.ishl, 1) := by decide +kernel
theorem dX2_leastEndingWith_4 : decode cX2_leastEndingWith 4 = .ok (.iconst (-1), 1) := by decide +kernel
theorem dX2_leastEndingWith_5 : decode cX2_leastEndingWith 5 = .ok (.ixor, 1) := by decide +kernel
theorem dX2_leastEndingWith_6 : decode cX2_leastEndingWith 6 = .ok (.iand, 1) := by decide +kernel
theorem dX2_leastEndingWith_7 : decode cX2_leastEndingWith 7 = .ok (.istore_n 3, 1) := by decide +kernel
theorem dX2_leastEndingWith_8 : decode cX2_leastEndingWith 8 = .ok (.iload_n 3, 1) := by decide +kernel
theorem dX2_leastEndingWith_9 : decode cX2_leastEndingWith 9 = .ok (.iload_n 2, 1) := by decide +kernel
theorem dX2_leastEndingWith_10 : decode cX2_leastEndingWith 10 = .ok (.if_icmp .ne 7, 3) := by decide +kernel
theorem dX2_leastEndingWith_13 : decode cX2_leastEndingWith 13 = .ok (.sipush 1000, 3) := by decide +kernel
theorem dX2_leastEndingWith_16 : decode cX2_leastEndingWith 16 = .ok (.ireturn, 1) := by decide +kernel
theorem dX2_leastEndingWith_17 : decode cX2_leastEndingWith 17 = .ok (.iload_n 3, 1) := by decide +kernel
theorem dX2_leastEndingWith_18 : decode cX2_leastEndingWith 18 = .ok (.ifCond .ne 5, 3) := by decide +kernel
theorem dX2_leastEndingWith_21 : decode cX2_leastEndingWith 21 = .ok (.iconst 0, 1) := by decide +kernel
theorem dX2_leastEndingWith_22 : decode cX2_leastEndingWith 22 = .ok (.ireturn, 1) := by decide +kernel
theorem dX2_leastEndingWith_23 : decode cX2_leastEndingWith 23 = .ok (.sipush 1000, 3) := by decide +kernel
theorem dX2_leastEndingWith_26 : decode cX2_leastEndingWith 26 = .ok (.istore 4, 2) := by decide +kernel
theorem dX2_leastEndingWith_28 : decode cX2_leastEndingWith 28 = .ok (.iconst 0, 1) := by decide +kernel
theorem dX2_leastEndingWith_29 : decode cX2_leastEndingWith 29 = .ok (.istore 5, 2) := by decide +kernel
theorem dX2_leastEndingWith_31 : decode cX2_leastEndingWith 31 = .ok (.iload 5, 2) := by decide +kernel
theorem dX2_leastEndingWith_33 : decode cX2_leastEndingWith 33 = .ok (.aload_n 0, 1) := by decide +kernel
theorem dX2_leastEndingWith_34 : decode cX2_leastEndingWith 34 = .ok (.getfield 34, 3) := by decide +kernel
theorem dX2_leastEndingWith_37 : decode cX2_leastEndingWith 37 = .ok (.if_icmp .ge 51, 3) := by decide +kernel
theorem dX2_leastEndingWith_40 : decode cX2_leastEndingWith 40 = .ok (.aload_n 0, 1) := by decide +kernel
theorem dX2_leastEndingWith_41 : decode cX2_leastEndingWith 41 = .ok (.getfield 9, 3) := by decide +kernel
theorem dX2_leastEndingWith_44 : decode cX2_leastEndingWith 44 = .ok (.iload 5, 2) := by decide +kernel
theorem dX2_leastEndingWith_46 : decode cX2_leastEndingWith 46 = .ok (.iload_n 1, 1) := by decide +kernel
theorem dX2_leastEndingWith_47 : decode cX2_leastEndingWith 47 = .ok (.invokestatic 38, 3) := by decide +kernel
theorem dX2_leastEndingWith_50 : decode cX2_leastEndingWith 50 = .ok (.baload, 1) := by decide +kernel
theorem dX2_leastEndingWith_51 : decode cX2_leastEndingWith 51 = .ok (.ifCond .eq 7, 3) := by decide +kernel
theorem dX2_leastEndingWith_54 : decode cX2_leastEndingWith 54 = .ok (.iconst 1, 1) := by decide +kernel
theorem dX2_leastEndingWith_55 : decode cX2_leastEndingWith 55 = .ok (.goto 4, 3) := by decide +kernel
theorem dX2_leastEndingWith_58 : decode cX2_leastEndingWith 58 = .ok (.iconst 0, 1) := by decide +kernel
theorem dX2_leastEndingWith_59 : decode cX2_leastEndingWith 59 = .ok (.istore 6, 2) := by decide +kernel
theorem dX2_leastEndingWith_61 : decode cX2_leastEndingWith 61 = .ok (.iload 4, 2) := by decide +kernel
theorem dX2_leastEndingWith_63 : decode cX2_leastEndingWith 63 = .ok (.aload_n 0, 1) := by decide +kernel
theorem dX2_leastEndingWith_64 : decode cX2_leastEndingWith 64 = .ok (.getfield 19, 3) := by decide +kernel
theorem dX2_leastEndingWith_67 : decode cX2_leastEndingWith 67 = .ok (.iload_n 3, 1) := by decide +kernel
theorem dX2_leastEndingWith_68 : decode cX2_leastEndingWith 68 = .ok (.iload 5, 2) := by decide +kernel
theorem dX2_leastEndingWith_70 : decode cX2_leastEndingWith 70 = .ok (.invokestatic 38, 3) := by decide +kernel
theorem dX2_leastEndingWith_73 : decode cX2_leastEndingWith 73 = .ok (.iaload, 1) := by decide +kernel
theorem dX2_leastEndingWith_74 : decode cX2_leastEndingWith 74 = .ok (.iload 6, 2) := by decide +kernel
theorem dX2_leastEndingWith_76 : decode cX2_leastEndingWith 76 = .ok (.iadd, 1) := by decide +kernel
theorem dX2_leastEndingWith_77 : decode cX2_leastEndingWith 77 = .ok (.invokestatic 28, 3) := by decide +kernel
theorem dX2_leastEndingWith_80 : decode cX2_leastEndingWith 80 = .ok (.istore 4, 2) := by decide +kernel
theorem dX2_leastEndingWith_82 : decode cX2_leastEndingWith 82 = .ok (.iinc 5 1, 3) := by decide +kernel
theorem dX2_leastEndingWith_85 : decode cX2_leastEndingWith 85 = .ok (.goto (-54), 3) := by decide +kernel
theorem dX2_leastEndingWith_88 : decode cX2_leastEndingWith 88 = .ok (.iload 4, 2) := by decide +kernel
theorem dX2_leastEndingWith_90 : decode cX2_leastEndingWith 90 = .ok (.ireturn, 1) := by decide +kernel
theorem dX2_cell_0 : decode cX2_cell 0 = .ok (.iload_n 0, 1) := by decide +kernel
theorem dX2_cell_1 : decode cX2_cell 1 = .ok (.bipush 6, 2) := by decide +kernel
theorem dX2_cell_3 : decode cX2_cell 3 = .ok (.imul, 1) := by decide +kernel
theorem dX2_cell_4 : decode cX2_cell 4 = .ok (.iload_n 1, 1) := by decide +kernel
theorem dX2_cell_5 : decode cX2_cell 5 = .ok (.iadd, 1) := by decide +kernel
theorem dX2_cell_6 : decode cX2_cell 6 = .ok (.ireturn, 1) := by decide +kernel
theorem dX3_init_0 : decode cX3_init 0 = .ok (.aload_n 0, 1) := by decide +kernel
theorem dX3_init_1 : decode cX3_init 1 = .ok (.invokespecial 3, 3) := by decide +kernel
theorem dX3_init_4 : decode cX3_init 4 = .ok (.aload_n 0, 1) := by decide +kernel
theorem dX3_init_5 : decode cX3_init 5 = .ok (.bipush 45, 2) := by decide +kernel
theorem dX3_init_7 : decode cX3_init 7 = .ok (.putfield 9, 3) := by decide +kernel
theorem dX3_init_10 : decode cX3_init 10 = .ok (.return_, 1) := by decide +kernel
theorem dX3_grant_0 : decode cX3_grant 0 = .ok (.aload_n 0, 1) := by decide +kernel
theorem dX3_grant_1 : decode cX3_grant 1 = .ok (.iload_n 1, 1) := by decide +kernel
theorem dX3_grant_2 : decode cX3_grant 2 = .ok (.putfield 9, 3) := by decide +kernel
theorem dX3_grant_5 : decode cX3_grant 5 = .ok (.aload_n 0, 1) := by decide +kernel
theorem dX3_grant_6 : decode cX3_grant 6 = .ok (.aload_n 2, 1) := by decide +kernel
theorem dX3_grant_7 : decode cX3_grant 7 = .ok (.getfield 15, 3) := by decide +kernel
theorem dX3_grant_10 : decode cX3_grant 10 = .ok (.putfield 21, 3) := by decide +kernel
theorem dX3_grant_13 : decode cX3_grant 13 = .ok (.aload_n 0, 1) := by decide +kernel
theorem dX3_grant_14 : decode cX3_grant 14 = .ok (.aload_n 3, 1) := by decide +kernel
theorem dX3_grant_15 : decode cX3_grant 15 = .ok (.getfield 22, 3) := by decide +kernel
theorem dX3_grant_18 : decode cX3_grant 18 = .ok (.putfield 25, 3) := by decide +kernel
theorem dX3_grant_21 : decode cX3_grant 21 = .ok (.aload_n 0, 1) := by decide +kernel
theorem dX3_grant_22 : decode cX3_grant 22 = .ok (.aload_n 3, 1) := by decide +kernel
theorem dX3_grant_23 : decode cX3_grant 23 = .ok (.getfield 15, 3) := by decide +kernel
theorem dX3_grant_26 : decode cX3_grant 26 = .ok (.putfield 28, 3) := by decide +kernel
theorem dX3_grant_29 : decode cX3_grant 29 = .ok (.return_, 1) := by decide +kernel
theorem dX3_holds_0 : decode cX3_holds 0 = .ok (.aload_n 0, 1) := by decide +kernel
theorem dX3_holds_1 : decode cX3_holds 1 = .ok (.getfield 21, 3) := by decide +kernel
theorem dX3_holds_4 : decode cX3_holds 4 = .ok (.aload_n 1, 1) := by decide +kernel
theorem dX3_holds_5 : decode cX3_holds 5 = .ok (.getfield 15, 3) := by decide +kernel
theorem dX3_holds_8 : decode cX3_holds 8 = .ok (.if_icmp .ne 29, 3) := by decide +kernel
theorem dX3_holds_11 : decode cX3_holds 11 = .ok (.aload_n 0, 1) := by decide +kernel
theorem dX3_holds_12 : decode cX3_holds 12 = .ok (.getfield 25, 3) := by decide +kernel
theorem dX3_holds_15 : decode cX3_holds 15 = .ok (.aload_n 2, 1) := by decide +kernel
theorem dX3_holds_16 : decode cX3_holds 16 = .ok (.getfield 22, 3) := by decide +kernel
theorem dX3_holds_19 : decode cX3_holds 19 = .ok (.if_icmp .ne 18, 3) := by decide +kernel
theorem dX3_holds_22 : decode cX3_holds 22 = .ok (.aload_n 0, 1) := by decide +kernel
theorem dX3_holds_23 : decode cX3_holds 23 = .ok (.getfield 28, 3) := by decide +kernel
theorem dX3_holds_26 : decode cX3_holds 26 = .ok (.aload_n 2, 1) := by decide +kernel
theorem dX3_holds_27 : decode cX3_holds 27 = .ok (.getfield 15, 3) := by decide +kernel
theorem dX3_holds_30 : decode cX3_holds 30 = .ok (.if_icmp .ne 7, 3) := by decide +kernel
theorem dX3_holds_33 : decode cX3_holds 33 = .ok (.iconst 1, 1) := by decide +kernel
theorem dX3_holds_34 : decode cX3_holds 34 = .ok (.goto 4, 3) := by decide +kernel
theorem dX3_holds_37 : decode cX3_holds 37 = .ok (.iconst 0, 1) := by decide +kernel
theorem dX3_holds_38 : decode cX3_holds 38 = .ok (.ireturn, 1) := by decide +kernel
theorem dX4_init_0 : decode cX4_init 0 = .ok (.aload_n 0, 1) := by decide +kernel
theorem dX4_init_1 : decode cX4_init 1 = .ok (.invokespecial 3, 3) := by decide +kernel
theorem dX4_init_4 : decode cX4_init 4 = .ok (.aload_n 0, 1) := by decide +kernel
theorem dX4_init_5 : decode cX4_init 5 = .ok (.new 9, 3) := by decide +kernel
theorem dX4_init_8 : decode cX4_init 8 = .ok (.dup, 1) := by decide +kernel
theorem dX4_init_9 : decode cX4_init 9 = .ok (.invokespecial 11, 3) := by decide +kernel
theorem dX4_init_12 : decode cX4_init 12 = .ok (.putfield 12, 3) := by decide +kernel
theorem dX4_init_15 : decode cX4_init 15 = .ok (.aload_n 0, 1) := by decide +kernel
theorem dX4_init_16 : decode cX4_init 16 = .ok (.new 18, 3) := by decide +kernel
theorem dX4_init_19 : decode cX4_init 19 = .ok (.dup, 1) := by decide +kernel
theorem dX4_init_20 : decode cX4_init 20 = .ok (.invokespecial 20, 3) := by decide +kernel
theorem dX4_init_23 : decode cX4_init 23 = .ok (.putfield 21, 3) := by decide +kernel
theorem dX4_init_26 : decode cX4_init 26 = .ok (.aload_n 0, 1) := by decide +kernel
theorem dX4_init_27 : decode cX4_init 27 = .ok (.iconst (-1), 1) := by decide +kernel
theorem dX4_init_28 : decode cX4_init 28 = .ok (.putfield 25, 3) := by decide +kernel
theorem dX4_init_31 : decode cX4_init 31 = .ok (.aload_n 0, 1) := by decide +kernel
theorem dX4_init_32 : decode cX4_init 32 = .ok (.bipush 45, 2) := by decide +kernel
theorem dX4_init_34 : decode cX4_init 34 = .ok (.putfield 29, 3) := by decide +kernel
theorem dX4_init_37 : decode cX4_init 37 = .ok (.aload_n 0, 1) := by decide +kernel
theorem dX4_init_38 : decode cX4_init 38 = .ok (.iconst (-1), 1) := by decide +kernel
theorem dX4_init_39 : decode cX4_init 39 = .ok (.putfield 33, 3) := by decide +kernel
theorem dX4_init_42 : decode cX4_init 42 = .ok (.aload_n 0, 1) := by decide +kernel
theorem dX4_init_43 : decode cX4_init 43 = .ok (.iload_n 1, 1) := by decide +kernel
theorem dX4_init_44 : decode cX4_init 44 = .ok (.putfield 36, 3) := by decide +kernel
theorem dX4_init_47 : decode cX4_init 47 = .ok (.aload_n 0, 1) := by decide +kernel
theorem dX4_init_48 : decode cX4_init 48 = .ok (.iload_n 2, 1) := by decide +kernel
theorem dX4_init_49 : decode cX4_init 49 = .ok (.putfield 39, 3) := by decide +kernel
theorem dX4_init_52 : decode cX4_init 52 = .ok (.aload_n 0, 1) := by decide +kernel
theorem dX4_init_53 : decode cX4_init 53 = .ok (.iload_n 3, 1) := by decide +kernel
theorem dX4_init_54 : decode cX4_init 54 = .ok (.putfield 42, 3) := by decide +kernel
theorem dX4_init_57 : decode cX4_init 57 = .ok (.aload_n 0, 1) := by decide +kernel
theorem dX4_init_58 : decode cX4_init 58 = .ok (.iload 4, 2) := by decide +kernel
theorem dX4_init_60 : decode cX4_init 60 = .ok (.putfield 45, 3) := by decide +kernel
theorem dX4_init_63 : decode cX4_init 63 = .ok (.return_, 1) := by decide +kernel
theorem dX4_film_0 : decode cX4_film 0 = .ok (.aload_n 0, 1) := by decide +kernel
theorem dX4_film_1 : decode cX4_film 1 = .ok (.getfield 39, 3) := by decide +kernel
theorem dX4_film_4 : decode cX4_film 4 = .ok (.iload_n 1, 1) := by decide +kernel
theorem dX4_film_5 : decode cX4_film 5 = .ok (.if_icmp .ne 11, 3) := by decide +kernel
theorem dX4_film_8 : decode cX4_film 8 = .ok (.aload_n 0, 1) := by decide +kernel
theorem dX4_film_9 : decode cX4_film 9 = .ok (.getfield 42, 3) := by decide +kernel
theorem dX4_film_12 : decode cX4_film 12 = .ok (.iload_n 2, 1) := by decide +kernel
theorem dX4_film_13 : decode cX4_film 13 = .ok (.if_icmp .eq 23, 3) := by decide +kernel
theorem dX4_film_16 : decode cX4_film 16 = .ok (.aload_n 0, 1) := by decide +kernel
theorem dX4_film_17 : decode cX4_film 17 = .ok (.iload_n 1, 1) := by decide +kernel
theorem dX4_film_18 : decode cX4_film 18 = .ok (.putfield 39, 3) := by decide +kernel
theorem dX4_film_21 : decode cX4_film 21 = .ok (.aload_n 0, 1) := by decide +kernel
theorem dX4_film_22 : decode cX4_film 22 = .ok (.iload_n 2, 1) := by decide +kernel
theorem dX4_film_23 : decode cX4_film 23 = .ok (.putfield 42, 3) := by decide +kernel
theorem dX4_film_26 : decode cX4_film 26 = .ok (.aload_n 0, 1) := by decide +kernel
theorem dX4_film_27 : decode cX4_film 27 = .ok (.dup, 1) := by decide +kernel
theorem dX4_film_28 : decode cX4_film 28 = .ok (.getfield 48, 3) := by decide +kernel
theorem dX4_film_31 : decode cX4_film 31 = .ok (.iconst 1, 1) := by decide +kernel
theorem dX4_film_32 : decode cX4_film 32 = .ok (.iadd, 1) := by decide +kernel
theorem dX4_film_33 : decode cX4_film 33 = .ok (.putfield 48, 3) := by decide +kernel
theorem dX4_film_36 : decode cX4_film 36 = .ok (.return_, 1) := by decide +kernel
theorem dX4_changeLength_0 : decode cX4_changeLength 0 = .ok (.aload_n 0, 1) := by decide +kernel
theorem dX4_changeLength_1 : decode cX4_changeLength 1 = .ok (.getfield 45, 3) := by decide +kernel
theorem dX4_changeLength_4 : decode cX4_changeLength 4 = .ok (.istore_n 2, 1) := by decide +kernel
theorem dX4_changeLength_5 : decode cX4_changeLength 5 = .ok (.iload_n 2, 1) := by decide +kernel
theorem dX4_changeLength_6 : decode cX4_changeLength 6 = .ok (.iload_n 1, 1) := by decide +kernel
theorem dX4_changeLength_7 : decode cX4_changeLength 7 = .ok (.if_icmp .eq 18, 3) := by decide +kernel
theorem dX4_changeLength_10 : decode cX4_changeLength 10 = .ok (.aload_n 0, 1) := by decide +kernel
theorem dX4_changeLength_11 : decode cX4_changeLength 11 = .ok (.iload_n 1, 1) := by decide +kernel
theorem dX4_changeLength_12 : decode cX4_changeLength 12 = .ok (.putfield 45, 3) := by decide +kernel
theorem dX4_changeLength_15 : decode cX4_changeLength 15 = .ok (.aload_n 0, 1) := by decide +kernel
theorem dX4_changeLength_16 : decode cX4_changeLength 16 = .ok (.dup, 1) := by decide +kernel
theorem dX4_changeLength_17 : decode cX4_changeLength 17 = .ok (.getfield 48, 3) := by decide +kernel
theorem dX4_changeLength_20 : decode cX4_changeLength 20 = .ok (.iconst 1, 1) := by decide +kernel
theorem dX4_changeLength_21 : decode cX4_changeLength 21 = .ok (.iadd, 1) := by decide +kernel
theorem dX4_changeLength_22 : decode cX4_changeLength 22 = .ok (.putfield 48, 3) := by decide +kernel
theorem dX4_changeLength_25 : decode cX4_changeLength 25 = .ok (.iload_n 2, 1) := by decide +kernel
theorem dX4_changeLength_26 : decode cX4_changeLength 26 = .ok (.ireturn, 1) := by decide +kernel
theorem dX4_putIn_0 : decode cX4_putIn 0 = .ok (.aload_n 0, 1) := by decide +kernel
theorem dX4_putIn_1 : decode cX4_putIn 1 = .ok (.getfield 12, 3) := by decide +kernel
theorem dX4_putIn_4 : decode cX4_putIn 4 = .ok (.getfield 51, 3) := by decide +kernel
theorem dX4_putIn_7 : decode cX4_putIn 7 = .ok (.iload_n 1, 1) := by decide +kernel
theorem dX4_putIn_8 : decode cX4_putIn 8 = .ok (.caload, 1) := by decide +kernel
theorem dX4_putIn_9 : decode cX4_putIn 9 = .ok (.iload_n 2, 1) := by decide +kernel
theorem dX4_putIn_10 : decode cX4_putIn 10 = .ok (.if_icmp .ne 16, 3) := by decide +kernel
theorem dX4_putIn_13 : decode cX4_putIn 13 = .ok (.aload_n 0, 1) := by decide +kernel
theorem dX4_putIn_14 : decode cX4_putIn 14 = .ok (.getfield 12, 3) := by decide +kernel
theorem dX4_putIn_17 : decode cX4_putIn 17 = .ok (.getfield 55, 3) := by decide +kernel
theorem dX4_putIn_20 : decode cX4_putIn 20 = .ok (.iload_n 1, 1) := by decide +kernel
theorem dX4_putIn_21 : decode cX4_putIn 21 = .ok (.caload, 1) := by decide +kernel
theorem dX4_putIn_22 : decode cX4_putIn 22 = .ok (.iload_n 3, 1) := by decide +kernel
theorem dX4_putIn_23 : decode cX4_putIn 23 = .ok (.if_icmp .eq 33, 3) := by decide +kernel
theorem dX4_putIn_26 : decode cX4_putIn 26 = .ok (.aload_n 0, 1) := by decide +kernel
theorem dX4_putIn_27 : decode cX4_putIn 27 = .ok (.getfield 12, 3) := by decide +kernel
theorem dX4_putIn_30 : decode cX4_putIn 30 = .ok (.getfield 51, 3) := by decide +kernel
theorem dX4_putIn_33 : decode cX4_putIn 33 = .ok (.iload_n 1, 1) := by decide +kernel
theorem dX4_putIn_34 : decode cX4_putIn 34 = .ok (.iload_n 2, 1) := by decide +kernel
theorem dX4_putIn_35 : decode cX4_putIn 35 = .ok (.castore, 1) := by decide +kernel
theorem dX4_putIn_36 : decode cX4_putIn 36 = .ok (.aload_n 0, 1) := by decide +kernel
theorem dX4_putIn_37 : decode cX4_putIn 37 = .ok (.getfield 12, 3) := by decide +kernel
theorem dX4_putIn_40 : decode cX4_putIn 40 = .ok (.getfield 55, 3) := by decide +kernel
theorem dX4_putIn_43 : decode cX4_putIn 43 = .ok (.iload_n 1, 1) := by decide +kernel
theorem dX4_putIn_44 : decode cX4_putIn 44 = .ok (.iload_n 3, 1) := by decide +kernel
theorem dX4_putIn_45 : decode cX4_putIn 45 = .ok (.castore, 1) := by decide +kernel
theorem dX4_putIn_46 : decode cX4_putIn 46 = .ok (.aload_n 0, 1) := by decide +kernel
theorem dX4_putIn_47 : decode cX4_putIn 47 = .ok (.dup, 1) := by decide +kernel
theorem dX4_putIn_48 : decode cX4_putIn 48 = .ok (.getfield 48, 3) := by decide +kernel
theorem dX4_putIn_51 : decode cX4_putIn 51 = .ok (.iconst 1, 1) := by decide +kernel
theorem dX4_putIn_52 : decode cX4_putIn 52 = .ok (.iadd, 1) := by decide +kernel
theorem dX4_putIn_53 : decode cX4_putIn 53 = .ok (.putfield 48, 3) := by decide +kernel
theorem dX4_putIn_56 : decode cX4_putIn 56 = .ok (.return_, 1) := by decide +kernel
theorem dX4_takeOut_0 : decode cX4_takeOut 0 = .ok (.aload_n 0, 1) := by decide +kernel
theorem dX4_takeOut_1 : decode cX4_takeOut 1 = .ok (.getfield 12, 3) := by decide +kernel
theorem dX4_takeOut_4 : decode cX4_takeOut 4 = .ok (.iload_n 1, 1) := by decide +kernel
theorem dX4_takeOut_5 : decode cX4_takeOut 5 = .ok (.invokevirtual 58, 3) := by decide +kernel
theorem dX4_takeOut_8 : decode cX4_takeOut 8 = .ok (.ifCond .eq 57, 3) := by decide +kernel
theorem dX4_takeOut_11 : decode cX4_takeOut 11 = .ok (.aload_n 0, 1) := by decide +kernel
theorem dX4_takeOut_12 : decode cX4_takeOut 12 = .ok (.getfield 12, 3) := by decide +kernel
theorem dX4_takeOut_15 : decode cX4_takeOut 15 = .ok (.getfield 51, 3) := by decide +kernel
theorem dX4_takeOut_18 : decode cX4_takeOut 18 = .ok (.iload_n 1, 1) := by decide +kernel
theorem dX4_takeOut_19 : decode cX4_takeOut 19 = .ok (.bipush 45, 2) := by decide +kernel
theorem dX4_takeOut_21 : decode cX4_takeOut 21 = .ok (.castore, 1) := by decide +kernel
theorem dX4_takeOut_22 : decode cX4_takeOut 22 = .ok (.aload_n 0, 1) := by decide +kernel
theorem dX4_takeOut_23 : decode cX4_takeOut 23 = .ok (.getfield 12, 3) := by decide +kernel
theorem dX4_takeOut_26 : decode cX4_takeOut 26 = .ok (.getfield 55, 3) := by decide +kernel
theorem dX4_takeOut_29 : decode cX4_takeOut 29 = .ok (.iload_n 1, 1) := by decide +kernel
theorem dX4_takeOut_30 : decode cX4_takeOut 30 = .ok (.bipush 45, 2) := by decide +kernel
theorem dX4_takeOut_32 : decode cX4_takeOut 32 = .ok (.castore, 1) := by decide +kernel
theorem dX4_takeOut_33 : decode cX4_takeOut 33 = .ok (.aload_n 0, 1) := by decide +kernel
theorem dX4_takeOut_34 : decode cX4_takeOut 34 = .ok (.getfield 12, 3) := by decide +kernel
theorem dX4_takeOut_37 : decode cX4_takeOut 37 = .ok (.getfield 62, 3) := by decide +kernel
theorem dX4_takeOut_40 : decode cX4_takeOut 40 = .ok (.iload_n 1, 1) := by decide +kernel
theorem dX4_takeOut_41 : decode cX4_takeOut 41 = .ok (.bipush 45, 2) := by decide +kernel
theorem dX4_takeOut_43 : decode cX4_takeOut 43 = .ok (.castore, 1) := by decide +kernel
theorem dX4_takeOut_44 : decode cX4_takeOut 44 = .ok (.aload_n 0, 1) := by decide +kernel
theorem dX4_takeOut_45 : decode cX4_takeOut 45 = .ok (.getfield 12, 3) := by decide +kernel
theorem dX4_takeOut_48 : decode cX4_takeOut 48 = .ok (.getfield 65, 3) := by decide +kernel
theorem dX4_takeOut_51 : decode cX4_takeOut 51 = .ok (.iload_n 1, 1) := by decide +kernel
theorem dX4_takeOut_52 : decode cX4_takeOut 52 = .ok (.bipush 45, 2) := by decide +kernel
theorem dX4_takeOut_54 : decode cX4_takeOut 54 = .ok (.castore, 1) := by decide +kernel
theorem dX4_takeOut_55 : decode cX4_takeOut 55 = .ok (.aload_n 0, 1) := by decide +kernel
theorem dX4_takeOut_56 : decode cX4_takeOut 56 = .ok (.dup, 1) := by decide +kernel
theorem dX4_takeOut_57 : decode cX4_takeOut 57 = .ok (.getfield 48, 3) := by decide +kernel
theorem dX4_takeOut_60 : decode cX4_takeOut 60 = .ok (.iconst 1, 1) := by decide +kernel
theorem dX4_takeOut_61 : decode cX4_takeOut 61 = .ok (.iadd, 1) := by decide +kernel
theorem dX4_takeOut_62 : decode cX4_takeOut 62 = .ok (.putfield 48, 3) := by decide +kernel
theorem dX4_takeOut_65 : decode cX4_takeOut 65 = .ok (.return_, 1) := by decide +kernel
theorem dX4_changeEdge_0 : decode cX4_changeEdge 0 = .ok (.aload_n 1, 1) := by decide +kernel
theorem dX4_changeEdge_1 : decode cX4_changeEdge 1 = .ok (.iload_n 2, 1) := by decide +kernel
theorem dX4_changeEdge_2 : decode cX4_changeEdge 2 = .ok (.caload, 1) := by decide +kernel
theorem dX4_changeEdge_3 : decode cX4_changeEdge 3 = .ok (.istore 4, 2) := by decide +kernel
theorem dX4_changeEdge_5 : decode cX4_changeEdge 5 = .ok (.iload 4, 2) := by decide +kernel
theorem dX4_changeEdge_7 : decode cX4_changeEdge 7 = .ok (.iload_n 3, 1) := by decide +kernel
theorem dX4_changeEdge_8 : decode cX4_changeEdge 8 = .ok (.if_icmp .eq 17, 3) := by decide +kernel
theorem dX4_changeEdge_11 : decode cX4_changeEdge 11 = .ok (.aload_n 1, 1) := by decide +kernel
theorem dX4_changeEdge_12 : decode cX4_changeEdge 12 = .ok (.iload_n 2, 1) := by decide +kernel
theorem dX4_changeEdge_13 : decode cX4_changeEdge 13 = .ok (.iload_n 3, 1) := by decide +kernel
theorem dX4_changeEdge_14 : decode cX4_changeEdge 14 = .ok (.castore, 1) := by decide +kernel
theorem dX4_changeEdge_15 : decode cX4_changeEdge 15 = .ok (.aload_n 0, 1) := by decide +kernel
theorem dX4_changeEdge_16 : decode cX4_changeEdge 16 = .ok (.dup, 1) := by decide +kernel
theorem dX4_changeEdge_17 : decode cX4_changeEdge 17 = .ok (.getfield 48, 3) := by decide +kernel
theorem dX4_changeEdge_20 : decode cX4_changeEdge 20 = .ok (.iconst 1, 1) := by decide +kernel
theorem dX4_changeEdge_21 : decode cX4_changeEdge 21 = .ok (.iadd, 1) := by decide +kernel
theorem dX4_changeEdge_22 : decode cX4_changeEdge 22 = .ok (.putfield 48, 3) := by decide +kernel
theorem dX4_changeEdge_25 : decode cX4_changeEdge 25 = .ok (.iload 4, 2) := by decide +kernel
theorem dX4_changeEdge_27 : decode cX4_changeEdge 27 = .ok (.ireturn, 1) := by decide +kernel
theorem dX4_excusedFor_0 : decode cX4_excusedFor 0 = .ok (.aload_n 0, 1) := by decide +kernel
theorem dX4_excusedFor_1 : decode cX4_excusedFor 1 = .ok (.getfield 21, 3) := by decide +kernel
theorem dX4_excusedFor_4 : decode cX4_excusedFor 4 = .ok (.aload_n 0, 1) := by decide +kernel
theorem dX4_excusedFor_5 : decode cX4_excusedFor 5 = .ok (.aload_n 1, 1) := by decide +kernel
theorem dX4_excusedFor_6 : decode cX4_excusedFor 6 = .ok (.invokevirtual 68, 3) := by decide +kernel
theorem dX4_excusedFor_9 : decode cX4_excusedFor 9 = .ok (.ifCond .eq 13, 3) := by decide +kernel
theorem dX4_excusedFor_12 : decode cX4_excusedFor 12 = .ok (.aload_n 0, 1) := by decide +kernel
theorem dX4_excusedFor_13 : decode cX4_excusedFor 13 = .ok (.getfield 21, 3) := by decide +kernel
theorem dX4_excusedFor_16 : decode cX4_excusedFor 16 = .ok (.getfield 72, 3) := by decide +kernel
theorem dX4_excusedFor_19 : decode cX4_excusedFor 19 = .ok (.goto 5, 3) := by decide +kernel
theorem dX4_excusedFor_22 : decode cX4_excusedFor 22 = .ok (.bipush 45, 2) := by decide +kernel
theorem dX4_excusedFor_24 : decode cX4_excusedFor 24 = .ok (.ireturn, 1) := by decide +kernel
theorem dX4_setupBit_0 : decode cX4_setupBit 0 = .ok (.aload_n 0, 1) := by decide +kernel
theorem dX4_setupBit_1 : decode cX4_setupBit 1 = .ok (.getfield 39, 3) := by decide +kernel
theorem dX4_setupBit_4 : decode cX4_setupBit 4 = .ok (.bipush 115, 2) := by decide +kernel
theorem dX4_setupBit_6 : decode cX4_setupBit 6 = .ok (.if_icmp .ne 7, 3) := by decide +kernel
theorem dX4_setupBit_9 : decode cX4_setupBit 9 = .ok (.iconst 0, 1) := by decide +kernel
theorem dX4_setupBit_10 : decode cX4_setupBit 10 = .ok (.goto 17, 3) := by decide +kernel
theorem dX4_setupBit_13 : decode cX4_setupBit 13 = .ok (.aload_n 0, 1) := by decide +kernel
theorem dX4_setupBit_14 : decode cX4_setupBit 14 = .ok (.getfield 39, 3) := by decide +kernel
theorem dX4_setupBit_17 : decode cX4_setupBit 17 = .ok (.bipush 110, 2) := by decide +kernel
theorem dX4_setupBit_19 : decode cX4_setupBit 19 = .ok (.if_icmp .ne 7, 3) := by decide +kernel
theorem dX4_setupBit_22 : decode cX4_setupBit 22 = .ok (.iconst 1, 1) := by decide +kernel
theorem dX4_setupBit_23 : decode cX4_setupBit 23 = .ok (.goto 4, 3) := by decide +kernel
theorem dX4_setupBit_26 : decode cX4_setupBit 26 = .ok (.iconst 2, 1) := by decide +kernel
theorem dX4_setupBit_27 : decode cX4_setupBit 27 = .ok (.istore_n 1, 1) := by decide +kernel
theorem dX4_setupBit_28 : decode cX4_setupBit 28 = .ok (.iconst 1, 1) := by decide +kernel
theorem dX4_setupBit_29 : decode cX4_setupBit 29 = .ok (.iload_n 1, 1) := by decide +kernel
theorem dX4_setupBit_30 : decode cX4_setupBit 30 = .ok (.iconst 5, 1) := by decide +kernel
theorem dX4_setupBit_31 : decode cX4_setupBit 31 = .ok (.imul, 1) := by decide +kernel
theorem dX4_setupBit_32 : decode cX4_setupBit 32 = .ok (.aload_n 0, 1) := by decide +kernel
theorem dX4_setupBit_33 : decode cX4_setupBit 33 = .ok (.getfield 42, 3) := by decide +kernel
theorem dX4_setupBit_36 : decode cX4_setupBit 36 = .ok (.iadd, 1) := by decide +kernel
theorem dX4_setupBit_37 : decode cX4_setupBit 37 = .ok (.ishl, 1) := by decide +kernel
theorem dX4_setupBit_38 : decode cX4_setupBit 38 = .ok (.ireturn, 1) := by decide +kernel
theorem dX5_init_0 : decode cX5_init 0 = .ok (.aload_n 0, 1) := by decide +kernel
theorem dX5_init_1 : decode cX5_init 1 = .ok (.invokespecial 1, 3) := by decide +kernel
theorem dX5_init_4 : decode cX5_init 4 = .ok (.aload_n 0, 1) := by decide +kernel
theorem dX5_init_5 : decode cX5_init 5 = .ok (.new 7, 3) := by decide +kernel
theorem dX5_init_8 : decode cX5_init 8 = .ok (.dup, 1) := by decide +kernel
theorem dX5_init_9 : decode cX5_init 9 = .ok (.invokespecial 9, 3) := by decide +kernel
theorem dX5_init_12 : decode cX5_init 12 = .ok (.putfield 10, 3) := by decide +kernel
theorem dX5_init_15 : decode cX5_init 15 = .ok (.aload_n 0, 1) := by decide +kernel
theorem dX5_init_16 : decode cX5_init 16 = .ok (.new 7, 3) := by decide +kernel
theorem dX5_init_19 : decode cX5_init 19 = .ok (.dup, 1) := by decide +kernel
theorem dX5_init_20 : decode cX5_init 20 = .ok (.invokespecial 9, 3) := by decide +kernel
theorem dX5_init_23 : decode cX5_init 23 = .ok (.putfield 16, 3) := by decide +kernel
theorem dX5_init_26 : decode cX5_init 26 = .ok (.aload_n 0, 1) := by decide +kernel
theorem dX5_init_27 : decode cX5_init 27 = .ok (.new 7, 3) := by decide +kernel
theorem dX5_init_30 : decode cX5_init 30 = .ok (.dup, 1) := by decide +kernel
theorem dX5_init_31 : decode cX5_init 31 = .ok (.invokespecial 9, 3) := by decide +kernel
theorem dX5_init_34 : decode cX5_init 34 = .ok (.putfield 19, 3) := by decide +kernel
theorem dX5_init_37 : decode cX5_init 37 = .ok (.aload_n 0, 1) := by decide +kernel
theorem dX5_init_38 : decode cX5_init 38 = .ok (.new 22, 3) := by decide +kernel
theorem dX5_init_41 : decode cX5_init 41 = .ok (.dup, 1) := by decide +kernel
theorem dX5_init_42 : decode cX5_init 42 = .ok (.invokespecial 24, 3) := by decide +kernel
theorem dX5_init_45 : decode cX5_init 45 = .ok (.putfield 25, 3) := by decide +kernel
theorem dX5_init_48 : decode cX5_init 48 = .ok (.return_, 1) := by decide +kernel
theorem dX5_shot_0 : decode cX5_shot 0 = .ok (.iload_n 1, 1) := by decide +kernel
theorem dX5_shot_1 : decode cX5_shot 1 = .ok (.iload_n 2, 1) := by decide +kernel
theorem dX5_shot_2 : decode cX5_shot 2 = .ok (.invokestatic 29, 3) := by decide +kernel
theorem dX5_shot_5 : decode cX5_shot 5 = .ok (.iload_n 3, 1) := by decide +kernel
theorem dX5_shot_6 : decode cX5_shot 6 = .ok (.invokestatic 33, 3) := by decide +kernel
theorem dX5_shot_9 : decode cX5_shot 9 = .ok (.iload 4, 2) := by decide +kernel
theorem dX5_shot_11 : decode cX5_shot 11 = .ok (.ifCond .lt 15, 3) := by decide +kernel
theorem dX5_shot_14 : decode cX5_shot 14 = .ok (.iload 4, 2) := by decide +kernel
theorem dX5_shot_16 : decode cX5_shot 16 = .ok (.aload_n 0, 1) := by decide +kernel
theorem dX5_shot_17 : decode cX5_shot 17 = .ok (.getfield 16, 3) := by decide +kernel
theorem dX5_shot_20 : decode cX5_shot 20 = .ok (.invokevirtual 37, 3) := by decide +kernel
theorem dX5_shot_23 : decode cX5_shot 23 = .ok (.if_icmp .le 13, 3) := by decide +kernel
theorem dX5_shot_26 : decode cX5_shot 26 = .ok (.new 41, 3) := by decide +kernel
theorem dX5_shot_29 : decode cX5_shot 29 = .ok (.dup, 1) := by decide +kernel
theorem dX5_shot_30 : decode cX5_shot 30 = .ok (.ldc 43, 2) := by decide +kernel
theorem dX5_shot_32 : decode cX5_shot 32 = .ok (.invokespecial 45, 3) := by decide +kernel
theorem dX5_shot_35 : decode cX5_shot 35 = .ok (.athrow, 1) := by decide +kernel
theorem dX5_shot_36 : decode cX5_shot 36 = .ok (.aload_n 0, 1) := by decide +kernel
theorem dX5_shot_37 : decode cX5_shot 37 = .ok (.getfield 48, 3) := by decide +kernel
theorem dX5_shot_40 : decode cX5_shot 40 = .ok (.ifCond .eq 12, 3) := by decide +kernel
theorem dX5_shot_43 : decode cX5_shot 43 = .ok (.aload_n 0, 1) := by decide +kernel
theorem dX5_shot_44 : decode cX5_shot 44 = .ok (.iload 4, 2) := by decide +kernel
theorem dX5_shot_46 : decode cX5_shot 46 = .ok (.invokevirtual 52, 3) := by decide +kernel
theorem dX5_shot_49 : decode cX5_shot 49 = .ok (.goto 4, 3) := by decide +kernel
theorem dX5_shot_52 : decode cX5_shot 52 = .ok (.iconst (-1), 1) := by decide +kernel
theorem dX5_shot_53 : decode cX5_shot 53 = .ok (.istore 5, 2) := by decide +kernel
theorem dX5_shot_55 : decode cX5_shot 55 = .ok (.aload_n 0, 1) := by decide +kernel
theorem dX5_shot_56 : decode cX5_shot 56 = .ok (.getfield 48, 3) := by decide +kernel
theorem dX5_shot_59 : decode cX5_shot 59 = .ok (.ifCond .eq 12, 3) := by decide +kernel
theorem dX5_shot_62 : decode cX5_shot 62 = .ok (.aload_n 0, 1) := by decide +kernel
theorem dX5_shot_63 : decode cX5_shot 63 = .ok (.iload 5, 2) := by decide +kernel
theorem dX5_shot_65 : decode cX5_shot 65 = .ok (.invokevirtual 56, 3) := by decide +kernel
theorem dX5_shot_68 : decode cX5_shot 68 = .ok (.goto 5, 3) := by decide +kernel
theorem dX5_shot_71 : decode cX5_shot 71 = .ok (.bipush 45, 2) := by decide +kernel
theorem dX5_shot_73 : decode cX5_shot 73 = .ok (.istore 6, 2) := by decide +kernel
theorem dX5_shot_75 : decode cX5_shot 75 = .ok (.aload_n 0, 1) := by decide +kernel
theorem dX5_shot_76 : decode cX5_shot 76 = .ok (.getfield 48, 3) := by decide +kernel
theorem dX5_shot_79 : decode cX5_shot 79 = .ok (.ifCond .eq 20, 3) := by decide +kernel
theorem dX5_shot_82 : decode cX5_shot 82 = .ok (.iload 6, 2) := by decide +kernel
theorem dX5_shot_84 : decode cX5_shot 84 = .ok (.bipush 45, 2) := by decide +kernel
theorem dX5_shot_86 : decode cX5_shot 86 = .ok (.if_icmp .ne 13, 3) := by decide +kernel
theorem dX5_shot_89 : decode cX5_shot 89 = .ok (.new 60, 3) := by decide +kernel
theorem dX5_shot_92 : decode cX5_shot 92 = .ok (.dup, 1) := by decide +kernel
theorem dX5_shot_93 : decode cX5_shot 93 = .ok (.ldc 62, 2) := by decide +kernel
theorem dX5_shot_95 : decode cX5_shot 95 = .ok (.invokespecial 64, 3) := by decide +kernel
theorem dX5_shot_98 : decode cX5_shot 98 = .ok (.athrow, 1) := by decide +kernel
theorem dX5_shot_99 : decode cX5_shot 99 = .ok (.aload_n 0, 1) := by decide +kernel
theorem dX5_shot_100 : decode cX5_shot 100 = .ok (.getfield 10, 3) := by decide +kernel
theorem dX5_shot_103 : decode cX5_shot 103 = .ok (.invokevirtual 37, 3) := by decide +kernel
theorem dX5_shot_106 : decode cX5_shot 106 = .ok (.bipush 24, 2) := by decide +kernel
theorem dX5_shot_108 : decode cX5_shot 108 = .ok (.if_icmp .lt 13, 3) := by decide +kernel
theorem dX5_shot_111 : decode cX5_shot 111 = .ok (.new 65, 3) := by decide +kernel
theorem dX5_shot_114 : decode cX5_shot 114 = .ok (.dup, 1) := by decide +kernel
theorem dX5_shot_115 : decode cX5_shot 115 = .ok (.ldc 67, 2) := by decide +kernel
theorem dX5_shot_117 : decode cX5_shot 117 = .ok (.invokespecial 69, 3) := by decide +kernel
theorem dX5_shot_120 : decode cX5_shot 120 = .ok (.athrow, 1) := by decide +kernel
theorem dX5_shot_121 : decode cX5_shot 121 = .ok (.new 70, 3) := by decide +kernel
theorem dX5_shot_124 : decode cX5_shot 124 = .ok (.dup, 1) := by decide +kernel
theorem dX5_shot_125 : decode cX5_shot 125 = .ok (.aload_n 0, 1) := by decide +kernel
theorem dX5_shot_126 : decode cX5_shot 126 = .ok (.getfield 10, 3) := by decide +kernel
theorem dX5_shot_129 : decode cX5_shot 129 = .ok (.invokevirtual 37, 3) := by decide +kernel
theorem dX5_shot_132 : decode cX5_shot 132 = .ok (.iload_n 1, 1) := by decide +kernel
theorem dX5_shot_133 : decode cX5_shot 133 = .ok (.iload_n 2, 1) := by decide +kernel
theorem dX5_shot_134 : decode cX5_shot 134 = .ok (.iload_n 3, 1) := by decide +kernel
theorem dX5_shot_135 : decode cX5_shot 135 = .ok (.invokespecial 72, 3) := by decide +kernel
theorem dX5_shot_138 : decode cX5_shot 138 = .ok (.astore 7, 2) := by decide +kernel
theorem dX5_shot_140 : decode cX5_shot 140 = .ok (.aload 7, 2) := by decide +kernel
theorem dX5_shot_142 : decode cX5_shot 142 = .ok (.iload 5, 2) := by decide +kernel
theorem dX5_shot_144 : decode cX5_shot 144 = .ok (.putfield 75, 3) := by decide +kernel
theorem dX5_shot_147 : decode cX5_shot 147 = .ok (.aload 7, 2) := by decide +kernel
theorem dX5_shot_149 : decode cX5_shot 149 = .ok (.iload 6, 2) := by decide +kernel
theorem dX5_shot_151 : decode cX5_shot 151 = .ok (.putfield 79, 3) := by decide +kernel
theorem dX5_shot_154 : decode cX5_shot 154 = .ok (.aload_n 0, 1) := by decide +kernel
theorem dX5_shot_155 : decode cX5_shot 155 = .ok (.getfield 10, 3) := by decide +kernel
theorem dX5_shot_158 : decode cX5_shot 158 = .ok (.aload 7, 2) := by decide +kernel
theorem dX5_shot_160 : decode cX5_shot 160 = .ok (.invokevirtual 83, 3) := by decide +kernel
theorem dX5_shot_163 : decode cX5_shot 163 = .ok (.pop, 1) := by decide +kernel
theorem dX5_shot_164 : decode cX5_shot 164 = .ok (.aload_n 0, 1) := by decide +kernel
theorem dX5_shot_165 : decode cX5_shot 165 = .ok (.getfield 16, 3) := by decide +kernel
theorem dX5_shot_168 : decode cX5_shot 168 = .ok (.iload 4, 2) := by decide +kernel
theorem dX5_shot_170 : decode cX5_shot 170 = .ok (.aload 7, 2) := by decide +kernel
theorem dX5_shot_172 : decode cX5_shot 172 = .ok (.invokevirtual 87, 3) := by decide +kernel
theorem dX5_shot_175 : decode cX5_shot 175 = .ok (.aload 7, 2) := by decide +kernel
theorem dX5_shot_177 : decode cX5_shot 177 = .ok (.getfield 90, 3) := by decide +kernel
theorem dX5_shot_180 : decode cX5_shot 180 = .ok (.ireturn, 1) := by decide +kernel
theorem dX5_drop_0 : decode cX5_drop 0 = .ok (.aload_n 0, 1) := by decide +kernel
theorem dX5_drop_1 : decode cX5_drop 1 = .ok (.iload_n 1, 1) := by decide +kernel
theorem dX5_drop_2 : decode cX5_drop 2 = .ok (.invokevirtual 93, 3) := by decide +kernel
theorem dX5_drop_5 : decode cX5_drop 5 = .ok (.astore_n 2, 1) := by decide +kernel
theorem dX5_drop_6 : decode cX5_drop 6 = .ok (.aload_n 0, 1) := by decide +kernel
theorem dX5_drop_7 : decode cX5_drop 7 = .ok (.aload_n 2, 1) := by decide +kernel
theorem dX5_drop_8 : decode cX5_drop 8 = .ok (.invokevirtual 97, 3) := by decide +kernel
theorem dX5_drop_11 : decode cX5_drop 11 = .ok (.istore_n 3, 1) := by decide +kernel
theorem dX5_drop_12 : decode cX5_drop 12 = .ok (.aload_n 0, 1) := by decide +kernel
theorem dX5_drop_13 : decode cX5_drop 13 = .ok (.getfield 16, 3) := by decide +kernel
theorem dX5_drop_16 : decode cX5_drop 16 = .ok (.iload_n 3, 1) := by decide +kernel
theorem dX5_drop_17 : decode cX5_drop 17 = .ok (.invokevirtual 101, 3) := by decide +kernel
theorem dX5_drop_20 : decode cX5_drop 20 = .ok (.pop, 1) := by decide +kernel
theorem dX5_drop_21 : decode cX5_drop 21 = .ok (.aload_n 2, 1) := by decide +kernel
theorem dX5_drop_22 : decode cX5_drop 22 = .ok (.dup, 1) := by decide +kernel
theorem dX5_drop_23 : decode cX5_drop 23 = .ok (.getfield 105, 3) := by decide +kernel
theorem dX5_drop_26 : decode cX5_drop 26 = .ok (.iconst 1, 1) := by decide +kernel
theorem dX5_drop_27 : decode cX5_drop 27 = .ok (.iadd, 1) := by decide +kernel
theorem dX5_drop_28 : decode cX5_drop 28 = .ok (.putfield 105, 3) := by decide +kernel
theorem dX5_drop_31 : decode cX5_drop 31 = .ok (.aload_n 2, 1) := by decide +kernel
theorem dX5_drop_32 : decode cX5_drop 32 = .ok (.iconst (-1), 1) := by decide +kernel
theorem dX5_drop_33 : decode cX5_drop 33 = .ok (.putfield 108, 3) := by decide +kernel
theorem dX5_drop_36 : decode cX5_drop 36 = .ok (.iload_n 3, 1) := by decide +kernel
theorem dX5_drop_37 : decode cX5_drop 37 = .ok (.ireturn, 1) := by decide +kernel
theorem dX5_move_0 : decode cX5_move 0 = .ok (.aload_n 0, 1) := by decide +kernel
theorem dX5_move_1 : decode cX5_move 1 = .ok (.iload_n 1, 1) := by decide +kernel
theorem dX5_move_2 : decode cX5_move 2 = .ok (.invokevirtual 93, 3) := by decide +kernel
theorem dX5_move_5 : decode cX5_move 5 = .ok (.astore_n 3, 1) := by decide +kernel
theorem dX5_move_6 : decode cX5_move 6 = .ok (.iload_n 2, 1) := by decide +kernel
theorem dX5_move_7 : decode cX5_move 7 = .ok (.ifCond .lt 14, 3) := by decide +kernel
theorem dX5_move_10 : decode cX5_move 10 = .ok (.iload_n 2, 1) := by decide +kernel
theorem dX5_move_11 : decode cX5_move 11 = .ok (.aload_n 0, 1) := by decide +kernel
theorem dX5_move_12 : decode cX5_move 12 = .ok (.getfield 16, 3) := by decide +kernel
theorem dX5_move_15 : decode cX5_move 15 = .ok (.invokevirtual 37, 3) := by decide +kernel
theorem dX5_move_18 : decode cX5_move 18 = .ok (.if_icmp .lt 13, 3) := by decide +kernel
theorem dX5_move_21 : decode cX5_move 21 = .ok (.new 41, 3) := by decide +kernel
theorem dX5_move_24 : decode cX5_move 24 = .ok (.dup, 1) := by decide +kernel
theorem dX5_move_25 : decode cX5_move 25 = .ok (.ldc 43, 2) := by decide +kernel
theorem dX5_move_27 : decode cX5_move 27 = .ok (.invokespecial 45, 3) := by decide +kernel
theorem dX5_move_30 : decode cX5_move 30 = .ok (.athrow, 1) := by decide +kernel
theorem dX5_move_31 : decode cX5_move 31 = .ok (.aload_n 0, 1) := by decide +kernel
theorem dX5_move_32 : decode cX5_move 32 = .ok (.aload_n 3, 1) := by decide +kernel
theorem dX5_move_33 : decode cX5_move 33 = .ok (.invokevirtual 97, 3) := by decide +kernel
theorem dX5_move_36 : decode cX5_move 36 = .ok (.istore 4, 2) := by decide +kernel
theorem dX5_move_38 : decode cX5_move 38 = .ok (.aload_n 0, 1) := by decide +kernel
theorem dX5_move_39 : decode cX5_move 39 = .ok (.getfield 16, 3) := by decide +kernel
theorem dX5_move_42 : decode cX5_move 42 = .ok (.iload 4, 2) := by decide +kernel
theorem dX5_move_44 : decode cX5_move 44 = .ok (.invokevirtual 101, 3) := by decide +kernel
theorem dX5_move_47 : decode cX5_move 47 = .ok (.pop, 1) := by decide +kernel
theorem dX5_move_48 : decode cX5_move 48 = .ok (.aload_n 0, 1) := by decide +kernel
theorem dX5_move_49 : decode cX5_move 49 = .ok (.getfield 16, 3) := by decide +kernel
theorem dX5_move_52 : decode cX5_move 52 = .ok (.iload_n 2, 1) := by decide +kernel
theorem dX5_move_53 : decode cX5_move 53 = .ok (.aload_n 3, 1) := by decide +kernel
theorem dX5_move_54 : decode cX5_move 54 = .ok (.invokevirtual 87, 3) := by decide +kernel
theorem dX5_move_57 : decode cX5_move 57 = .ok (.iload 4, 2) := by decide +kernel
theorem dX5_move_59 : decode cX5_move 59 = .ok (.ireturn, 1) := by decide +kernel
theorem dX5_shots_0 : decode cX5_shots 0 = .ok (.aload_n 0, 1) := by decide +kernel
theorem dX5_shots_1 : decode cX5_shots 1 = .ok (.getfield 16, 3) := by decide +kernel
theorem dX5_shots_4 : decode cX5_shots 4 = .ok (.invokevirtual 37, 3) := by decide +kernel
theorem dX5_shots_7 : decode cX5_shots 7 = .ok (.ireturn, 1) := by decide +kernel
theorem dX5_at_0 : decode cX5_at 0 = .ok (.iload_n 1, 1) := by decide +kernel
theorem dX5_at_1 : decode cX5_at 1 = .ok (.ifCond .lt 14, 3) := by decide +kernel
theorem dX5_at_4 : decode cX5_at 4 = .ok (.iload_n 1, 1) := by decide +kernel
theorem dX5_at_5 : decode cX5_at 5 = .ok (.aload_n 0, 1) := by decide +kernel
theorem dX5_at_6 : decode cX5_at 6 = .ok (.getfield 16, 3) := by decide +kernel
theorem dX5_at_9 : decode cX5_at 9 = .ok (.invokevirtual 37, 3) := by decide +kernel
theorem dX5_at_12 : decode cX5_at 12 = .ok (.if_icmp .lt 13, 3) := by decide +kernel
theorem dX5_at_15 : decode cX5_at 15 = .ok (.new 111, 3) := by decide +kernel
theorem dX5_at_18 : decode cX5_at 18 = .ok (.dup, 1) := by decide +kernel
theorem dX5_at_19 : decode cX5_at 19 = .ok (.ldc 113, 2) := by decide +kernel
theorem dX5_at_21 : decode cX5_at 21 = .ok (.invokespecial 115, 3) := by decide +kernel
theorem dX5_at_24 : decode cX5_at 24 = .ok (.athrow, 1) := by decide +kernel
theorem dX5_at_25 : decode cX5_at 25 = .ok (.aload_n 0, 1) := by decide +kernel
theorem dX5_at_26 : decode cX5_at 26 = .ok (.getfield 16, 3) := by decide +kernel
theorem dX5_at_29 : decode cX5_at 29 = .ok (.iload_n 1, 1) := by decide +kernel
theorem dX5_at_30 : decode cX5_at 30 = .ok (.invokevirtual 116, 3) := by decide +kernel
theorem dX5_at_33 : decode cX5_at 33 = .ok (.checkcast 70, 3) := by decide +kernel
theorem dX5_at_36 : decode cX5_at 36 = .ok (.getfield 90, 3) := by decide +kernel
theorem dX5_at_39 : decode cX5_at 39 = .ok (.ireturn, 1) := by decide +kernel
theorem dX5_place_0 : decode cX5_place 0 = .ok (.aload_n 0, 1) := by decide +kernel
theorem dX5_place_1 : decode cX5_place 1 = .ok (.aload_n 0, 1) := by decide +kernel
theorem dX5_place_2 : decode cX5_place 2 = .ok (.iload_n 1, 1) := by decide +kernel
theorem dX5_place_3 : decode cX5_place 3 = .ok (.invokevirtual 93, 3) := by decide +kernel
theorem dX5_place_6 : decode cX5_place 6 = .ok (.invokevirtual 119, 3) := by decide +kernel
theorem dX5_place_9 : decode cX5_place 9 = .ok (.ireturn, 1) := by decide +kernel
theorem dX5_camera_0 : decode cX5_camera 0 = .ok (.aload_n 0, 1) := by decide +kernel
theorem dX5_camera_1 : decode cX5_camera 1 = .ok (.iload_n 1, 1) := by decide +kernel
theorem dX5_camera_2 : decode cX5_camera 2 = .ok (.invokevirtual 93, 3) := by decide +kernel
theorem dX5_camera_5 : decode cX5_camera 5 = .ok (.astore 4, 2) := by decide +kernel
theorem dX5_camera_7 : decode cX5_camera 7 = .ok (.iload_n 2, 1) := by decide +kernel
theorem dX5_camera_8 : decode cX5_camera 8 = .ok (.iload_n 3, 1) := by decide +kernel
theorem dX5_camera_9 : decode cX5_camera 9 = .ok (.invokestatic 29, 3) := by decide +kernel
theorem dX5_camera_12 : decode cX5_camera 12 = .ok (.aload_n 0, 1) := by decide +kernel
theorem dX5_camera_13 : decode cX5_camera 13 = .ok (.aload 4, 2) := by decide +kernel
theorem dX5_camera_15 : decode cX5_camera 15 = .ok (.invokevirtual 122, 3) := by decide +kernel
theorem dX5_camera_18 : decode cX5_camera 18 = .ok (.aload 4, 2) := by decide +kernel
theorem dX5_camera_20 : decode cX5_camera 20 = .ok (.iload_n 2, 1) := by decide +kernel
theorem dX5_camera_21 : decode cX5_camera 21 = .ok (.iload_n 3, 1) := by decide +kernel
theorem dX5_camera_22 : decode cX5_camera 22 = .ok (.invokevirtual 126, 3) := by decide +kernel
theorem dX5_camera_25 : decode cX5_camera 25 = .ok (.aload 4, 2) := by decide +kernel
theorem dX5_camera_27 : decode cX5_camera 27 = .ok (.getfield 105, 3) := by decide +kernel
theorem dX5_camera_30 : decode cX5_camera 30 = .ok (.ireturn, 1) := by decide +kernel
theorem dX5_length_0 : decode cX5_length 0 = .ok (.aload_n 0, 1) := by decide +kernel
theorem dX5_length_1 : decode cX5_length 1 = .ok (.iload_n 1, 1) := by decide +kernel
theorem dX5_length_2 : decode cX5_length 2 = .ok (.invokevirtual 93, 3) := by decide +kernel
theorem dX5_length_5 : decode cX5_length 5 = .ok (.astore_n 3, 1) := by decide +kernel
theorem dX5_length_6 : decode cX5_length 6 = .ok (.iload_n 2, 1) := by decide +kernel
theorem dX5_length_7 : decode cX5_length 7 = .ok (.invokestatic 33, 3) := by decide +kernel
theorem dX5_length_10 : decode cX5_length 10 = .ok (.aload_n 0, 1) := by decide +kernel
theorem dX5_length_11 : decode cX5_length 11 = .ok (.aload_n 3, 1) := by decide +kernel
theorem dX5_length_12 : decode cX5_length 12 = .ok (.invokevirtual 122, 3) := by decide +kernel
theorem dX5_length_15 : decode cX5_length 15 = .ok (.aload_n 3, 1) := by decide +kernel
theorem dX5_length_16 : decode cX5_length 16 = .ok (.iload_n 2, 1) := by decide +kernel
theorem dX5_length_17 : decode cX5_length 17 = .ok (.invokevirtual 129, 3) := by decide +kernel
theorem dX5_length_20 : decode cX5_length 20 = .ok (.ireturn, 1) := by decide +kernel
theorem dX5_stand_0 : decode cX5_stand 0 = .ok (.aload_n 0, 1) := by decide +kernel
theorem dX5_stand_1 : decode cX5_stand 1 = .ok (.iload_n 1, 1) := by decide +kernel
theorem dX5_stand_2 : decode cX5_stand 2 = .ok (.invokevirtual 93, 3) := by decide +kernel
theorem dX5_stand_5 : decode cX5_stand 5 = .ok (.astore 5, 2) := by decide +kernel
theorem dX5_stand_7 : decode cX5_stand 7 = .ok (.iload_n 2, 1) := by decide +kernel
theorem dX5_stand_8 : decode cX5_stand 8 = .ok (.invokestatic 132, 3) := by decide +kernel
theorem dX5_stand_11 : decode cX5_stand 11 = .ok (.iload_n 3, 1) := by decide +kernel
theorem dX5_stand_12 : decode cX5_stand 12 = .ok (.bipush 45, 2) := by decide +kernel
theorem dX5_stand_14 : decode cX5_stand 14 = .ok (.if_icmp .eq 28, 3) := by decide +kernel
theorem dX5_stand_17 : decode cX5_stand 17 = .ok (.iload_n 3, 1) := by decide +kernel
theorem dX5_stand_18 : decode cX5_stand 18 = .ok (.invokestatic 135, 3) := by decide +kernel
theorem dX5_stand_21 : decode cX5_stand 21 = .ok (.ifCond .eq 11, 3) := by decide +kernel
theorem dX5_stand_24 : decode cX5_stand 24 = .ok (.iload 4, 2) := by decide +kernel
theorem dX5_stand_26 : decode cX5_stand 26 = .ok (.invokestatic 135, 3) := by decide +kernel
theorem dX5_stand_29 : decode cX5_stand 29 = .ok (.ifCond .ne 13, 3) := by decide +kernel
theorem dX5_stand_32 : decode cX5_stand 32 = .ok (.new 41, 3) := by decide +kernel
theorem dX5_stand_35 : decode cX5_stand 35 = .ok (.dup, 1) := by decide +kernel
theorem dX5_stand_36 : decode cX5_stand 36 = .ok (.ldc 139, 2) := by decide +kernel
theorem dX5_stand_38 : decode cX5_stand 38 = .ok (.invokespecial 45, 3) := by decide +kernel
theorem dX5_stand_41 : decode cX5_stand 41 = .ok (.athrow, 1) := by decide +kernel
theorem dX5_stand_42 : decode cX5_stand 42 = .ok (.aload_n 0, 1) := by decide +kernel
theorem dX5_stand_43 : decode cX5_stand 43 = .ok (.aload 5, 2) := by decide +kernel
theorem dX5_stand_45 : decode cX5_stand 45 = .ok (.invokevirtual 122, 3) := by decide +kernel
theorem dX5_stand_48 : decode cX5_stand 48 = .ok (.iload_n 3, 1) := by decide +kernel
theorem dX5_stand_49 : decode cX5_stand 49 = .ok (.bipush 45, 2) := by decide +kernel
theorem dX5_stand_51 : decode cX5_stand 51 = .ok (.if_icmp .ne 12, 3) := by decide +kernel
theorem dX5_stand_54 : decode cX5_stand 54 = .ok (.aload 5, 2) := by decide +kernel
theorem dX5_stand_56 : decode cX5_stand 56 = .ok (.iload_n 2, 1) := by decide +kernel
theorem dX5_stand_57 : decode cX5_stand 57 = .ok (.invokevirtual 141, 3) := by decide +kernel
theorem dX5_stand_60 : decode cX5_stand 60 = .ok (.goto 12, 3) := by decide +kernel
theorem dX5_stand_63 : decode cX5_stand 63 = .ok (.aload 5, 2) := by decide +kernel
theorem dX5_stand_65 : decode cX5_stand 65 = .ok (.iload_n 2, 1) := by decide +kernel
theorem dX5_stand_66 : decode cX5_stand 66 = .ok (.iload_n 3, 1) := by decide +kernel
theorem dX5_stand_67 : decode cX5_stand 67 = .ok (.iload 4, 2) := by decide +kernel
theorem dX5_stand_69 : decode cX5_stand 69 = .ok (.invokevirtual 144, 3) := by decide +kernel
theorem dX5_stand_72 : decode cX5_stand 72 = .ok (.aload 5, 2) := by decide +kernel
theorem dX5_stand_74 : decode cX5_stand 74 = .ok (.getfield 148, 3) := by decide +kernel
theorem dX5_stand_77 : decode cX5_stand 77 = .ok (.invokevirtual 152, 3) := by decide +kernel
theorem dX5_stand_80 : decode cX5_stand 80 = .ok (.invokestatic 157, 3) := by decide +kernel
theorem dX5_stand_83 : decode cX5_stand 83 = .ok (.ireturn, 1) := by decide +kernel
theorem dX5_enters_0 : decode cX5_enters 0 = .ok (.aload_n 0, 1) := by decide +kernel
theorem dX5_enters_1 : decode cX5_enters 1 = .ok (.iload_n 1, 1) := by decide +kernel
theorem dX5_enters_2 : decode cX5_enters 2 = .ok (.iload_n 2, 1) := by decide +kernel
theorem dX5_enters_3 : decode cX5_enters 3 = .ok (.iload_n 3, 1) := by decide +kernel
theorem dX5_enters_4 : decode cX5_enters 4 = .ok (.invokevirtual 162, 3) := by decide +kernel
theorem dX5_enters_7 : decode cX5_enters 7 = .ok (.astore 4, 2) := by decide +kernel
theorem dX5_enters_9 : decode cX5_enters 9 = .ok (.aload 4, 2) := by decide +kernel
theorem dX5_enters_11 : decode cX5_enters 11 = .ok (.aload 4, 2) := by decide +kernel
theorem dX5_enters_13 : decode cX5_enters 13 = .ok (.getfield 148, 3) := by decide +kernel
theorem dX5_enters_16 : decode cX5_enters 16 = .ok (.getfield 166, 3) := by decide +kernel
theorem dX5_enters_19 : decode cX5_enters 19 = .ok (.iload_n 2, 1) := by decide +kernel
theorem dX5_enters_20 : decode cX5_enters 20 = .ok (.iload_n 3, 1) := by decide +kernel
theorem dX5_enters_21 : decode cX5_enters 21 = .ok (.invokevirtual 170, 3) := by decide +kernel
theorem dX5_enters_24 : decode cX5_enters 24 = .ok (.ireturn, 1) := by decide +kernel
theorem dX5_leaves_0 : decode cX5_leaves 0 = .ok (.aload_n 0, 1) := by decide +kernel
theorem dX5_leaves_1 : decode cX5_leaves 1 = .ok (.iload_n 1, 1) := by decide +kernel
theorem dX5_leaves_2 : decode cX5_leaves 2 = .ok (.iload_n 2, 1) := by decide +kernel
theorem dX5_leaves_3 : decode cX5_leaves 3 = .ok (.iload_n 3, 1) := by decide +kernel
theorem dX5_leaves_4 : decode cX5_leaves 4 = .ok (.invokevirtual 162, 3) := by decide +kernel
theorem dX5_leaves_7 : decode cX5_leaves 7 = .ok (.astore 4, 2) := by decide +kernel
theorem dX5_leaves_9 : decode cX5_leaves 9 = .ok (.aload 4, 2) := by decide +kernel
theorem dX5_leaves_11 : decode cX5_leaves 11 = .ok (.aload 4, 2) := by decide +kernel
theorem dX5_leaves_13 : decode cX5_leaves 13 = .ok (.getfield 148, 3) := by decide +kernel
theorem dX5_leaves_16 : decode cX5_leaves 16 = .ok (.getfield 174, 3) := by decide +kernel
theorem dX5_leaves_19 : decode cX5_leaves 19 = .ok (.iload_n 2, 1) := by decide +kernel
theorem dX5_leaves_20 : decode cX5_leaves 20 = .ok (.iload_n 3, 1) := by decide +kernel
theorem dX5_leaves_21 : decode cX5_leaves 21 = .ok (.invokevirtual 170, 3) := by decide +kernel
theorem dX5_leaves_24 : decode cX5_leaves 24 = .ok (.ireturn, 1) := by decide +kernel
theorem dX5_version_0 : decode cX5_version 0 = .ok (.aload_n 0, 1) := by decide +kernel
theorem dX5_version_1 : decode cX5_version 1 = .ok (.iload_n 1, 1) := by decide +kernel
theorem dX5_version_2 : decode cX5_version 2 = .ok (.invokevirtual 93, 3) := by decide +kernel
theorem dX5_version_5 : decode cX5_version 5 = .ok (.getfield 105, 3) := by decide +kernel
theorem dX5_version_8 : decode cX5_version 8 = .ok (.ireturn, 1) := by decide +kernel
theorem dX5_time_0 : decode cX5_time 0 = .ok (.aload_n 0, 1) := by decide +kernel
theorem dX5_time_1 : decode cX5_time 1 = .ok (.aload_n 0, 1) := by decide +kernel
theorem dX5_time_2 : decode cX5_time 2 = .ok (.aload_n 0, 1) := by decide +kernel
theorem dX5_time_3 : decode cX5_time 3 = .ok (.iload_n 1, 1) := by decide +kernel
theorem dX5_time_4 : decode cX5_time 4 = .ok (.invokevirtual 93, 3) := by decide +kernel
theorem dX5_time_7 : decode cX5_time 7 = .ok (.invokevirtual 119, 3) := by decide +kernel
theorem dX5_time_10 : decode cX5_time 10 = .ok (.invokevirtual 177, 3) := by decide +kernel
theorem dX5_time_13 : decode cX5_time 13 = .ok (.ireturn, 1) := by decide +kernel
theorem dX5_seen_0 : decode cX5_seen 0 = .ok (.aload_n 0, 1) := by decide +kernel
theorem dX5_seen_1 : decode cX5_seen 1 = .ok (.iload_n 1, 1) := by decide +kernel
theorem dX5_seen_2 : decode cX5_seen 2 = .ok (.invokevirtual 180, 3) := by decide +kernel
theorem dX5_seen_5 : decode cX5_seen 5 = .ok (.istore_n 2, 1) := by decide +kernel
theorem dX5_seen_6 : decode cX5_seen 6 = .ok (.iload_n 2, 1) := by decide +kernel
theorem dX5_seen_7 : decode cX5_seen 7 = .ok (.iconst (-1), 1) := by decide +kernel
theorem dX5_seen_8 : decode cX5_seen 8 = .ok (.if_icmp .ne 13, 3) := by decide +kernel
theorem dX5_seen_11 : decode cX5_seen 11 = .ok (.new 111, 3) := by decide +kernel
theorem dX5_seen_14 : decode cX5_seen 14 = .ok (.dup, 1) := by decide +kernel
theorem dX5_seen_15 : decode cX5_seen 15 = .ok (.ldc 183, 2) := by decide +kernel
theorem dX5_seen_17 : decode cX5_seen 17 = .ok (.invokespecial 115, 3) := by decide +kernel
theorem dX5_seen_20 : decode cX5_seen 20 = .ok (.athrow, 1) := by decide +kernel
theorem dX5_seen_21 : decode cX5_seen 21 = .ok (.iload_n 2, 1) := by decide +kernel
theorem dX5_seen_22 : decode cX5_seen 22 = .ok (.ireturn, 1) := by decide +kernel
theorem dX5_ended_0 : decode cX5_ended 0 = .ok (.iload_n 1, 1) := by decide +kernel
theorem dX5_ended_1 : decode cX5_ended 1 = .ok (.ifCond .lt 10, 3) := by decide +kernel
theorem dX5_ended_4 : decode cX5_ended 4 = .ok (.iload_n 1, 1) := by decide +kernel
theorem dX5_ended_5 : decode cX5_ended 5 = .ok (.sipush 9999, 3) := by decide +kernel
theorem dX5_ended_8 : decode cX5_ended 8 = .ok (.if_icmp .le 13, 3) := by decide +kernel
theorem dX5_ended_11 : decode cX5_ended 11 = .ok (.new 41, 3) := by decide +kernel
theorem dX5_ended_14 : decode cX5_ended 14 = .ok (.dup, 1) := by decide +kernel
theorem dX5_ended_15 : decode cX5_ended 15 = .ok (.ldc 185, 2) := by decide +kernel
theorem dX5_ended_17 : decode cX5_ended 17 = .ok (.invokespecial 45, 3) := by decide +kernel
theorem dX5_ended_20 : decode cX5_ended 20 = .ok (.athrow, 1) := by decide +kernel
theorem dX5_ended_21 : decode cX5_ended 21 = .ok (.iconst 0, 1) := by decide +kernel
theorem dX5_ended_22 : decode cX5_ended 22 = .ok (.istore_n 2, 1) := by decide +kernel
theorem dX5_ended_23 : decode cX5_ended 23 = .ok (.iconst 0, 1) := by decide +kernel
theorem dX5_ended_24 : decode cX5_ended 24 = .ok (.istore_n 3, 1) := by decide +kernel
theorem dX5_ended_25 : decode cX5_ended 25 = .ok (.iconst 0, 1) := by decide +kernel
theorem dX5_ended_26 : decode cX5_ended 26 = .ok (.istore 4, 2) := by decide +kernel
theorem dX5_ended_28 : decode cX5_ended 28 = .ok (.iload 4, 2) := by decide +kernel
theorem dX5_ended_30 : decode cX5_ended 30 = .ok (.aload_n 0, 1) := by decide +kernel
theorem dX5_ended_31 : decode cX5_ended 31 = .ok (.getfield 16, 3) := by decide +kernel
theorem dX5_ended_34 : decode cX5_ended 34 = .ok (.invokevirtual 37, 3) := by decide +kernel
theorem dX5_ended_37 : decode cX5_ended 37 = .ok (.if_icmp .ge 35, 3) := by decide +kernel
theorem dX5_ended_40 : decode cX5_ended 40 = .ok (.iload_n 3, 1) := by decide +kernel
theorem dX5_ended_41 : decode cX5_ended 41 = .ok (.aload_n 0, 1) := by decide +kernel
theorem dX5_ended_42 : decode cX5_ended 42 = .ok (.getfield 16, 3) := by decide +kernel
theorem dX5_ended_45 : decode cX5_ended 45 = .ok (.iload 4, 2) := by decide +kernel
theorem dX5_ended_47 : decode cX5_ended 47 = .ok (.invokevirtual 116, 3) := by decide +kernel
theorem dX5_ended_50 : decode cX5_ended 50 = .ok (.checkcast 70, 3) := by decide +kernel
theorem dX5_ended_53 : decode cX5_ended 53 = .ok (.getfield 187, 3) := by decide +kernel
theorem dX5_ended_56 : decode cX5_ended 56 = .ok (.iadd, 1) := by decide +kernel
theorem dX5_ended_57 : decode cX5_ended 57 = .ok (.istore_n 3, 1) := by decide +kernel
theorem dX5_ended_58 : decode cX5_ended 58 = .ok (.iload_n 3, 1) := by decide +kernel
theorem dX5_ended_59 : decode cX5_ended 59 = .ok (.iload_n 1, 1) := by decide +kernel
theorem dX5_ended_60 : decode cX5_ended 60 = .ok (.if_icmp .gt 6, 3) := by decide +kernel
theorem dX5_ended_63 : decode cX5_ended 63 = .ok (.iinc 2 1, 3) := by decide +kernel
theorem dX5_ended_66 : decode cX5_ended 66 = .ok (.iinc 4 1, 3) := by decide +kernel
theorem dX5_ended_69 : decode cX5_ended 69 = .ok (.goto (-41), 3) := by decide +kernel
theorem dX5_ended_72 : decode cX5_ended 72 = .ok (.iload_n 2, 1) := by decide +kernel
theorem dX5_ended_73 : decode cX5_ended 73 = .ok (.ireturn, 1) := by decide +kernel
theorem dX5_lock_0 : decode cX5_lock 0 = .ok (.aload_n 0, 1) := by decide +kernel
theorem dX5_lock_1 : decode cX5_lock 1 = .ok (.getfield 48, 3) := by decide +kernel
theorem dX5_lock_4 : decode cX5_lock 4 = .ok (.istore_n 1, 1) := by decide +kernel
theorem dX5_lock_5 : decode cX5_lock 5 = .ok (.aload_n 0, 1) := by decide +kernel
theorem dX5_lock_6 : decode cX5_lock 6 = .ok (.getfield 48, 3) := by decide +kernel
theorem dX5_lock_9 : decode cX5_lock 9 = .ok (.ifCond .ne 46, 3) := by decide +kernel
theorem dX5_lock_12 : decode cX5_lock 12 = .ok (.iconst 0, 1) := by decide +kernel
theorem dX5_lock_13 : decode cX5_lock 13 = .ok (.istore_n 2, 1) := by decide +kernel
theorem dX5_lock_14 : decode cX5_lock 14 = .ok (.iload_n 2, 1) := by decide +kernel
theorem dX5_lock_15 : decode cX5_lock 15 = .ok (.aload_n 0, 1) := by decide +kernel
theorem dX5_lock_16 : decode cX5_lock 16 = .ok (.getfield 16, 3) := by decide +kernel
theorem dX5_lock_19 : decode cX5_lock 19 = .ok (.invokevirtual 37, 3) := by decide +kernel
theorem dX5_lock_22 : decode cX5_lock 22 = .ok (.if_icmp .ge 28, 3) := by decide +kernel
theorem dX5_lock_25 : decode cX5_lock 25 = .ok (.aload_n 0, 1) := by decide +kernel
theorem dX5_lock_26 : decode cX5_lock 26 = .ok (.getfield 16, 3) := by decide +kernel
theorem dX5_lock_29 : decode cX5_lock 29 = .ok (.iload_n 2, 1) := by decide +kernel
theorem dX5_lock_30 : decode cX5_lock 30 = .ok (.invokevirtual 116, 3) := by decide +kernel
theorem dX5_lock_33 : decode cX5_lock 33 = .ok (.checkcast 70, 3) := by decide +kernel
theorem dX5_lock_36 : decode cX5_lock 36 = .ok (.aload_n 0, 1) := by decide +kernel
theorem dX5_lock_37 : decode cX5_lock 37 = .ok (.iload_n 2, 1) := by decide +kernel
theorem dX5_lock_38 : decode cX5_lock 38 = .ok (.invokevirtual 190, 3) := by decide +kernel
theorem dX5_lock_41 : decode cX5_lock 41 = .ok (.putfield 75, 3) := by decide +kernel
theorem dX5_lock_44 : decode cX5_lock 44 = .ok (.iinc 2 1, 3) := by decide +kernel
theorem dX5_lock_47 : decode cX5_lock 47 = .ok (.goto (-33), 3) := by decide +kernel
theorem dX5_lock_50 : decode cX5_lock 50 = .ok (.aload_n 0, 1) := by decide +kernel
theorem dX5_lock_51 : decode cX5_lock 51 = .ok (.iconst 1, 1) := by decide +kernel
theorem dX5_lock_52 : decode cX5_lock 52 = .ok (.putfield 48, 3) := by decide +kernel
theorem dX5_lock_55 : decode cX5_lock 55 = .ok (.iload_n 1, 1) := by decide +kernel
theorem dX5_lock_56 : decode cX5_lock 56 = .ok (.ireturn, 1) := by decide +kernel
theorem dX5_number_0 : decode cX5_number 0 = .ok (.aload_n 0, 1) := by decide +kernel
theorem dX5_number_1 : decode cX5_number 1 = .ok (.aload_n 0, 1) := by decide +kernel
theorem dX5_number_2 : decode cX5_number 2 = .ok (.iload_n 1, 1) := by decide +kernel
theorem dX5_number_3 : decode cX5_number 3 = .ok (.invokevirtual 93, 3) := by decide +kernel
theorem dX5_number_6 : decode cX5_number 6 = .ok (.invokevirtual 193, 3) := by decide +kernel
theorem dX5_number_9 : decode cX5_number 9 = .ok (.ireturn, 1) := by decide +kernel
theorem dX5_letter_0 : decode cX5_letter 0 = .ok (.aload_n 0, 1) := by decide +kernel
theorem dX5_letter_1 : decode cX5_letter 1 = .ok (.iload_n 1, 1) := by decide +kernel
theorem dX5_letter_2 : decode cX5_letter 2 = .ok (.invokevirtual 93, 3) := by decide +kernel
theorem dX5_letter_5 : decode cX5_letter 5 = .ok (.astore_n 2, 1) := by decide +kernel
theorem dX5_letter_6 : decode cX5_letter 6 = .ok (.aload_n 0, 1) := by decide +kernel
theorem dX5_letter_7 : decode cX5_letter 7 = .ok (.aload_n 2, 1) := by decide +kernel
theorem dX5_letter_8 : decode cX5_letter 8 = .ok (.invokevirtual 193, 3) := by decide +kernel
theorem dX5_letter_11 : decode cX5_letter 11 = .ok (.pop, 1) := by decide +kernel
theorem dX5_letter_12 : decode cX5_letter 12 = .ok (.aload_n 2, 1) := by decide +kernel
theorem dX5_letter_13 : decode cX5_letter 13 = .ok (.getfield 79, 3) := by decide +kernel
theorem dX5_letter_16 : decode cX5_letter 16 = .ok (.ireturn, 1) := by decide +kernel
theorem dX5_named_0 : decode cX5_named 0 = .ok (.iconst 0, 1) := by decide +kernel
theorem dX5_named_1 : decode cX5_named 1 = .ok (.istore_n 3, 1) := by decide +kernel
theorem dX5_named_2 : decode cX5_named 2 = .ok (.iload_n 3, 1) := by decide +kernel
theorem dX5_named_3 : decode cX5_named 3 = .ok (.aload_n 0, 1) := by decide +kernel
theorem dX5_named_4 : decode cX5_named 4 = .ok (.getfield 16, 3) := by decide +kernel
theorem dX5_named_7 : decode cX5_named 7 = .ok (.invokevirtual 37, 3) := by decide +kernel
theorem dX5_named_10 : decode cX5_named 10 = .ok (.if_icmp .ge 51, 3) := by decide +kernel
theorem dX5_named_13 : decode cX5_named 13 = .ok (.aload_n 0, 1) := by decide +kernel
theorem dX5_named_14 : decode cX5_named 14 = .ok (.iload_n 3, 1) := by decide +kernel
theorem dX5_named_15 : decode cX5_named 15 = .ok (.invokevirtual 190, 3) := by decide +kernel
theorem dX5_named_18 : decode cX5_named 18 = .ok (.iload_n 1, 1) := by decide +kernel
theorem dX5_named_19 : decode cX5_named 19 = .ok (.if_icmp .ne 36, 3) := by decide +kernel
theorem dX5_named_22 : decode cX5_named 22 = .ok (.aload_n 0, 1) := by decide +kernel
theorem dX5_named_23 : decode cX5_named 23 = .ok (.getfield 16, 3) := by decide +kernel
theorem dX5_named_26 : decode cX5_named 26 = .ok (.iload_n 3, 1) := by decide +kernel
theorem dX5_named_27 : decode cX5_named 27 = .ok (.invokevirtual 116, 3) := by decide +kernel
theorem dX5_named_30 : decode cX5_named 30 = .ok (.checkcast 70, 3) := by decide +kernel
theorem dX5_named_33 : decode cX5_named 33 = .ok (.getfield 79, 3) := by decide +kernel
theorem dX5_named_36 : decode cX5_named 36 = .ok (.iload_n 2, 1) := by decide +kernel
theorem dX5_named_37 : decode cX5_named 37 = .ok (.if_icmp .ne 18, 3) := by decide +kernel
theorem dX5_named_40 : decode cX5_named 40 = .ok (.aload_n 0, 1) := by decide +kernel
theorem dX5_named_41 : decode cX5_named 41 = .ok (.getfield 16, 3) := by decide +kernel
theorem dX5_named_44 : decode cX5_named 44 = .ok (.iload_n 3, 1) := by decide +kernel
theorem dX5_named_45 : decode cX5_named 45 = .ok (.invokevirtual 116, 3) := by decide +kernel
theorem dX5_named_48 : decode cX5_named 48 = .ok (.checkcast 70, 3) := by decide +kernel
theorem dX5_named_51 : decode cX5_named 51 = .ok (.getfield 90, 3) := by decide +kernel
theorem dX5_named_54 : decode cX5_named 54 = .ok (.ireturn, 1) := by decide +kernel
theorem dX5_named_55 : decode cX5_named 55 = .ok (.iinc 3 1, 3) := by decide +kernel
theorem dX5_named_58 : decode cX5_named 58 = .ok (.goto (-56), 3) := by decide +kernel
theorem dX5_named_61 : decode cX5_named 61 = .ok (.new 111, 3) := by decide +kernel
theorem dX5_named_64 : decode cX5_named 64 = .ok (.dup, 1) := by decide +kernel
theorem dX5_named_65 : decode cX5_named 65 = .ok (.ldc 196, 2) := by decide +kernel
theorem dX5_named_67 : decode cX5_named 67 = .ok (.invokespecial 115, 3) := by decide +kernel
theorem dX5_named_70 : decode cX5_named 70 = .ok (.athrow, 1) := by decide +kernel
theorem dX5_wrong_0 : decode cX5_wrong 0 = .ok (.aload_n 0, 1) := by decide +kernel
theorem dX5_wrong_1 : decode cX5_wrong 1 = .ok (.iload_n 1, 1) := by decide +kernel
theorem dX5_wrong_2 : decode cX5_wrong 2 = .ok (.invokevirtual 198, 3) := by decide +kernel
theorem dX5_wrong_5 : decode cX5_wrong 5 = .ok (.aload_n 0, 1) := by decide +kernel
theorem dX5_wrong_6 : decode cX5_wrong 6 = .ok (.getfield 16, 3) := by decide +kernel
theorem dX5_wrong_9 : decode cX5_wrong 9 = .ok (.iload_n 1, 1) := by decide +kernel
theorem dX5_wrong_10 : decode cX5_wrong 10 = .ok (.iconst 1, 1) := by decide +kernel
theorem dX5_wrong_11 : decode cX5_wrong 11 = .ok (.isub, 1) := by decide +kernel
theorem dX5_wrong_12 : decode cX5_wrong 12 = .ok (.invokevirtual 116, 3) := by decide +kernel
theorem dX5_wrong_15 : decode cX5_wrong 15 = .ok (.checkcast 70, 3) := by decide +kernel
theorem dX5_wrong_18 : decode cX5_wrong 18 = .ok (.aload_n 0, 1) := by decide +kernel
theorem dX5_wrong_19 : decode cX5_wrong 19 = .ok (.getfield 16, 3) := by decide +kernel
theorem dX5_wrong_22 : decode cX5_wrong 22 = .ok (.iload_n 1, 1) := by decide +kernel
theorem dX5_wrong_23 : decode cX5_wrong 23 = .ok (.invokevirtual 116, 3) := by decide +kernel
theorem dX5_wrong_26 : decode cX5_wrong 26 = .ok (.checkcast 70, 3) := by decide +kernel
theorem dX5_wrong_29 : decode cX5_wrong 29 = .ok (.invokestatic 201, 3) := by decide +kernel
theorem dX5_wrong_32 : decode cX5_wrong 32 = .ok (.ireturn, 1) := by decide +kernel
theorem dX5_excuse_0 : decode cX5_excuse 0 = .ok (.iload_n 2, 1) := by decide +kernel
theorem dX5_excuse_1 : decode cX5_excuse 1 = .ok (.bipush 120, 2) := by decide +kernel
theorem dX5_excuse_3 : decode cX5_excuse 3 = .ok (.if_icmp .eq 37, 3) := by decide +kernel
theorem dX5_excuse_6 : decode cX5_excuse 6 = .ok (.iload_n 2, 1) := by decide +kernel
theorem dX5_excuse_7 : decode cX5_excuse 7 = .ok (.bipush 106, 2) := by decide +kernel
theorem dX5_excuse_9 : decode cX5_excuse 9 = .ok (.if_icmp .eq 31, 3) := by decide +kernel
theorem dX5_excuse_12 : decode cX5_excuse 12 = .ok (.iload_n 2, 1) := by decide +kernel
theorem dX5_excuse_13 : decode cX5_excuse 13 = .ok (.bipush 103, 2) := by decide +kernel
theorem dX5_excuse_15 : decode cX5_excuse 15 = .ok (.if_icmp .eq 25, 3) := by decide +kernel
theorem dX5_excuse_18 : decode cX5_excuse 18 = .ok (.iload_n 2, 1) := by decide +kernel
theorem dX5_excuse_19 : decode cX5_excuse 19 = .ok (.bipush 101, 2) := by decide +kernel
theorem dX5_excuse_21 : decode cX5_excuse 21 = .ok (.if_icmp .eq 19, 3) := by decide +kernel
theorem dX5_excuse_24 : decode cX5_excuse 24 = .ok (.iload_n 2, 1) := by decide +kernel
theorem dX5_excuse_25 : decode cX5_excuse 25 = .ok (.bipush 109, 2) := by decide +kernel
theorem dX5_excuse_27 : decode cX5_excuse 27 = .ok (.if_icmp .eq 13, 3) := by decide +kernel
theorem dX5_excuse_30 : decode cX5_excuse 30 = .ok (.new 41, 3) := by decide +kernel
theorem dX5_excuse_33 : decode cX5_excuse 33 = .ok (.dup, 1) := by decide +kernel
theorem dX5_excuse_34 : decode cX5_excuse 34 = .ok (.ldc 205, 2) := by decide +kernel
theorem dX5_excuse_36 : decode cX5_excuse 36 = .ok (.invokespecial 45, 3) := by decide +kernel
theorem dX5_excuse_39 : decode cX5_excuse 39 = .ok (.athrow, 1) := by decide +kernel
theorem dX5_excuse_40 : decode cX5_excuse 40 = .ok (.aload_n 0, 1) := by decide +kernel
theorem dX5_excuse_41 : decode cX5_excuse 41 = .ok (.iload_n 1, 1) := by decide +kernel
theorem dX5_excuse_42 : decode cX5_excuse 42 = .ok (.invokevirtual 198, 3) := by decide +kernel
theorem dX5_excuse_45 : decode cX5_excuse 45 = .ok (.aload_n 0, 1) := by decide +kernel
theorem dX5_excuse_46 : decode cX5_excuse 46 = .ok (.getfield 16, 3) := by decide +kernel
theorem dX5_excuse_49 : decode cX5_excuse 49 = .ok (.iload_n 1, 1) := by decide +kernel
theorem dX5_excuse_50 : decode cX5_excuse 50 = .ok (.iconst 1, 1) := by decide +kernel
theorem dX5_excuse_51 : decode cX5_excuse 51 = .ok (.isub, 1) := by decide +kernel
theorem dX5_excuse_52 : decode cX5_excuse 52 = .ok (.invokevirtual 116, 3) := by decide +kernel
theorem dX5_excuse_55 : decode cX5_excuse 55 = .ok (.checkcast 70, 3) := by decide +kernel
theorem dX5_excuse_58 : decode cX5_excuse 58 = .ok (.astore_n 3, 1) := by decide +kernel
theorem dX5_excuse_59 : decode cX5_excuse 59 = .ok (.aload_n 0, 1) := by decide +kernel
theorem dX5_excuse_60 : decode cX5_excuse 60 = .ok (.getfield 16, 3) := by decide +kernel
theorem dX5_excuse_63 : decode cX5_excuse 63 = .ok (.iload_n 1, 1) := by decide +kernel
theorem dX5_excuse_64 : decode cX5_excuse 64 = .ok (.invokevirtual 116, 3) := by decide +kernel
theorem dX5_excuse_67 : decode cX5_excuse 67 = .ok (.checkcast 70, 3) := by decide +kernel
theorem dX5_excuse_70 : decode cX5_excuse 70 = .ok (.astore 4, 2) := by decide +kernel
theorem dX5_excuse_72 : decode cX5_excuse 72 = .ok (.aload 4, 2) := by decide +kernel
theorem dX5_excuse_74 : decode cX5_excuse 74 = .ok (.aload_n 3, 1) := by decide +kernel
theorem dX5_excuse_75 : decode cX5_excuse 75 = .ok (.invokevirtual 207, 3) := by decide +kernel
theorem dX5_excuse_78 : decode cX5_excuse 78 = .ok (.istore 5, 2) := by decide +kernel
theorem dX5_excuse_80 : decode cX5_excuse 80 = .ok (.aload 4, 2) := by decide +kernel
theorem dX5_excuse_82 : decode cX5_excuse 82 = .ok (.getfield 211, 3) := by decide +kernel
theorem dX5_excuse_85 : decode cX5_excuse 85 = .ok (.iload_n 2, 1) := by decide +kernel
theorem dX5_excuse_86 : decode cX5_excuse 86 = .ok (.aload 4, 2) := by decide +kernel
theorem dX5_excuse_88 : decode cX5_excuse 88 = .ok (.aload_n 3, 1) := by decide +kernel
theorem dX5_excuse_89 : decode cX5_excuse 89 = .ok (.invokevirtual 215, 3) := by decide +kernel
theorem dX5_excuse_92 : decode cX5_excuse 92 = .ok (.iload 5, 2) := by decide +kernel
theorem dX5_excuse_94 : decode cX5_excuse 94 = .ok (.ireturn, 1) := by decide +kernel
theorem dX5_isBroken_0 : decode cX5_isBroken 0 = .ok (.aload_n 0, 1) := by decide +kernel
theorem dX5_isBroken_1 : decode cX5_isBroken 1 = .ok (.iload_n 1, 1) := by decide +kernel
theorem dX5_isBroken_2 : decode cX5_isBroken 2 = .ok (.invokevirtual 198, 3) := by decide +kernel
theorem dX5_isBroken_5 : decode cX5_isBroken 5 = .ok (.aload_n 0, 1) := by decide +kernel
theorem dX5_isBroken_6 : decode cX5_isBroken 6 = .ok (.getfield 16, 3) := by decide +kernel
theorem dX5_isBroken_9 : decode cX5_isBroken 9 = .ok (.iload_n 1, 1) := by decide +kernel
theorem dX5_isBroken_10 : decode cX5_isBroken 10 = .ok (.iconst 1, 1) := by decide +kernel
theorem dX5_isBroken_11 : decode cX5_isBroken 11 = .ok (.isub, 1) := by decide +kernel
theorem dX5_isBroken_12 : decode cX5_isBroken 12 = .ok (.invokevirtual 116, 3) := by decide +kernel
theorem dX5_isBroken_15 : decode cX5_isBroken 15 = .ok (.checkcast 70, 3) := by decide +kernel
theorem dX5_isBroken_18 : decode cX5_isBroken 18 = .ok (.aload_n 0, 1) := by decide +kernel
theorem dX5_isBroken_19 : decode cX5_isBroken 19 = .ok (.getfield 16, 3) := by decide +kernel
theorem dX5_isBroken_22 : decode cX5_isBroken 22 = .ok (.iload_n 1, 1) := by decide +kernel
theorem dX5_isBroken_23 : decode cX5_isBroken 23 = .ok (.invokevirtual 116, 3) := by decide +kernel
theorem dX5_isBroken_26 : decode cX5_isBroken 26 = .ok (.checkcast 70, 3) := by decide +kernel
theorem dX5_isBroken_29 : decode cX5_isBroken 29 = .ok (.invokestatic 221, 3) := by decide +kernel
theorem dX5_isBroken_32 : decode cX5_isBroken 32 = .ok (.ireturn, 1) := by decide +kernel
theorem dX5_broken_0 : decode cX5_broken 0 = .ok (.aload_n 0, 1) := by decide +kernel
theorem dX5_broken_1 : decode cX5_broken 1 = .ok (.invokevirtual 225, 3) := by decide +kernel
theorem dX5_broken_4 : decode cX5_broken 4 = .ok (.ireturn, 1) := by decide +kernel
theorem dX5_hand_0 : decode cX5_hand 0 = .ok (.aload_n 0, 1) := by decide +kernel
theorem dX5_hand_1 : decode cX5_hand 1 = .ok (.iload_n 1, 1) := by decide +kernel
theorem dX5_hand_2 : decode cX5_hand 2 = .ok (.invokevirtual 93, 3) := by decide +kernel
theorem dX5_hand_5 : decode cX5_hand 5 = .ok (.astore_n 3, 1) := by decide +kernel
theorem dX5_hand_6 : decode cX5_hand 6 = .ok (.iload_n 2, 1) := by decide +kernel
theorem dX5_hand_7 : decode cX5_hand 7 = .ok (.ifCond .lt 8, 3) := by decide +kernel
theorem dX5_hand_10 : decode cX5_hand 10 = .ok (.iload_n 2, 1) := by decide +kernel
theorem dX5_hand_11 : decode cX5_hand 11 = .ok (.iconst 4, 1) := by decide +kernel
theorem dX5_hand_12 : decode cX5_hand 12 = .ok (.if_icmp .lt 13, 3) := by decide +kernel
theorem dX5_hand_15 : decode cX5_hand 15 = .ok (.new 41, 3) := by decide +kernel
theorem dX5_hand_18 : decode cX5_hand 18 = .ok (.dup, 1) := by decide +kernel
theorem dX5_hand_19 : decode cX5_hand 19 = .ok (.ldc 228, 2) := by decide +kernel
theorem dX5_hand_21 : decode cX5_hand 21 = .ok (.invokespecial 45, 3) := by decide +kernel
theorem dX5_hand_24 : decode cX5_hand 24 = .ok (.athrow, 1) := by decide +kernel
theorem dX5_hand_25 : decode cX5_hand 25 = .ok (.aload_n 0, 1) := by decide +kernel
theorem dX5_hand_26 : decode cX5_hand 26 = .ok (.aload_n 3, 1) := by decide +kernel
theorem dX5_hand_27 : decode cX5_hand 27 = .ok (.invokevirtual 122, 3) := by decide +kernel
theorem dX5_hand_30 : decode cX5_hand 30 = .ok (.aload_n 3, 1) := by decide +kernel
theorem dX5_hand_31 : decode cX5_hand 31 = .ok (.getfield 108, 3) := by decide +kernel
theorem dX5_hand_34 : decode cX5_hand 34 = .ok (.iconst (-1), 1) := by decide +kernel
theorem dX5_hand_35 : decode cX5_hand 35 = .ok (.if_icmp .eq 13, 3) := by decide +kernel
theorem dX5_hand_38 : decode cX5_hand 38 = .ok (.new 60, 3) := by decide +kernel
theorem dX5_hand_41 : decode cX5_hand 41 = .ok (.dup, 1) := by decide +kernel
theorem dX5_hand_42 : decode cX5_hand 42 = .ok (.ldc 230, 2) := by decide +kernel
theorem dX5_hand_44 : decode cX5_hand 44 = .ok (.invokespecial 64, 3) := by decide +kernel
theorem dX5_hand_47 : decode cX5_hand 47 = .ok (.athrow, 1) := by decide +kernel
theorem dX5_hand_48 : decode cX5_hand 48 = .ok (.aload_n 3, 1) := by decide +kernel
theorem dX5_hand_49 : decode cX5_hand 49 = .ok (.iload_n 2, 1) := by decide +kernel
theorem dX5_hand_50 : decode cX5_hand 50 = .ok (.putfield 108, 3) := by decide +kernel
theorem dX5_hand_53 : decode cX5_hand 53 = .ok (.aload_n 3, 1) := by decide +kernel
theorem dX5_hand_54 : decode cX5_hand 54 = .ok (.aload_n 3, 1) := by decide +kernel
theorem dX5_hand_55 : decode cX5_hand 55 = .ok (.getfield 105, 3) := by decide +kernel
theorem dX5_hand_58 : decode cX5_hand 58 = .ok (.putfield 232, 3) := by decide +kernel
theorem dX5_hand_61 : decode cX5_hand 61 = .ok (.aload_n 0, 1) := by decide +kernel
theorem dX5_hand_62 : decode cX5_hand 62 = .ok (.iload_n 2, 1) := by decide +kernel
theorem dX5_hand_63 : decode cX5_hand 63 = .ok (.invokevirtual 235, 3) := by decide +kernel
theorem dX5_hand_66 : decode cX5_hand 66 = .ok (.ireturn, 1) := by decide +kernel
theorem dX5_bring_0 : decode cX5_bring 0 = .ok (.aload_n 0, 1) := by decide +kernel
theorem dX5_bring_1 : decode cX5_bring 1 = .ok (.iload_n 1, 1) := by decide +kernel
theorem dX5_bring_2 : decode cX5_bring 2 = .ok (.invokevirtual 93, 3) := by decide +kernel
theorem dX5_bring_5 : decode cX5_bring 5 = .ok (.astore_n 3, 1) := by decide +kernel
theorem dX5_bring_6 : decode cX5_bring 6 = .ok (.iload_n 2, 1) := by decide +kernel
theorem dX5_bring_7 : decode cX5_bring 7 = .ok (.invokestatic 33, 3) := by decide +kernel
theorem dX5_bring_10 : decode cX5_bring 10 = .ok (.aload_n 3, 1) := by decide +kernel
theorem dX5_bring_11 : decode cX5_bring 11 = .ok (.getfield 108, 3) := by decide +kernel
theorem dX5_bring_14 : decode cX5_bring 14 = .ok (.iconst (-1), 1) := by decide +kernel
theorem dX5_bring_15 : decode cX5_bring 15 = .ok (.if_icmp .ne 13, 3) := by decide +kernel
theorem dX5_bring_18 : decode cX5_bring 18 = .ok (.new 60, 3) := by decide +kernel
theorem dX5_bring_21 : decode cX5_bring 21 = .ok (.dup, 1) := by decide +kernel
theorem dX5_bring_22 : decode cX5_bring 22 = .ok (.ldc 238, 2) := by decide +kernel
theorem dX5_bring_24 : decode cX5_bring 24 = .ok (.invokespecial 64, 3) := by decide +kernel
theorem dX5_bring_27 : decode cX5_bring 27 = .ok (.athrow, 1) := by decide +kernel
theorem dX5_bring_28 : decode cX5_bring 28 = .ok (.aload_n 3, 1) := by decide +kernel
theorem dX5_bring_29 : decode cX5_bring 29 = .ok (.iconst (-1), 1) := by decide +kernel
theorem dX5_bring_30 : decode cX5_bring 30 = .ok (.putfield 108, 3) := by decide +kernel
theorem dX5_bring_33 : decode cX5_bring 33 = .ok (.aload_n 3, 1) := by decide +kernel
theorem dX5_bring_34 : decode cX5_bring 34 = .ok (.getfield 105, 3) := by decide +kernel
theorem dX5_bring_37 : decode cX5_bring 37 = .ok (.aload_n 3, 1) := by decide +kernel
theorem dX5_bring_38 : decode cX5_bring 38 = .ok (.getfield 232, 3) := by decide +kernel
theorem dX5_bring_41 : decode cX5_bring 41 = .ok (.if_icmp .eq 15, 3) := by decide +kernel
theorem dX5_bring_44 : decode cX5_bring 44 = .ok (.aload_n 0, 1) := by decide +kernel
theorem dX5_bring_45 : decode cX5_bring 45 = .ok (.dup, 1) := by decide +kernel
theorem dX5_bring_46 : decode cX5_bring 46 = .ok (.getfield 240, 3) := by decide +kernel
theorem dX5_bring_49 : decode cX5_bring 49 = .ok (.iconst 1, 1) := by decide +kernel
theorem dX5_bring_50 : decode cX5_bring 50 = .ok (.iadd, 1) := by decide +kernel
theorem dX5_bring_51 : decode cX5_bring 51 = .ok (.putfield 240, 3) := by decide +kernel
theorem dX5_bring_54 : decode cX5_bring 54 = .ok (.iconst 0, 1) := by decide +kernel
theorem dX5_bring_55 : decode cX5_bring 55 = .ok (.ireturn, 1) := by decide +kernel
theorem dX5_bring_56 : decode cX5_bring 56 = .ok (.aload_n 3, 1) := by decide +kernel
theorem dX5_bring_57 : decode cX5_bring 57 = .ok (.iload_n 2, 1) := by decide +kernel
theorem dX5_bring_58 : decode cX5_bring 58 = .ok (.invokevirtual 129, 3) := by decide +kernel
theorem dX5_bring_61 : decode cX5_bring 61 = .ok (.pop, 1) := by decide +kernel
theorem dX5_bring_62 : decode cX5_bring 62 = .ok (.iconst 1, 1) := by decide +kernel
theorem dX5_bring_63 : decode cX5_bring 63 = .ok (.ireturn, 1) := by decide +kernel
theorem dX5_with_0 : decode cX5_with 0 = .ok (.aload_n 0, 1) := by decide +kernel
theorem dX5_with_1 : decode cX5_with 1 = .ok (.iload_n 1, 1) := by decide +kernel
theorem dX5_with_2 : decode cX5_with 2 = .ok (.invokevirtual 93, 3) := by decide +kernel
theorem dX5_with_5 : decode cX5_with 5 = .ok (.astore_n 2, 1) := by decide +kernel
theorem dX5_with_6 : decode cX5_with 6 = .ok (.aload_n 2, 1) := by decide +kernel
theorem dX5_with_7 : decode cX5_with 7 = .ok (.getfield 108, 3) := by decide +kernel
theorem dX5_with_10 : decode cX5_with 10 = .ok (.iconst (-1), 1) := by decide +kernel
theorem dX5_with_11 : decode cX5_with 11 = .ok (.if_icmp .ne 13, 3) := by decide +kernel
theorem dX5_with_14 : decode cX5_with 14 = .ok (.new 111, 3) := by decide +kernel
theorem dX5_with_17 : decode cX5_with 17 = .ok (.dup, 1) := by decide +kernel
theorem dX5_with_18 : decode cX5_with 18 = .ok (.ldc 238, 2) := by decide +kernel
theorem dX5_with_20 : decode cX5_with 20 = .ok (.invokespecial 115, 3) := by decide +kernel
theorem dX5_with_23 : decode cX5_with 23 = .ok (.athrow, 1) := by decide +kernel
theorem dX5_with_24 : decode cX5_with 24 = .ok (.aload_n 2, 1) := by decide +kernel
theorem dX5_with_25 : decode cX5_with 25 = .ok (.getfield 108, 3) := by decide +kernel
theorem dX5_with_28 : decode cX5_with 28 = .ok (.ireturn, 1) := by decide +kernel
theorem dX5_conflicts_0 : decode cX5_conflicts 0 = .ok (.aload_n 0, 1) := by decide +kernel
theorem dX5_conflicts_1 : decode cX5_conflicts 1 = .ok (.getfield 240, 3) := by decide +kernel
theorem dX5_conflicts_4 : decode cX5_conflicts 4 = .ok (.ireturn, 1) := by decide +kernel
theorem dX5_note_0 : decode cX5_note 0 = .ok (.aload_n 0, 1) := by decide +kernel
theorem dX5_note_1 : decode cX5_note 1 = .ok (.iload_n 1, 1) := by decide +kernel
theorem dX5_note_2 : decode cX5_note 2 = .ok (.invokevirtual 93, 3) := by decide +kernel
theorem dX5_note_5 : decode cX5_note 5 = .ok (.astore_n 2, 1) := by decide +kernel
theorem dX5_note_6 : decode cX5_note 6 = .ok (.aload_n 0, 1) := by decide +kernel
theorem dX5_note_7 : decode cX5_note 7 = .ok (.aload_n 2, 1) := by decide +kernel
theorem dX5_note_8 : decode cX5_note 8 = .ok (.invokevirtual 122, 3) := by decide +kernel
theorem dX5_note_11 : decode cX5_note 11 = .ok (.aload_n 0, 1) := by decide +kernel
theorem dX5_note_12 : decode cX5_note 12 = .ok (.getfield 19, 3) := by decide +kernel
theorem dX5_note_15 : decode cX5_note 15 = .ok (.invokevirtual 37, 3) := by decide +kernel
theorem dX5_note_18 : decode cX5_note 18 = .ok (.bipush 40, 2) := by decide +kernel
theorem dX5_note_20 : decode cX5_note 20 = .ok (.if_icmp .lt 13, 3) := by decide +kernel
theorem dX5_note_23 : decode cX5_note 23 = .ok (.new 65, 3) := by decide +kernel
theorem dX5_note_26 : decode cX5_note 26 = .ok (.dup, 1) := by decide +kernel
theorem dX5_note_27 : decode cX5_note 27 = .ok (.ldc 243, 2) := by decide +kernel
theorem dX5_note_29 : decode cX5_note 29 = .ok (.invokespecial 69, 3) := by decide +kernel
theorem dX5_note_32 : decode cX5_note 32 = .ok (.athrow, 1) := by decide +kernel
theorem dX5_note_33 : decode cX5_note 33 = .ok (.aload_n 0, 1) := by decide +kernel
theorem dX5_note_34 : decode cX5_note 34 = .ok (.getfield 19, 3) := by decide +kernel
theorem dX5_note_37 : decode cX5_note 37 = .ok (.new 245, 3) := by decide +kernel
theorem dX5_note_40 : decode cX5_note 40 = .ok (.dup, 1) := by decide +kernel
theorem dX5_note_41 : decode cX5_note 41 = .ok (.aload_n 2, 1) := by decide +kernel
theorem dX5_note_42 : decode cX5_note 42 = .ok (.invokespecial 247, 3) := by decide +kernel
theorem dX5_note_45 : decode cX5_note 45 = .ok (.invokevirtual 83, 3) := by decide +kernel
theorem dX5_note_48 : decode cX5_note 48 = .ok (.pop, 1) := by decide +kernel
theorem dX5_note_49 : decode cX5_note 49 = .ok (.aload_n 0, 1) := by decide +kernel
theorem dX5_note_50 : decode cX5_note 50 = .ok (.getfield 19, 3) := by decide +kernel
theorem dX5_note_53 : decode cX5_note 53 = .ok (.invokevirtual 37, 3) := by decide +kernel
theorem dX5_note_56 : decode cX5_note 56 = .ok (.iconst 1, 1) := by decide +kernel
theorem dX5_note_57 : decode cX5_note 57 = .ok (.isub, 1) := by decide +kernel
theorem dX5_note_58 : decode cX5_note 58 = .ok (.ireturn, 1) := by decide +kernel
theorem dX5_noteIs_0 : decode cX5_noteIs 0 = .ok (.aload_n 0, 1) := by decide +kernel
theorem dX5_noteIs_1 : decode cX5_noteIs 1 = .ok (.iload_n 1, 1) := by decide +kernel
theorem dX5_noteIs_2 : decode cX5_noteIs 2 = .ok (.invokevirtual 249, 3) := by decide +kernel
theorem dX5_noteIs_5 : decode cX5_noteIs 5 = .ok (.invokevirtual 253, 3) := by decide +kernel
theorem dX5_noteIs_8 : decode cX5_noteIs 8 = .ok (.ireturn, 1) := by decide +kernel
theorem dX5_close_0 : decode cX5_close 0 = .ok (.aload_n 0, 1) := by decide +kernel
theorem dX5_close_1 : decode cX5_close 1 = .ok (.iload_n 1, 1) := by decide +kernel
theorem dX5_close_2 : decode cX5_close 2 = .ok (.invokevirtual 249, 3) := by decide +kernel
theorem dX5_close_5 : decode cX5_close 5 = .ok (.astore_n 3, 1) := by decide +kernel
theorem dX5_close_6 : decode cX5_close 6 = .ok (.aload_n 3, 1) := by decide +kernel
theorem dX5_close_7 : decode cX5_close 7 = .ok (.invokevirtual 253, 3) := by decide +kernel
theorem dX5_close_10 : decode cX5_close 10 = .ok (.bipush 111, 2) := by decide +kernel
theorem dX5_close_12 : decode cX5_close 12 = .ok (.if_icmp .eq 14, 3) := by decide +kernel
theorem dX5_close_15 : decode cX5_close 15 = .ok (.new 60, 3) := by decide +kernel
theorem dX5_close_18 : decode cX5_close 18 = .ok (.dup, 1) := by decide +kernel
theorem dX5_close_19 : decode cX5_close 19 = .ok (.ldc_w 257, 3) := by decide +kernel
theorem dX5_close_22 : decode cX5_close 22 = .ok (.invokespecial 64, 3) := by decide +kernel
theorem dX5_close_25 : decode cX5_close 25 = .ok (.athrow, 1) := by decide +kernel
theorem dX5_close_26 : decode cX5_close 26 = .ok (.aload_n 3, 1) := by decide +kernel
theorem dX5_close_27 : decode cX5_close 27 = .ok (.iload_n 2, 1) := by decide +kernel
theorem dX5_close_28 : decode cX5_close 28 = .ok (.ifCond .eq 8, 3) := by decide +kernel
theorem dX5_close_31 : decode cX5_close 31 = .ok (.bipush 100, 2) := by decide +kernel
theorem dX5_close_33 : decode cX5_close 33 = .ok (.goto 5, 3) := by decide +kernel
theorem dX5_close_36 : decode cX5_close 36 = .ok (.bipush 114, 2) := by decide +kernel
theorem dX5_close_38 : decode cX5_close 38 = .ok (.putfield 259, 3) := by decide +kernel
theorem dX5_close_41 : decode cX5_close 41 = .ok (.iconst 1, 1) := by decide +kernel
theorem dX5_close_42 : decode cX5_close 42 = .ok (.ireturn, 1) := by decide +kernel
theorem dX5_renew_0 : decode cX5_renew 0 = .ok (.aload_n 0, 1) := by decide +kernel
theorem dX5_renew_1 : decode cX5_renew 1 = .ok (.iload_n 1, 1) := by decide +kernel
theorem dX5_renew_2 : decode cX5_renew 2 = .ok (.invokevirtual 249, 3) := by decide +kernel
theorem dX5_renew_5 : decode cX5_renew 5 = .ok (.astore_n 2, 1) := by decide +kernel
theorem dX5_renew_6 : decode cX5_renew 6 = .ok (.aload_n 2, 1) := by decide +kernel
theorem dX5_renew_7 : decode cX5_renew 7 = .ok (.invokevirtual 253, 3) := by decide +kernel
theorem dX5_renew_10 : decode cX5_renew 10 = .ok (.bipush 115, 2) := by decide +kernel
theorem dX5_renew_12 : decode cX5_renew 12 = .ok (.if_icmp .eq 14, 3) := by decide +kernel
theorem dX5_renew_15 : decode cX5_renew 15 = .ok (.new 60, 3) := by decide +kernel
theorem dX5_renew_18 : decode cX5_renew 18 = .ok (.dup, 1) := by decide +kernel
theorem dX5_renew_19 : decode cX5_renew 19 = .ok (.ldc_w 262, 3) := by decide +kernel
theorem dX5_renew_22 : decode cX5_renew 22 = .ok (.invokespecial 64, 3) := by decide +kernel
theorem dX5_renew_25 : decode cX5_renew 25 = .ok (.athrow, 1) := by decide +kernel
theorem dX5_renew_26 : decode cX5_renew 26 = .ok (.aload_n 0, 1) := by decide +kernel
theorem dX5_renew_27 : decode cX5_renew 27 = .ok (.aload_n 2, 1) := by decide +kernel
theorem dX5_renew_28 : decode cX5_renew 28 = .ok (.getfield 264, 3) := by decide +kernel
theorem dX5_renew_31 : decode cX5_renew 31 = .ok (.invokevirtual 122, 3) := by decide +kernel
theorem dX5_renew_34 : decode cX5_renew 34 = .ok (.aload_n 2, 1) := by decide +kernel
theorem dX5_renew_35 : decode cX5_renew 35 = .ok (.aload_n 2, 1) := by decide +kernel
theorem dX5_renew_36 : decode cX5_renew 36 = .ok (.getfield 264, 3) := by decide +kernel
theorem dX5_renew_39 : decode cX5_renew 39 = .ok (.getfield 105, 3) := by decide +kernel
theorem dX5_renew_42 : decode cX5_renew 42 = .ok (.putfield 268, 3) := by decide +kernel
theorem dX5_renew_45 : decode cX5_renew 45 = .ok (.aload_n 2, 1) := by decide +kernel
theorem dX5_renew_46 : decode cX5_renew 46 = .ok (.getfield 268, 3) := by decide +kernel
theorem dX5_renew_49 : decode cX5_renew 49 = .ok (.ireturn, 1) := by decide +kernel
theorem dX5_notes_0 : decode cX5_notes 0 = .ok (.iload_n 1, 1) := by decide +kernel
theorem dX5_notes_1 : decode cX5_notes 1 = .ok (.bipush 111, 2) := by decide +kernel
theorem dX5_notes_3 : decode cX5_notes 3 = .ok (.if_icmp .eq 31, 3) := by decide +kernel
theorem dX5_notes_6 : decode cX5_notes 6 = .ok (.iload_n 1, 1) := by decide +kernel
theorem dX5_notes_7 : decode cX5_notes 7 = .ok (.bipush 100, 2) := by decide +kernel
theorem dX5_notes_9 : decode cX5_notes 9 = .ok (.if_icmp .eq 25, 3) := by decide +kernel
theorem dX5_notes_12 : decode cX5_notes 12 = .ok (.iload_n 1, 1) := by decide +kernel
theorem dX5_notes_13 : decode cX5_notes 13 = .ok (.bipush 114, 2) := by decide +kernel
theorem dX5_notes_15 : decode cX5_notes 15 = .ok (.if_icmp .eq 19, 3) := by decide +kernel
theorem dX5_notes_18 : decode cX5_notes 18 = .ok (.iload_n 1, 1) := by decide +kernel
theorem dX5_notes_19 : decode cX5_notes 19 = .ok (.bipush 115, 2) := by decide +kernel
theorem dX5_notes_21 : decode cX5_notes 21 = .ok (.if_icmp .eq 13, 3) := by decide +kernel
theorem dX5_notes_24 : decode cX5_notes 24 = .ok (.new 41, 3) := by decide +kernel
theorem dX5_notes_27 : decode cX5_notes 27 = .ok (.dup, 1) := by decide +kernel
theorem dX5_notes_28 : decode cX5_notes 28 = .ok (.ldc 205, 2) := by decide +kernel
theorem dX5_notes_30 : decode cX5_notes 30 = .ok (.invokespecial 45, 3) := by decide +kernel
theorem dX5_notes_33 : decode cX5_notes 33 = .ok (.athrow, 1) := by decide +kernel
theorem dX5_notes_34 : decode cX5_notes 34 = .ok (.aload_n 0, 1) := by decide +kernel
theorem dX5_notes_35 : decode cX5_notes 35 = .ok (.iload_n 1, 1) := by decide +kernel
theorem dX5_notes_36 : decode cX5_notes 36 = .ok (.invokevirtual 269, 3) := by decide +kernel
theorem dX5_notes_39 : decode cX5_notes 39 = .ok (.ireturn, 1) := by decide +kernel
theorem dX5_dear_0 : decode cX5_dear 0 = .ok (.aload_n 0, 1) := by decide +kernel
theorem dX5_dear_1 : decode cX5_dear 1 = .ok (.iload_n 1, 1) := by decide +kernel
theorem dX5_dear_2 : decode cX5_dear 2 = .ok (.invokevirtual 93, 3) := by decide +kernel
theorem dX5_dear_5 : decode cX5_dear 5 = .ok (.astore_n 3, 1) := by decide +kernel
theorem dX5_dear_6 : decode cX5_dear 6 = .ok (.aload_n 3, 1) := by decide +kernel
theorem dX5_dear_7 : decode cX5_dear 7 = .ok (.getfield 273, 3) := by decide +kernel
theorem dX5_dear_10 : decode cX5_dear 10 = .ok (.istore 4, 2) := by decide +kernel
theorem dX5_dear_12 : decode cX5_dear 12 = .ok (.aload_n 3, 1) := by decide +kernel
theorem dX5_dear_13 : decode cX5_dear 13 = .ok (.iload_n 2, 1) := by decide +kernel
theorem dX5_dear_14 : decode cX5_dear 14 = .ok (.putfield 273, 3) := by decide +kernel
theorem dX5_dear_17 : decode cX5_dear 17 = .ok (.iload 4, 2) := by decide +kernel
theorem dX5_dear_19 : decode cX5_dear 19 = .ok (.ireturn, 1) := by decide +kernel
theorem dX5_setups_0 : decode cX5_setups 0 = .ok (.aload_n 0, 1) := by decide +kernel
theorem dX5_setups_1 : decode cX5_setups 1 = .ok (.iconst 0, 1) := by decide +kernel
theorem dX5_setups_2 : decode cX5_setups 2 = .ok (.invokevirtual 276, 3) := by decide +kernel
theorem dX5_setups_5 : decode cX5_setups 5 = .ok (.ireturn, 1) := by decide +kernel
theorem dX5_first_0 : decode cX5_first 0 = .ok (.aload_n 0, 1) := by decide +kernel
theorem dX5_first_1 : decode cX5_first 1 = .ok (.iconst 1, 1) := by decide +kernel
theorem dX5_first_2 : decode cX5_first 2 = .ok (.invokevirtual 276, 3) := by decide +kernel
theorem dX5_first_5 : decode cX5_first 5 = .ok (.ireturn, 1) := by decide +kernel
theorem dX5_days_0 : decode cX5_days 0 = .ok (.aload_n 0, 1) := by decide +kernel
theorem dX5_days_1 : decode cX5_days 1 = .ok (.iconst 0, 1) := by decide +kernel
theorem dX5_days_2 : decode cX5_days 2 = .ok (.invokevirtual 276, 3) := by decide +kernel
theorem dX5_days_5 : decode cX5_days 5 = .ok (.iconst 4, 1) := by decide +kernel
theorem dX5_days_6 : decode cX5_days 6 = .ok (.iadd, 1) := by decide +kernel
theorem dX5_days_7 : decode cX5_days 7 = .ok (.iconst 1, 1) := by decide +kernel
theorem dX5_days_8 : decode cX5_days 8 = .ok (.isub, 1) := by decide +kernel
theorem dX5_days_9 : decode cX5_days 9 = .ok (.iconst 4, 1) := by decide +kernel
theorem dX5_days_10 : decode cX5_days 10 = .ok (.idiv, 1) := by decide +kernel
theorem dX5_days_11 : decode cX5_days 11 = .ok (.istore_n 1, 1) := by decide +kernel
theorem dX5_days_12 : decode cX5_days 12 = .ok (.aload_n 0, 1) := by decide +kernel
theorem dX5_days_13 : decode cX5_days 13 = .ok (.getfield 16, 3) := by decide +kernel
theorem dX5_days_16 : decode cX5_days 16 = .ok (.invokevirtual 37, 3) := by decide +kernel
theorem dX5_days_19 : decode cX5_days 19 = .ok (.bipush 20, 2) := by decide +kernel
theorem dX5_days_21 : decode cX5_days 21 = .ok (.iadd, 1) := by decide +kernel
theorem dX5_days_22 : decode cX5_days 22 = .ok (.iconst 1, 1) := by decide +kernel
theorem dX5_days_23 : decode cX5_days 23 = .ok (.isub, 1) := by decide +kernel
theorem dX5_days_24 : decode cX5_days 24 = .ok (.bipush 20, 2) := by decide +kernel
theorem dX5_days_26 : decode cX5_days 26 = .ok (.idiv, 1) := by decide +kernel
theorem dX5_days_27 : decode cX5_days 27 = .ok (.istore_n 2, 1) := by decide +kernel
theorem dX5_days_28 : decode cX5_days 28 = .ok (.iload_n 1, 1) := by decide +kernel
theorem dX5_days_29 : decode cX5_days 29 = .ok (.iload_n 2, 1) := by decide +kernel
theorem dX5_days_30 : decode cX5_days 30 = .ok (.invokestatic 280, 3) := by decide +kernel
theorem dX5_days_33 : decode cX5_days 33 = .ok (.ireturn, 1) := by decide +kernel
theorem dX5_orders_0 : decode cX5_orders 0 = .ok (.aload_n 0, 1) := by decide +kernel
theorem dX5_orders_1 : decode cX5_orders 1 = .ok (.invokevirtual 286, 3) := by decide +kernel
theorem dX5_orders_4 : decode cX5_orders 4 = .ok (.aload_n 0, 1) := by decide +kernel
theorem dX5_orders_5 : decode cX5_orders 5 = .ok (.getfield 25, 3) := by decide +kernel
theorem dX5_orders_8 : decode cX5_orders 8 = .ok (.aload_n 0, 1) := by decide +kernel
theorem dX5_orders_9 : decode cX5_orders 9 = .ok (.getfield 16, 3) := by decide +kernel
theorem dX5_orders_12 : decode cX5_orders 12 = .ok (.invokevirtual 289, 3) := by decide +kernel
theorem dX5_orders_15 : decode cX5_orders 15 = .ok (.aload_n 0, 1) := by decide +kernel
theorem dX5_orders_16 : decode cX5_orders 16 = .ok (.getfield 25, 3) := by decide +kernel
theorem dX5_orders_19 : decode cX5_orders 19 = .ok (.invokevirtual 293, 3) := by decide +kernel
theorem dX5_orders_22 : decode cX5_orders 22 = .ok (.ireturn, 1) := by decide +kernel
theorem dX5_best_0 : decode cX5_best 0 = .ok (.aload_n 0, 1) := by decide +kernel
theorem dX5_best_1 : decode cX5_best 1 = .ok (.invokevirtual 286, 3) := by decide +kernel
theorem dX5_best_4 : decode cX5_best 4 = .ok (.aload_n 0, 1) := by decide +kernel
theorem dX5_best_5 : decode cX5_best 5 = .ok (.getfield 25, 3) := by decide +kernel
theorem dX5_best_8 : decode cX5_best 8 = .ok (.aload_n 0, 1) := by decide +kernel
theorem dX5_best_9 : decode cX5_best 9 = .ok (.getfield 16, 3) := by decide +kernel
theorem dX5_best_12 : decode cX5_best 12 = .ok (.invokevirtual 289, 3) := by decide +kernel
theorem dX5_best_15 : decode cX5_best 15 = .ok (.aload_n 0, 1) := by decide +kernel
theorem dX5_best_16 : decode cX5_best 16 = .ok (.getfield 25, 3) := by decide +kernel
theorem dX5_best_19 : decode cX5_best 19 = .ok (.invokevirtual 296, 3) := by decide +kernel
theorem dX5_best_22 : decode cX5_best 22 = .ok (.ireturn, 1) := by decide +kernel
theorem dX5_checksum_0 : decode cX5_checksum 0 = .ok (.ldc2_w 299, 3) := by decide +kernel
theorem dX5_checksum_3 : decode cX5_checksum 3 = .ok (.lstore_n 1, 1) := by decide +kernel
theorem dX5_checksum_4 : decode cX5_checksum 4 = .ok (.iconst 0, 1) := by decide +kernel
theorem dX5_checksum_5 : decode cX5_checksum 5 = .ok (.istore_n 3, 1) := by decide +kernel
theorem dX5_checksum_6 : decode cX5_checksum 6 = .ok (.iload_n 3, 1) := by decide +kernel
theorem dX5_checksum_7 : decode cX5_checksum 7 = .ok (.aload_n 0, 1) := by decide +kernel
theorem dX5_checksum_8 : decode cX5_checksum 8 = .ok (.getfield 16, 3) := by decide +kernel
theorem dX5_checksum_11 : decode cX5_checksum 11 = .ok (.invokevirtual 37, 3) := by decide +kernel
theorem dX5_checksum_14 : decode cX5_checksum 14 = .ok (.if_icmp .ge 61, 3) := by decide +kernel
theorem dX5_checksum_17 : decode cX5_checksum 17 = .ok (.aload_n 0, 1) := by decide +kernel
theorem dX5_checksum_18 : decode cX5_checksum 18 = .ok (.getfield 16, 3) := by decide +kernel
theorem dX5_checksum_21 : decode cX5_checksum 21 = .ok (.iload_n 3, 1) := by decide +kernel
theorem dX5_checksum_22 : decode cX5_checksum 22 = .ok (.invokevirtual 116, 3) := by decide +kernel
theorem dX5_checksum_25 : decode cX5_checksum 25 = .ok (.checkcast 70, 3) := by decide +kernel
theorem dX5_checksum_28 : decode cX5_checksum 28 = .ok (.astore 4, 2) := by decide +kernel
theorem dX5_checksum_30 : decode cX5_checksum 30 = .ok (.ldc2_w 301, 3) := by decide +kernel
theorem dX5_checksum_33 : decode cX5_checksum 33 = .ok (.lload_n 1, 1) := by decide +kernel
theorem dX5_checksum_34 : decode cX5_checksum 34 = .ok (.lmul, 1) := by decide +kernel
theorem dX5_checksum_35 : decode cX5_checksum 35 = .ok (.aload 4, 2) := by decide +kernel
theorem dX5_checksum_37 : decode cX5_checksum 37 = .ok (.getfield 90, 3) := by decide +kernel
theorem dX5_checksum_40 : decode cX5_checksum 40 = .ok (.i2l, 1) := by decide +kernel
theorem dX5_checksum_41 : decode cX5_checksum 41 = .ok (.ladd, 1) := by decide +kernel
theorem dX5_checksum_42 : decode cX5_checksum 42 = .ok (.lstore_n 1, 1) := by decide +kernel
theorem dX5_checksum_43 : decode cX5_checksum 43 = .ok (.ldc2_w 301, 3) := by decide +kernel
theorem dX5_checksum_46 : decode cX5_checksum 46 = .ok (.lload_n 1, 1) := by decide +kernel
theorem dX5_checksum_47 : decode cX5_checksum 47 = .ok (.lmul, 1) := by decide +kernel
theorem dX5_checksum_48 : decode cX5_checksum 48 = .ok (.aload 4, 2) := by decide +kernel
theorem dX5_checksum_50 : decode cX5_checksum 50 = .ok (.getfield 187, 3) := by decide +kernel
theorem dX5_checksum_53 : decode cX5_checksum 53 = .ok (.i2l, 1) := by decide +kernel
theorem dX5_checksum_54 : decode cX5_checksum 54 = .ok (.ladd, 1) := by decide +kernel
theorem dX5_checksum_55 : decode cX5_checksum 55 = .ok (.lstore_n 1, 1) := by decide +kernel
theorem dX5_checksum_56 : decode cX5_checksum 56 = .ok (.ldc2_w 301, 3) := by decide +kernel
theorem dX5_checksum_59 : decode cX5_checksum 59 = .ok (.lload_n 1, 1) := by decide +kernel
theorem dX5_checksum_60 : decode cX5_checksum 60 = .ok (.lmul, 1) := by decide +kernel
theorem dX5_checksum_61 : decode cX5_checksum 61 = .ok (.aload 4, 2) := by decide +kernel
theorem dX5_checksum_63 : decode cX5_checksum 63 = .ok (.getfield 105, 3) := by decide +kernel
theorem dX5_checksum_66 : decode cX5_checksum 66 = .ok (.i2l, 1) := by decide +kernel
theorem dX5_checksum_67 : decode cX5_checksum 67 = .ok (.ladd, 1) := by decide +kernel
theorem dX5_checksum_68 : decode cX5_checksum 68 = .ok (.lstore_n 1, 1) := by decide +kernel
theorem dX5_checksum_69 : decode cX5_checksum 69 = .ok (.iinc 3 1, 3) := by decide +kernel
theorem dX5_checksum_72 : decode cX5_checksum 72 = .ok (.goto (-66), 3) := by decide +kernel
theorem dX5_checksum_75 : decode cX5_checksum 75 = .ok (.iconst 0, 1) := by decide +kernel
theorem dX5_checksum_76 : decode cX5_checksum 76 = .ok (.istore_n 3, 1) := by decide +kernel
theorem dX5_checksum_77 : decode cX5_checksum 77 = .ok (.iload_n 3, 1) := by decide +kernel
theorem dX5_checksum_78 : decode cX5_checksum 78 = .ok (.aload_n 0, 1) := by decide +kernel
theorem dX5_checksum_79 : decode cX5_checksum 79 = .ok (.getfield 19, 3) := by decide +kernel
theorem dX5_checksum_82 : decode cX5_checksum 82 = .ok (.invokevirtual 37, 3) := by decide +kernel
theorem dX5_checksum_85 : decode cX5_checksum 85 = .ok (.if_icmp .ge 31, 3) := by decide +kernel
theorem dX5_checksum_88 : decode cX5_checksum 88 = .ok (.ldc2_w 301, 3) := by decide +kernel
theorem dX5_checksum_91 : decode cX5_checksum 91 = .ok (.lload_n 1, 1) := by decide +kernel
theorem dX5_checksum_92 : decode cX5_checksum 92 = .ok (.lmul, 1) := by decide +kernel
theorem dX5_checksum_93 : decode cX5_checksum 93 = .ok (.aload_n 0, 1) := by decide +kernel
theorem dX5_checksum_94 : decode cX5_checksum 94 = .ok (.getfield 19, 3) := by decide +kernel
theorem dX5_checksum_97 : decode cX5_checksum 97 = .ok (.iload_n 3, 1) := by decide +kernel
theorem dX5_checksum_98 : decode cX5_checksum 98 = .ok (.invokevirtual 116, 3) := by decide +kernel
theorem dX5_checksum_101 : decode cX5_checksum 101 = .ok (.checkcast 245, 3) := by decide +kernel
theorem dX5_checksum_104 : decode cX5_checksum 104 = .ok (.invokevirtual 253, 3) := by decide +kernel
theorem dX5_checksum_107 : decode cX5_checksum 107 = .ok (.i2l, 1) := by decide +kernel
theorem dX5_checksum_108 : decode cX5_checksum 108 = .ok (.ladd, 1) := by decide +kernel
theorem dX5_checksum_109 : decode cX5_checksum 109 = .ok (.lstore_n 1, 1) := by decide +kernel
theorem dX5_checksum_110 : decode cX5_checksum 110 = .ok (.iinc 3 1, 3) := by decide +kernel
theorem dX5_checksum_113 : decode cX5_checksum 113 = .ok (.goto (-36), 3) := by decide +kernel
theorem dX5_checksum_116 : decode cX5_checksum 116 = .ok (.lload_n 1, 1) := by decide +kernel
theorem dX5_checksum_117 : decode cX5_checksum 117 = .ok (.lreturn, 1) := by decide +kernel
theorem dX5_brokenShare_0 : decode cX5_brokenShare 0 = .ok (.aload_n 0, 1) := by decide +kernel
theorem dX5_brokenShare_1 : decode cX5_brokenShare 1 = .ok (.getfield 16, 3) := by decide +kernel
theorem dX5_brokenShare_4 : decode cX5_brokenShare 4 = .ok (.invokevirtual 37, 3) := by decide +kernel
theorem dX5_brokenShare_7 : decode cX5_brokenShare 7 = .ok (.iconst 1, 1) := by decide +kernel
theorem dX5_brokenShare_8 : decode cX5_brokenShare 8 = .ok (.isub, 1) := by decide +kernel
theorem dX5_brokenShare_9 : decode cX5_brokenShare 9 = .ok (.istore_n 1, 1) := by decide +kernel
theorem dX5_brokenShare_10 : decode cX5_brokenShare 10 = .ok (.iload_n 1, 1) := by decide +kernel
theorem dX5_brokenShare_11 : decode cX5_brokenShare 11 = .ok (.iconst 1, 1) := by decide +kernel
theorem dX5_brokenShare_12 : decode cX5_brokenShare 12 = .ok (.if_icmp .ge 14, 3) := by decide +kernel
theorem dX5_brokenShare_15 : decode cX5_brokenShare 15 = .ok (.new 111, 3) := by decide +kernel
theorem dX5_brokenShare_18 : decode cX5_brokenShare 18 = .ok (.dup, 1) := by decide +kernel
theorem dX5_brokenShare_19 : decode cX5_brokenShare 19 = .ok (.ldc_w 303, 3) := by decide +kernel
theorem dX5_brokenShare_22 : decode cX5_brokenShare 22 = .ok (.invokespecial 115, 3) := by decide +kernel
theorem dX5_brokenShare_25 : decode cX5_brokenShare 25 = .ok (.athrow, 1) := by decide +kernel
theorem dX5_brokenShare_26 : decode cX5_brokenShare 26 = .ok (.aload_n 0, 1) := by decide +kernel
theorem dX5_brokenShare_27 : decode cX5_brokenShare 27 = .ok (.invokevirtual 225, 3) := by decide +kernel
theorem dX5_brokenShare_30 : decode cX5_brokenShare 30 = .ok (.i2f, 1) := by decide +kernel
theorem dX5_brokenShare_31 : decode cX5_brokenShare 31 = .ok (.iload_n 1, 1) := by decide +kernel
theorem dX5_brokenShare_32 : decode cX5_brokenShare 32 = .ok (.i2f, 1) := by decide +kernel
theorem dX5_brokenShare_33 : decode cX5_brokenShare 33 = .ok (.fdiv, 1) := by decide +kernel
theorem dX5_brokenShare_34 : decode cX5_brokenShare 34 = .ok (.freturn, 1) := by decide +kernel
theorem dX5_meanLength_0 : decode cX5_meanLength 0 = .ok (.aload_n 0, 1) := by decide +kernel
theorem dX5_meanLength_1 : decode cX5_meanLength 1 = .ok (.getfield 16, 3) := by decide +kernel
theorem dX5_meanLength_4 : decode cX5_meanLength 4 = .ok (.invokevirtual 37, 3) := by decide +kernel
theorem dX5_meanLength_7 : decode cX5_meanLength 7 = .ok (.istore_n 1, 1) := by decide +kernel
theorem dX5_meanLength_8 : decode cX5_meanLength 8 = .ok (.iload_n 1, 1) := by decide +kernel
theorem dX5_meanLength_9 : decode cX5_meanLength 9 = .ok (.iconst 1, 1) := by decide +kernel
theorem dX5_meanLength_10 : decode cX5_meanLength 10 = .ok (.if_icmp .ge 14, 3) := by decide +kernel
theorem dX5_meanLength_13 : decode cX5_meanLength 13 = .ok (.new 111, 3) := by decide +kernel
theorem dX5_meanLength_16 : decode cX5_meanLength 16 = .ok (.dup, 1) := by decide +kernel
theorem dX5_meanLength_17 : decode cX5_meanLength 17 = .ok (.ldc_w 305, 3) := by decide +kernel
theorem dX5_meanLength_20 : decode cX5_meanLength 20 = .ok (.invokespecial 115, 3) := by decide +kernel
theorem dX5_meanLength_23 : decode cX5_meanLength 23 = .ok (.athrow, 1) := by decide +kernel
theorem dX5_meanLength_24 : decode cX5_meanLength 24 = .ok (.aload_n 0, 1) := by decide +kernel
theorem dX5_meanLength_25 : decode cX5_meanLength 25 = .ok (.iload_n 1, 1) := by decide +kernel
theorem dX5_meanLength_26 : decode cX5_meanLength 26 = .ok (.invokevirtual 177, 3) := by decide +kernel
theorem dX5_meanLength_29 : decode cX5_meanLength 29 = .ok (.i2d, 1) := by decide +kernel
theorem dX5_meanLength_30 : decode cX5_meanLength 30 = .ok (.iload_n 1, 1) := by decide +kernel
theorem dX5_meanLength_31 : decode cX5_meanLength 31 = .ok (.i2d, 1) := by decide +kernel
theorem dX5_meanLength_32 : decode cX5_meanLength 32 = .ok (.ddiv, 1) := by decide +kernel
theorem dX5_meanLength_33 : decode cX5_meanLength 33 = .ok (.dreturn, 1) := by decide +kernel
theorem dX5_isSound_0 : decode cX5_isSound 0 = .ok (.aload_n 0, 1) := by decide +kernel
theorem dX5_isSound_1 : decode cX5_isSound 1 = .ok (.invokevirtual 307, 3) := by decide +kernel
theorem dX5_isSound_4 : decode cX5_isSound 4 = .ok (.ifCond .eq 28, 3) := by decide +kernel
theorem dX5_isSound_7 : decode cX5_isSound 7 = .ok (.aload_n 0, 1) := by decide +kernel
theorem dX5_isSound_8 : decode cX5_isSound 8 = .ok (.invokevirtual 311, 3) := by decide +kernel
theorem dX5_isSound_11 : decode cX5_isSound 11 = .ok (.ifCond .eq 21, 3) := by decide +kernel
theorem dX5_isSound_14 : decode cX5_isSound 14 = .ok (.aload_n 0, 1) := by decide +kernel
theorem dX5_isSound_15 : decode cX5_isSound 15 = .ok (.invokevirtual 314, 3) := by decide +kernel
theorem dX5_isSound_18 : decode cX5_isSound 18 = .ok (.ifCond .eq 14, 3) := by decide +kernel
theorem dX5_isSound_21 : decode cX5_isSound 21 = .ok (.aload_n 0, 1) := by decide +kernel
theorem dX5_isSound_22 : decode cX5_isSound 22 = .ok (.invokevirtual 317, 3) := by decide +kernel
theorem dX5_isSound_25 : decode cX5_isSound 25 = .ok (.ifCond .eq 7, 3) := by decide +kernel
theorem dX5_isSound_28 : decode cX5_isSound 28 = .ok (.iconst 1, 1) := by decide +kernel
theorem dX5_isSound_29 : decode cX5_isSound 29 = .ok (.goto 4, 3) := by decide +kernel
theorem dX5_isSound_32 : decode cX5_isSound 32 = .ok (.iconst 0, 1) := by decide +kernel
theorem dX5_isSound_33 : decode cX5_isSound 33 = .ok (.ireturn, 1) := by decide +kernel
theorem dX5_madeShot_0 : decode cX5_madeShot 0 = .ok (.iload_n 1, 1) := by decide +kernel
theorem dX5_madeShot_1 : decode cX5_madeShot 1 = .ok (.ifCond .lt 14, 3) := by decide +kernel
theorem dX5_madeShot_4 : decode cX5_madeShot 4 = .ok (.iload_n 1, 1) := by decide +kernel
theorem dX5_madeShot_5 : decode cX5_madeShot 5 = .ok (.aload_n 0, 1) := by decide +kernel
theorem dX5_madeShot_6 : decode cX5_madeShot 6 = .ok (.getfield 10, 3) := by decide +kernel
theorem dX5_madeShot_9 : decode cX5_madeShot 9 = .ok (.invokevirtual 37, 3) := by decide +kernel
theorem dX5_madeShot_12 : decode cX5_madeShot 12 = .ok (.if_icmp .lt 14, 3) := by decide +kernel
theorem dX5_madeShot_15 : decode cX5_madeShot 15 = .ok (.new 320, 3) := by decide +kernel
theorem dX5_madeShot_18 : decode cX5_madeShot 18 = .ok (.dup, 1) := by decide +kernel
theorem dX5_madeShot_19 : decode cX5_madeShot 19 = .ok (.ldc_w 322, 3) := by decide +kernel
theorem dX5_madeShot_22 : decode cX5_madeShot 22 = .ok (.invokespecial 324, 3) := by decide +kernel
theorem dX5_madeShot_25 : decode cX5_madeShot 25 = .ok (.athrow, 1) := by decide +kernel
theorem dX5_madeShot_26 : decode cX5_madeShot 26 = .ok (.aload_n 0, 1) := by decide +kernel
theorem dX5_madeShot_27 : decode cX5_madeShot 27 = .ok (.getfield 10, 3) := by decide +kernel
theorem dX5_madeShot_30 : decode cX5_madeShot 30 = .ok (.iload_n 1, 1) := by decide +kernel
theorem dX5_madeShot_31 : decode cX5_madeShot 31 = .ok (.invokevirtual 116, 3) := by decide +kernel
theorem dX5_madeShot_34 : decode cX5_madeShot 34 = .ok (.checkcast 70, 3) := by decide +kernel
theorem dX5_madeShot_37 : decode cX5_madeShot 37 = .ok (.areturn, 1) := by decide +kernel
theorem dX5_madeNote_0 : decode cX5_madeNote 0 = .ok (.iload_n 1, 1) := by decide +kernel
theorem dX5_madeNote_1 : decode cX5_madeNote 1 = .ok (.ifCond .lt 14, 3) := by decide +kernel
theorem dX5_madeNote_4 : decode cX5_madeNote 4 = .ok (.iload_n 1, 1) := by decide +kernel
theorem dX5_madeNote_5 : decode cX5_madeNote 5 = .ok (.aload_n 0, 1) := by decide +kernel
theorem dX5_madeNote_6 : decode cX5_madeNote 6 = .ok (.getfield 19, 3) := by decide +kernel
theorem dX5_madeNote_9 : decode cX5_madeNote 9 = .ok (.invokevirtual 37, 3) := by decide +kernel
theorem dX5_madeNote_12 : decode cX5_madeNote 12 = .ok (.if_icmp .lt 14, 3) := by decide +kernel
theorem dX5_madeNote_15 : decode cX5_madeNote 15 = .ok (.new 320, 3) := by decide +kernel
theorem dX5_madeNote_18 : decode cX5_madeNote 18 = .ok (.dup, 1) := by decide +kernel
theorem dX5_madeNote_19 : decode cX5_madeNote 19 = .ok (.ldc_w 325, 3) := by decide +kernel
theorem dX5_madeNote_22 : decode cX5_madeNote 22 = .ok (.invokespecial 324, 3) := by decide +kernel
theorem dX5_madeNote_25 : decode cX5_madeNote 25 = .ok (.athrow, 1) := by decide +kernel
theorem dX5_madeNote_26 : decode cX5_madeNote 26 = .ok (.aload_n 0, 1) := by decide +kernel
theorem dX5_madeNote_27 : decode cX5_madeNote 27 = .ok (.getfield 19, 3) := by decide +kernel
theorem dX5_madeNote_30 : decode cX5_madeNote 30 = .ok (.iload_n 1, 1) := by decide +kernel
theorem dX5_madeNote_31 : decode cX5_madeNote 31 = .ok (.invokevirtual 116, 3) := by decide +kernel
theorem dX5_madeNote_34 : decode cX5_madeNote 34 = .ok (.checkcast 245, 3) := by decide +kernel
theorem dX5_madeNote_37 : decode cX5_madeNote 37 = .ok (.areturn, 1) := by decide +kernel
theorem dX5_placeInReel_0 : decode cX5_placeInReel 0 = .ok (.aload_n 0, 1) := by decide +kernel
theorem dX5_placeInReel_1 : decode cX5_placeInReel 1 = .ok (.aload_n 1, 1) := by decide +kernel
theorem dX5_placeInReel_2 : decode cX5_placeInReel 2 = .ok (.invokevirtual 327, 3) := by decide +kernel
theorem dX5_placeInReel_5 : decode cX5_placeInReel 5 = .ok (.istore_n 2, 1) := by decide +kernel
theorem dX5_placeInReel_6 : decode cX5_placeInReel 6 = .ok (.iload_n 2, 1) := by decide +kernel
theorem dX5_placeInReel_7 : decode cX5_placeInReel 7 = .ok (.iconst (-1), 1) := by decide +kernel
theorem dX5_placeInReel_8 : decode cX5_placeInReel 8 = .ok (.if_icmp .ne 14, 3) := by decide +kernel
theorem dX5_placeInReel_11 : decode cX5_placeInReel 11 = .ok (.new 60, 3) := by decide +kernel
theorem dX5_placeInReel_14 : decode cX5_placeInReel 14 = .ok (.dup, 1) := by decide +kernel
theorem dX5_placeInReel_15 : decode cX5_placeInReel 15 = .ok (.ldc_w 330, 3) := by decide +kernel
theorem dX5_placeInReel_18 : decode cX5_placeInReel 18 = .ok (.invokespecial 64, 3) := by decide +kernel
theorem dX5_placeInReel_21 : decode cX5_placeInReel 21 = .ok (.athrow, 1) := by decide +kernel
theorem dX5_placeInReel_22 : decode cX5_placeInReel 22 = .ok (.iload_n 2, 1) := by decide +kernel
theorem dX5_placeInReel_23 : decode cX5_placeInReel 23 = .ok (.ireturn, 1) := by decide +kernel
theorem dX5_checkInReel_0 : decode cX5_checkInReel 0 = .ok (.aload_n 0, 1) := by decide +kernel
theorem dX5_checkInReel_1 : decode cX5_checkInReel 1 = .ok (.aload_n 1, 1) := by decide +kernel
theorem dX5_checkInReel_2 : decode cX5_checkInReel 2 = .ok (.invokevirtual 97, 3) := by decide +kernel
theorem dX5_checkInReel_5 : decode cX5_checkInReel 5 = .ok (.pop, 1) := by decide +kernel
theorem dX5_checkInReel_6 : decode cX5_checkInReel 6 = .ok (.return_, 1) := by decide +kernel
theorem dX5_foundPlace_0 : decode cX5_foundPlace 0 = .ok (.aload_n 0, 1) := by decide +kernel
theorem dX5_foundPlace_1 : decode cX5_foundPlace 1 = .ok (.aload_n 1, 1) := by decide +kernel
theorem dX5_foundPlace_2 : decode cX5_foundPlace 2 = .ok (.invokevirtual 327, 3) := by decide +kernel
theorem dX5_foundPlace_5 : decode cX5_foundPlace 5 = .ok (.istore_n 2, 1) := by decide +kernel
theorem dX5_foundPlace_6 : decode cX5_foundPlace 6 = .ok (.iload_n 2, 1) := by decide +kernel
theorem dX5_foundPlace_7 : decode cX5_foundPlace 7 = .ok (.iconst (-1), 1) := by decide +kernel
theorem dX5_foundPlace_8 : decode cX5_foundPlace 8 = .ok (.if_icmp .ne 14, 3) := by decide +kernel
theorem dX5_foundPlace_11 : decode cX5_foundPlace 11 = .ok (.new 111, 3) := by decide +kernel
theorem dX5_foundPlace_14 : decode cX5_foundPlace 14 = .ok (.dup, 1) := by decide +kernel
theorem dX5_foundPlace_15 : decode cX5_foundPlace 15 = .ok (.ldc_w 330, 3) := by decide +kernel
theorem dX5_foundPlace_18 : decode cX5_foundPlace 18 = .ok (.invokespecial 115, 3) := by decide +kernel
theorem dX5_foundPlace_21 : decode cX5_foundPlace 21 = .ok (.athrow, 1) := by decide +kernel
theorem dX5_foundPlace_22 : decode cX5_foundPlace 22 = .ok (.iload_n 2, 1) := by decide +kernel
theorem dX5_foundPlace_23 : decode cX5_foundPlace 23 = .ok (.ireturn, 1) := by decide +kernel
theorem dX5_foundNumber_0 : decode cX5_foundNumber 0 = .ok (.aload_n 0, 1) := by decide +kernel
theorem dX5_foundNumber_1 : decode cX5_foundNumber 1 = .ok (.aload_n 1, 1) := by decide +kernel
theorem dX5_foundNumber_2 : decode cX5_foundNumber 2 = .ok (.invokevirtual 332, 3) := by decide +kernel
theorem dX5_foundNumber_5 : decode cX5_foundNumber 5 = .ok (.istore_n 2, 1) := by decide +kernel
theorem dX5_foundNumber_6 : decode cX5_foundNumber 6 = .ok (.iload_n 2, 1) := by decide +kernel
theorem dX5_foundNumber_7 : decode cX5_foundNumber 7 = .ok (.iconst (-1), 1) := by decide +kernel
theorem dX5_foundNumber_8 : decode cX5_foundNumber 8 = .ok (.if_icmp .ne 14, 3) := by decide +kernel
theorem dX5_foundNumber_11 : decode cX5_foundNumber 11 = .ok (.new 111, 3) := by decide +kernel
theorem dX5_foundNumber_14 : decode cX5_foundNumber 14 = .ok (.dup, 1) := by decide +kernel
theorem dX5_foundNumber_15 : decode cX5_foundNumber 15 = .ok (.ldc_w 335, 3) := by decide +kernel
theorem dX5_foundNumber_18 : decode cX5_foundNumber 18 = .ok (.invokespecial 115, 3) := by decide +kernel
theorem dX5_foundNumber_21 : decode cX5_foundNumber 21 = .ok (.athrow, 1) := by decide +kernel
theorem dX5_foundNumber_22 : decode cX5_foundNumber 22 = .ok (.iload_n 2, 1) := by decide +kernel
theorem dX5_foundNumber_23 : decode cX5_foundNumber 23 = .ok (.ireturn, 1) := by decide +kernel
theorem dX5_checkCamera_0 : decode cX5_checkCamera 0 = .ok (.iload_n 0, 1) := by decide +kernel
theorem dX5_checkCamera_1 : decode cX5_checkCamera 1 = .ok (.bipush 115, 2) := by decide +kernel
theorem dX5_checkCamera_3 : decode cX5_checkCamera 3 = .ok (.if_icmp .eq 26, 3) := by decide +kernel
theorem dX5_checkCamera_6 : decode cX5_checkCamera 6 = .ok (.iload_n 0, 1) := by decide +kernel
theorem dX5_checkCamera_7 : decode cX5_checkCamera 7 = .ok (.bipush 110, 2) := by decide +kernel
theorem dX5_checkCamera_9 : decode cX5_checkCamera 9 = .ok (.if_icmp .eq 20, 3) := by decide +kernel
theorem dX5_checkCamera_12 : decode cX5_checkCamera 12 = .ok (.iload_n 0, 1) := by decide +kernel
theorem dX5_checkCamera_13 : decode cX5_checkCamera 13 = .ok (.bipush 48, 2) := by decide +kernel
theorem dX5_checkCamera_15 : decode cX5_checkCamera 15 = .ok (.if_icmp .eq 14, 3) := by decide +kernel
theorem dX5_checkCamera_18 : decode cX5_checkCamera 18 = .ok (.new 41, 3) := by decide +kernel
theorem dX5_checkCamera_21 : decode cX5_checkCamera 21 = .ok (.dup, 1) := by decide +kernel
theorem dX5_checkCamera_22 : decode cX5_checkCamera 22 = .ok (.ldc_w 337, 3) := by decide +kernel
theorem dX5_checkCamera_25 : decode cX5_checkCamera 25 = .ok (.invokespecial 45, 3) := by decide +kernel
theorem dX5_checkCamera_28 : decode cX5_checkCamera 28 = .ok (.athrow, 1) := by decide +kernel
theorem dX5_checkCamera_29 : decode cX5_checkCamera 29 = .ok (.iload_n 1, 1) := by decide +kernel
theorem dX5_checkCamera_30 : decode cX5_checkCamera 30 = .ok (.ifCond .lt 8, 3) := by decide +kernel
theorem dX5_checkCamera_33 : decode cX5_checkCamera 33 = .ok (.iload_n 1, 1) := by decide +kernel
theorem dX5_checkCamera_34 : decode cX5_checkCamera 34 = .ok (.iconst 5, 1) := by decide +kernel
theorem dX5_checkCamera_35 : decode cX5_checkCamera 35 = .ok (.if_icmp .lt 14, 3) := by decide +kernel
theorem dX5_checkCamera_38 : decode cX5_checkCamera 38 = .ok (.new 41, 3) := by decide +kernel
theorem dX5_checkCamera_41 : decode cX5_checkCamera 41 = .ok (.dup, 1) := by decide +kernel
theorem dX5_checkCamera_42 : decode cX5_checkCamera 42 = .ok (.ldc_w 339, 3) := by decide +kernel
theorem dX5_checkCamera_45 : decode cX5_checkCamera 45 = .ok (.invokespecial 45, 3) := by decide +kernel
theorem dX5_checkCamera_48 : decode cX5_checkCamera 48 = .ok (.athrow, 1) := by decide +kernel
theorem dX5_checkCamera_49 : decode cX5_checkCamera 49 = .ok (.return_, 1) := by decide +kernel
theorem dX5_checkLength_0 : decode cX5_checkLength 0 = .ok (.iload_n 0, 1) := by decide +kernel
theorem dX5_checkLength_1 : decode cX5_checkLength 1 = .ok (.iconst 1, 1) := by decide +kernel
theorem dX5_checkLength_2 : decode cX5_checkLength 2 = .ok (.if_icmp .lt 10, 3) := by decide +kernel
theorem dX5_checkLength_5 : decode cX5_checkLength 5 = .ok (.iload_n 0, 1) := by decide +kernel
theorem dX5_checkLength_6 : decode cX5_checkLength 6 = .ok (.sipush 240, 3) := by decide +kernel
theorem dX5_checkLength_9 : decode cX5_checkLength 9 = .ok (.if_icmp .le 13, 3) := by decide +kernel
theorem dX5_checkLength_12 : decode cX5_checkLength 12 = .ok (.new 41, 3) := by decide +kernel
theorem dX5_checkLength_15 : decode cX5_checkLength 15 = .ok (.dup, 1) := by decide +kernel
theorem dX5_checkLength_16 : decode cX5_checkLength 16 = .ok (.ldc 185, 2) := by decide +kernel
theorem dX5_checkLength_18 : decode cX5_checkLength 18 = .ok (.invokespecial 45, 3) := by decide +kernel
theorem dX5_checkLength_21 : decode cX5_checkLength 21 = .ok (.athrow, 1) := by decide +kernel
theorem dX5_checkLength_22 : decode cX5_checkLength 22 = .ok (.return_, 1) := by decide +kernel
theorem dX5_checkCharacter_0 : decode cX5_checkCharacter 0 = .ok (.iload_n 0, 1) := by decide +kernel
theorem dX5_checkCharacter_1 : decode cX5_checkCharacter 1 = .ok (.ifCond .lt 8, 3) := by decide +kernel
theorem dX5_checkCharacter_4 : decode cX5_checkCharacter 4 = .ok (.iload_n 0, 1) := by decide +kernel
theorem dX5_checkCharacter_5 : decode cX5_checkCharacter 5 = .ok (.iconst 4, 1) := by decide +kernel
theorem dX5_checkCharacter_6 : decode cX5_checkCharacter 6 = .ok (.if_icmp .lt 14, 3) := by decide +kernel
theorem dX5_checkCharacter_9 : decode cX5_checkCharacter 9 = .ok (.new 41, 3) := by decide +kernel
theorem dX5_checkCharacter_12 : decode cX5_checkCharacter 12 = .ok (.dup, 1) := by decide +kernel
theorem dX5_checkCharacter_13 : decode cX5_checkCharacter 13 = .ok (.ldc_w 341, 3) := by decide +kernel
theorem dX5_checkCharacter_16 : decode cX5_checkCharacter 16 = .ok (.invokespecial 45, 3) := by decide +kernel
theorem dX5_checkCharacter_19 : decode cX5_checkCharacter 19 = .ok (.athrow, 1) := by decide +kernel
theorem dX5_checkCharacter_20 : decode cX5_checkCharacter 20 = .ok (.return_, 1) := by decide +kernel
theorem dX5_isPosition_0 : decode cX5_isPosition 0 = .ok (.iload_n 0, 1) := by decide +kernel
theorem dX5_isPosition_1 : decode cX5_isPosition 1 = .ok (.bipush 108, 2) := by decide +kernel
theorem dX5_isPosition_3 : decode cX5_isPosition 3 = .ok (.if_icmp .eq 15, 3) := by decide +kernel
theorem dX5_isPosition_6 : decode cX5_isPosition 6 = .ok (.iload_n 0, 1) := by decide +kernel
theorem dX5_isPosition_7 : decode cX5_isPosition 7 = .ok (.bipush 99, 2) := by decide +kernel
theorem dX5_isPosition_9 : decode cX5_isPosition 9 = .ok (.if_icmp .eq 9, 3) := by decide +kernel
theorem dX5_isPosition_12 : decode cX5_isPosition 12 = .ok (.iload_n 0, 1) := by decide +kernel
theorem dX5_isPosition_13 : decode cX5_isPosition 13 = .ok (.bipush 114, 2) := by decide +kernel
theorem dX5_isPosition_15 : decode cX5_isPosition 15 = .ok (.if_icmp .ne 7, 3) := by decide +kernel
theorem dX5_isPosition_18 : decode cX5_isPosition 18 = .ok (.iconst 1, 1) := by decide +kernel
theorem dX5_isPosition_19 : decode cX5_isPosition 19 = .ok (.goto 4, 3) := by decide +kernel
theorem dX5_isPosition_22 : decode cX5_isPosition 22 = .ok (.iconst 0, 1) := by decide +kernel
theorem dX5_isPosition_23 : decode cX5_isPosition 23 = .ok (.ireturn, 1) := by decide +kernel
theorem dX5_shotForEdge_0 : decode cX5_shotForEdge 0 = .ok (.aload_n 0, 1) := by decide +kernel
theorem dX5_shotForEdge_1 : decode cX5_shotForEdge 1 = .ok (.iload_n 1, 1) := by decide +kernel
theorem dX5_shotForEdge_2 : decode cX5_shotForEdge 2 = .ok (.invokevirtual 93, 3) := by decide +kernel
theorem dX5_shotForEdge_5 : decode cX5_shotForEdge 5 = .ok (.astore 4, 2) := by decide +kernel
theorem dX5_shotForEdge_7 : decode cX5_shotForEdge 7 = .ok (.iload_n 2, 1) := by decide +kernel
theorem dX5_shotForEdge_8 : decode cX5_shotForEdge 8 = .ok (.invokestatic 132, 3) := by decide +kernel
theorem dX5_shotForEdge_11 : decode cX5_shotForEdge 11 = .ok (.iload_n 3, 1) := by decide +kernel
theorem dX5_shotForEdge_12 : decode cX5_shotForEdge 12 = .ok (.bipush 108, 2) := by decide +kernel
theorem dX5_shotForEdge_14 : decode cX5_shotForEdge 14 = .ok (.if_icmp .eq 26, 3) := by decide +kernel
theorem dX5_shotForEdge_17 : decode cX5_shotForEdge 17 = .ok (.iload_n 3, 1) := by decide +kernel
theorem dX5_shotForEdge_18 : decode cX5_shotForEdge 18 = .ok (.bipush 114, 2) := by decide +kernel
theorem dX5_shotForEdge_20 : decode cX5_shotForEdge 20 = .ok (.if_icmp .eq 20, 3) := by decide +kernel
theorem dX5_shotForEdge_23 : decode cX5_shotForEdge 23 = .ok (.iload_n 3, 1) := by decide +kernel
theorem dX5_shotForEdge_24 : decode cX5_shotForEdge 24 = .ok (.bipush 45, 2) := by decide +kernel
theorem dX5_shotForEdge_26 : decode cX5_shotForEdge 26 = .ok (.if_icmp .eq 14, 3) := by decide +kernel
theorem dX5_shotForEdge_29 : decode cX5_shotForEdge 29 = .ok (.new 41, 3) := by decide +kernel
theorem dX5_shotForEdge_32 : decode cX5_shotForEdge 32 = .ok (.dup, 1) := by decide +kernel
theorem dX5_shotForEdge_33 : decode cX5_shotForEdge 33 = .ok (.ldc_w 343, 3) := by decide +kernel
theorem dX5_shotForEdge_36 : decode cX5_shotForEdge 36 = .ok (.invokespecial 45, 3) := by decide +kernel
theorem dX5_shotForEdge_39 : decode cX5_shotForEdge 39 = .ok (.athrow, 1) := by decide +kernel
theorem dX5_shotForEdge_40 : decode cX5_shotForEdge 40 = .ok (.aload_n 0, 1) := by decide +kernel
theorem dX5_shotForEdge_41 : decode cX5_shotForEdge 41 = .ok (.aload 4, 2) := by decide +kernel
theorem dX5_shotForEdge_43 : decode cX5_shotForEdge 43 = .ok (.invokevirtual 122, 3) := by decide +kernel
theorem dX5_shotForEdge_46 : decode cX5_shotForEdge 46 = .ok (.aload 4, 2) := by decide +kernel
theorem dX5_shotForEdge_48 : decode cX5_shotForEdge 48 = .ok (.getfield 148, 3) := by decide +kernel
theorem dX5_shotForEdge_51 : decode cX5_shotForEdge 51 = .ok (.iload_n 2, 1) := by decide +kernel
theorem dX5_shotForEdge_52 : decode cX5_shotForEdge 52 = .ok (.invokevirtual 345, 3) := by decide +kernel
theorem dX5_shotForEdge_55 : decode cX5_shotForEdge 55 = .ok (.ifCond .ne 14, 3) := by decide +kernel
theorem dX5_shotForEdge_58 : decode cX5_shotForEdge 58 = .ok (.new 60, 3) := by decide +kernel
theorem dX5_shotForEdge_61 : decode cX5_shotForEdge 61 = .ok (.dup, 1) := by decide +kernel
theorem dX5_shotForEdge_62 : decode cX5_shotForEdge 62 = .ok (.ldc_w 349, 3) := by decide +kernel
theorem dX5_shotForEdge_65 : decode cX5_shotForEdge 65 = .ok (.invokespecial 64, 3) := by decide +kernel
theorem dX5_shotForEdge_68 : decode cX5_shotForEdge 68 = .ok (.athrow, 1) := by decide +kernel
theorem dX5_shotForEdge_69 : decode cX5_shotForEdge 69 = .ok (.aload 4, 2) := by decide +kernel
theorem dX5_shotForEdge_71 : decode cX5_shotForEdge 71 = .ok (.areturn, 1) := by decide +kernel
theorem dX5_checkCut_0 : decode cX5_checkCut 0 = .ok (.iload_n 1, 1) := by decide +kernel
theorem dX5_checkCut_1 : decode cX5_checkCut 1 = .ok (.iconst 1, 1) := by decide +kernel
theorem dX5_checkCut_2 : decode cX5_checkCut 2 = .ok (.if_icmp .lt 14, 3) := by decide +kernel
theorem dX5_checkCut_5 : decode cX5_checkCut 5 = .ok (.iload_n 1, 1) := by decide +kernel
theorem dX5_checkCut_6 : decode cX5_checkCut 6 = .ok (.aload_n 0, 1) := by decide +kernel
theorem dX5_checkCut_7 : decode cX5_checkCut 7 = .ok (.getfield 16, 3) := by decide +kernel
theorem dX5_checkCut_10 : decode cX5_checkCut 10 = .ok (.invokevirtual 37, 3) := by decide +kernel
theorem dX5_checkCut_13 : decode cX5_checkCut 13 = .ok (.if_icmp .lt 14, 3) := by decide +kernel
theorem dX5_checkCut_16 : decode cX5_checkCut 16 = .ok (.new 111, 3) := by decide +kernel
theorem dX5_checkCut_19 : decode cX5_checkCut 19 = .ok (.dup, 1) := by decide +kernel
theorem dX5_checkCut_20 : decode cX5_checkCut 20 = .ok (.ldc_w 351, 3) := by decide +kernel
theorem dX5_checkCut_23 : decode cX5_checkCut 23 = .ok (.invokespecial 115, 3) := by decide +kernel
theorem dX5_checkCut_26 : decode cX5_checkCut 26 = .ok (.athrow, 1) := by decide +kernel
theorem dX5_checkCut_27 : decode cX5_checkCut 27 = .ok (.return_, 1) := by decide +kernel
theorem dX5_checkShortReel_0 : decode cX5_checkShortReel 0 = .ok (.aload_n 0, 1) := by decide +kernel
theorem dX5_checkShortReel_1 : decode cX5_checkShortReel 1 = .ok (.getfield 16, 3) := by decide +kernel
theorem dX5_checkShortReel_4 : decode cX5_checkShortReel 4 = .ok (.invokevirtual 353, 3) := by decide +kernel
theorem dX5_checkShortReel_7 : decode cX5_checkShortReel 7 = .ok (.ifCond .ne 15, 3) := by decide +kernel
theorem dX5_checkShortReel_10 : decode cX5_checkShortReel 10 = .ok (.aload_n 0, 1) := by decide +kernel
theorem dX5_checkShortReel_11 : decode cX5_checkShortReel 11 = .ok (.getfield 16, 3) := by decide +kernel
theorem dX5_checkShortReel_14 : decode cX5_checkShortReel 14 = .ok (.invokevirtual 37, 3) := by decide +kernel
theorem dX5_checkShortReel_17 : decode cX5_checkShortReel 17 = .ok (.bipush 6, 2) := by decide +kernel
theorem dX5_checkShortReel_19 : decode cX5_checkShortReel 19 = .ok (.if_icmp .le 14, 3) := by decide +kernel
theorem dX5_checkShortReel_22 : decode cX5_checkShortReel 22 = .ok (.new 60, 3) := by decide +kernel
theorem dX5_checkShortReel_25 : decode cX5_checkShortReel 25 = .ok (.dup, 1) := by decide +kernel
theorem dX5_checkShortReel_26 : decode cX5_checkShortReel 26 = .ok (.ldc_w 356, 3) := by decide +kernel
theorem dX5_checkShortReel_29 : decode cX5_checkShortReel 29 = .ok (.invokespecial 64, 3) := by decide +kernel
theorem dX5_checkShortReel_32 : decode cX5_checkShortReel 32 = .ok (.athrow, 1) := by decide +kernel
theorem dX5_checkShortReel_33 : decode cX5_checkShortReel 33 = .ok (.return_, 1) := by decide +kernel
theorem dX5_placeOf_0 : decode cX5_placeOf 0 = .ok (.iconst 0, 1) := by decide +kernel
theorem dX5_placeOf_1 : decode cX5_placeOf 1 = .ok (.istore_n 2, 1) := by decide +kernel
theorem dX5_placeOf_2 : decode cX5_placeOf 2 = .ok (.iload_n 2, 1) := by decide +kernel
theorem dX5_placeOf_3 : decode cX5_placeOf 3 = .ok (.aload_n 0, 1) := by decide +kernel
theorem dX5_placeOf_4 : decode cX5_placeOf 4 = .ok (.getfield 16, 3) := by decide +kernel
theorem dX5_placeOf_7 : decode cX5_placeOf 7 = .ok (.invokevirtual 37, 3) := by decide +kernel
theorem dX5_placeOf_10 : decode cX5_placeOf 10 = .ok (.if_icmp .ge 32, 3) := by decide +kernel
theorem dX5_placeOf_13 : decode cX5_placeOf 13 = .ok (.aload_n 0, 1) := by decide +kernel
theorem dX5_placeOf_14 : decode cX5_placeOf 14 = .ok (.getfield 16, 3) := by decide +kernel
theorem dX5_placeOf_17 : decode cX5_placeOf 17 = .ok (.iload_n 2, 1) := by decide +kernel
theorem dX5_placeOf_18 : decode cX5_placeOf 18 = .ok (.invokevirtual 116, 3) := by decide +kernel
theorem dX5_placeOf_21 : decode cX5_placeOf 21 = .ok (.checkcast 70, 3) := by decide +kernel
theorem dX5_placeOf_24 : decode cX5_placeOf 24 = .ok (.getfield 90, 3) := by decide +kernel
theorem dX5_placeOf_27 : decode cX5_placeOf 27 = .ok (.aload_n 1, 1) := by decide +kernel
theorem dX5_placeOf_28 : decode cX5_placeOf 28 = .ok (.getfield 90, 3) := by decide +kernel
theorem dX5_placeOf_31 : decode cX5_placeOf 31 = .ok (.if_icmp .ne 5, 3) := by decide +kernel
theorem dX5_placeOf_34 : decode cX5_placeOf 34 = .ok (.iload_n 2, 1) := by decide +kernel
theorem dX5_placeOf_35 : decode cX5_placeOf 35 = .ok (.ireturn, 1) := by decide +kernel
theorem dX5_placeOf_36 : decode cX5_placeOf 36 = .ok (.iinc 2 1, 3) := by decide +kernel
theorem dX5_placeOf_39 : decode cX5_placeOf 39 = .ok (.goto (-37), 3) := by decide +kernel
theorem dX5_placeOf_42 : decode cX5_placeOf 42 = .ok (.iconst (-1), 1) := by decide +kernel
theorem dX5_placeOf_43 : decode cX5_placeOf 43 = .ok (.ireturn, 1) := by decide +kernel
theorem dX5_beginOf_0 : decode cX5_beginOf 0 = .ok (.iconst 0, 1) := by decide +kernel
theorem dX5_beginOf_1 : decode cX5_beginOf 1 = .ok (.istore_n 2, 1) := by decide +kernel
theorem dX5_beginOf_2 : decode cX5_beginOf 2 = .ok (.iconst 0, 1) := by decide +kernel
theorem dX5_beginOf_3 : decode cX5_beginOf 3 = .ok (.istore_n 3, 1) := by decide +kernel
theorem dX5_beginOf_4 : decode cX5_beginOf 4 = .ok (.iload_n 3, 1) := by decide +kernel
theorem dX5_beginOf_5 : decode cX5_beginOf 5 = .ok (.iload_n 1, 1) := by decide +kernel
theorem dX5_beginOf_6 : decode cX5_beginOf 6 = .ok (.if_icmp .ge 37, 3) := by decide +kernel
theorem dX5_beginOf_9 : decode cX5_beginOf 9 = .ok (.iload_n 3, 1) := by decide +kernel
theorem dX5_beginOf_10 : decode cX5_beginOf 10 = .ok (.aload_n 0, 1) := by decide +kernel
theorem dX5_beginOf_11 : decode cX5_beginOf 11 = .ok (.getfield 16, 3) := by decide +kernel
theorem dX5_beginOf_14 : decode cX5_beginOf 14 = .ok (.invokevirtual 37, 3) := by decide +kernel
theorem dX5_beginOf_17 : decode cX5_beginOf 17 = .ok (.if_icmp .ge 26, 3) := by decide +kernel
theorem dX5_beginOf_20 : decode cX5_beginOf 20 = .ok (.iload_n 2, 1) := by decide +kernel
theorem dX5_beginOf_21 : decode cX5_beginOf 21 = .ok (.aload_n 0, 1) := by decide +kernel
theorem dX5_beginOf_22 : decode cX5_beginOf 22 = .ok (.getfield 16, 3) := by decide +kernel
theorem dX5_beginOf_25 : decode cX5_beginOf 25 = .ok (.iload_n 3, 1) := by decide +kernel
theorem dX5_beginOf_26 : decode cX5_beginOf 26 = .ok (.invokevirtual 116, 3) := by decide +kernel
theorem dX5_beginOf_29 : decode cX5_beginOf 29 = .ok (.checkcast 70, 3) := by decide +kernel
theorem dX5_beginOf_32 : decode cX5_beginOf 32 = .ok (.getfield 187, 3) := by decide +kernel
theorem dX5_beginOf_35 : decode cX5_beginOf 35 = .ok (.iadd, 1) := by decide +kernel
theorem dX5_beginOf_36 : decode cX5_beginOf 36 = .ok (.istore_n 2, 1) := by decide +kernel
theorem dX5_beginOf_37 : decode cX5_beginOf 37 = .ok (.iinc 3 1, 3) := by decide +kernel
theorem dX5_beginOf_40 : decode cX5_beginOf 40 = .ok (.goto (-36), 3) := by decide +kernel
theorem dX5_beginOf_43 : decode cX5_beginOf 43 = .ok (.iload_n 2, 1) := by decide +kernel
theorem dX5_beginOf_44 : decode cX5_beginOf 44 = .ok (.ireturn, 1) := by decide +kernel
theorem dX5_indexSeen_0 : decode cX5_indexSeen 0 = .ok (.iconst 0, 1) := by decide +kernel
theorem dX5_indexSeen_1 : decode cX5_indexSeen 1 = .ok (.istore_n 2, 1) := by decide +kernel
theorem dX5_indexSeen_2 : decode cX5_indexSeen 2 = .ok (.iconst 0, 1) := by decide +kernel
theorem dX5_indexSeen_3 : decode cX5_indexSeen 3 = .ok (.istore_n 3, 1) := by decide +kernel
theorem dX5_indexSeen_4 : decode cX5_indexSeen 4 = .ok (.iload_n 3, 1) := by decide +kernel
theorem dX5_indexSeen_5 : decode cX5_indexSeen 5 = .ok (.aload_n 0, 1) := by decide +kernel
theorem dX5_indexSeen_6 : decode cX5_indexSeen 6 = .ok (.getfield 16, 3) := by decide +kernel
theorem dX5_indexSeen_9 : decode cX5_indexSeen 9 = .ok (.invokevirtual 37, 3) := by decide +kernel
theorem dX5_indexSeen_12 : decode cX5_indexSeen 12 = .ok (.if_icmp .ge 50, 3) := by decide +kernel
theorem dX5_indexSeen_15 : decode cX5_indexSeen 15 = .ok (.iload_n 1, 1) := by decide +kernel
theorem dX5_indexSeen_16 : decode cX5_indexSeen 16 = .ok (.ifCond .lt 46, 3) := by decide +kernel
theorem dX5_indexSeen_19 : decode cX5_indexSeen 19 = .ok (.iload_n 2, 1) := by decide +kernel
theorem dX5_indexSeen_20 : decode cX5_indexSeen 20 = .ok (.aload_n 0, 1) := by decide +kernel
theorem dX5_indexSeen_21 : decode cX5_indexSeen 21 = .ok (.getfield 16, 3) := by decide +kernel
theorem dX5_indexSeen_24 : decode cX5_indexSeen 24 = .ok (.iload_n 3, 1) := by decide +kernel
theorem dX5_indexSeen_25 : decode cX5_indexSeen 25 = .ok (.invokevirtual 116, 3) := by decide +kernel
theorem dX5_indexSeen_28 : decode cX5_indexSeen 28 = .ok (.checkcast 70, 3) := by decide +kernel
theorem dX5_indexSeen_31 : decode cX5_indexSeen 31 = .ok (.getfield 187, 3) := by decide +kernel
theorem dX5_indexSeen_34 : decode cX5_indexSeen 34 = .ok (.iadd, 1) := by decide +kernel
theorem dX5_indexSeen_35 : decode cX5_indexSeen 35 = .ok (.istore_n 2, 1) := by decide +kernel
theorem dX5_indexSeen_36 : decode cX5_indexSeen 36 = .ok (.iload_n 1, 1) := by decide +kernel
theorem dX5_indexSeen_37 : decode cX5_indexSeen 37 = .ok (.iload_n 2, 1) := by decide +kernel
theorem dX5_indexSeen_38 : decode cX5_indexSeen 38 = .ok (.if_icmp .ge 18, 3) := by decide +kernel
theorem dX5_indexSeen_41 : decode cX5_indexSeen 41 = .ok (.aload_n 0, 1) := by decide +kernel
theorem dX5_indexSeen_42 : decode cX5_indexSeen 42 = .ok (.getfield 16, 3) := by decide +kernel
theorem dX5_indexSeen_45 : decode cX5_indexSeen 45 = .ok (.iload_n 3, 1) := by decide +kernel
theorem dX5_indexSeen_46 : decode cX5_indexSeen 46 = .ok (.invokevirtual 116, 3) := by decide +kernel
theorem dX5_indexSeen_49 : decode cX5_indexSeen 49 = .ok (.checkcast 70, 3) := by decide +kernel
theorem dX5_indexSeen_52 : decode cX5_indexSeen 52 = .ok (.getfield 90, 3) := by decide +kernel
theorem dX5_indexSeen_55 : decode cX5_indexSeen 55 = .ok (.ireturn, 1) := by decide +kernel
theorem dX5_indexSeen_56 : decode cX5_indexSeen 56 = .ok (.iinc 3 1, 3) := by decide +kernel
theorem dX5_indexSeen_59 : decode cX5_indexSeen 59 = .ok (.goto (-55), 3) := by decide +kernel
theorem dX5_indexSeen_62 : decode cX5_indexSeen 62 = .ok (.iconst (-1), 1) := by decide +kernel
theorem dX5_indexSeen_63 : decode cX5_indexSeen 63 = .ok (.ireturn, 1) := by decide +kernel
theorem dX5_nameNumberOf_0 : decode cX5_nameNumberOf 0 = .ok (.aload_n 0, 1) := by decide +kernel
theorem dX5_nameNumberOf_1 : decode cX5_nameNumberOf 1 = .ok (.getfield 48, 3) := by decide +kernel
theorem dX5_nameNumberOf_4 : decode cX5_nameNumberOf 4 = .ok (.ifCond .eq 8, 3) := by decide +kernel
theorem dX5_nameNumberOf_7 : decode cX5_nameNumberOf 7 = .ok (.aload_n 1, 1) := by decide +kernel
theorem dX5_nameNumberOf_8 : decode cX5_nameNumberOf 8 = .ok (.getfield 75, 3) := by decide +kernel
theorem dX5_nameNumberOf_11 : decode cX5_nameNumberOf 11 = .ok (.ireturn, 1) := by decide +kernel
theorem dX5_nameNumberOf_12 : decode cX5_nameNumberOf 12 = .ok (.aload_n 0, 1) := by decide +kernel
theorem dX5_nameNumberOf_13 : decode cX5_nameNumberOf 13 = .ok (.aload_n 1, 1) := by decide +kernel
theorem dX5_nameNumberOf_14 : decode cX5_nameNumberOf 14 = .ok (.invokevirtual 327, 3) := by decide +kernel
theorem dX5_nameNumberOf_17 : decode cX5_nameNumberOf 17 = .ok (.istore_n 2, 1) := by decide +kernel
theorem dX5_nameNumberOf_18 : decode cX5_nameNumberOf 18 = .ok (.iload_n 2, 1) := by decide +kernel
theorem dX5_nameNumberOf_19 : decode cX5_nameNumberOf 19 = .ok (.iconst (-1), 1) := by decide +kernel
theorem dX5_nameNumberOf_20 : decode cX5_nameNumberOf 20 = .ok (.if_icmp .ne 7, 3) := by decide +kernel
theorem dX5_nameNumberOf_23 : decode cX5_nameNumberOf 23 = .ok (.iconst (-1), 1) := by decide +kernel
theorem dX5_nameNumberOf_24 : decode cX5_nameNumberOf 24 = .ok (.goto 8, 3) := by decide +kernel
theorem dX5_nameNumberOf_27 : decode cX5_nameNumberOf 27 = .ok (.aload_n 0, 1) := by decide +kernel
theorem dX5_nameNumberOf_28 : decode cX5_nameNumberOf 28 = .ok (.iload_n 2, 1) := by decide +kernel
theorem dX5_nameNumberOf_29 : decode cX5_nameNumberOf 29 = .ok (.invokevirtual 190, 3) := by decide +kernel
theorem dX5_nameNumberOf_32 : decode cX5_nameNumberOf 32 = .ok (.ireturn, 1) := by decide +kernel
theorem dX5_nameNumberAt_0 : decode cX5_nameNumberAt 0 = .ok (.aload_n 0, 1) := by decide +kernel
theorem dX5_nameNumberAt_1 : decode cX5_nameNumberAt 1 = .ok (.getfield 48, 3) := by decide +kernel
theorem dX5_nameNumberAt_4 : decode cX5_nameNumberAt 4 = .ok (.ifCond .eq 20, 3) := by decide +kernel
theorem dX5_nameNumberAt_7 : decode cX5_nameNumberAt 7 = .ok (.aload_n 0, 1) := by decide +kernel
theorem dX5_nameNumberAt_8 : decode cX5_nameNumberAt 8 = .ok (.getfield 16, 3) := by decide +kernel
theorem dX5_nameNumberAt_11 : decode cX5_nameNumberAt 11 = .ok (.iload_n 1, 1) := by decide +kernel
theorem dX5_nameNumberAt_12 : decode cX5_nameNumberAt 12 = .ok (.invokevirtual 116, 3) := by decide +kernel
theorem dX5_nameNumberAt_15 : decode cX5_nameNumberAt 15 = .ok (.checkcast 70, 3) := by decide +kernel
theorem dX5_nameNumberAt_18 : decode cX5_nameNumberAt 18 = .ok (.getfield 75, 3) := by decide +kernel
theorem dX5_nameNumberAt_21 : decode cX5_nameNumberAt 21 = .ok (.goto 6, 3) := by decide +kernel
theorem dX5_nameNumberAt_24 : decode cX5_nameNumberAt 24 = .ok (.iload_n 1, 1) := by decide +kernel
theorem dX5_nameNumberAt_25 : decode cX5_nameNumberAt 25 = .ok (.iconst 1, 1) := by decide +kernel
theorem dX5_nameNumberAt_26 : decode cX5_nameNumberAt 26 = .ok (.iadd, 1) := by decide +kernel
theorem dX5_nameNumberAt_27 : decode cX5_nameNumberAt 27 = .ok (.ireturn, 1) := by decide +kernel
theorem dX5_numberBehind_0 : decode cX5_numberBehind 0 = .ok (.iload_n 1, 1) := by decide +kernel
theorem dX5_numberBehind_1 : decode cX5_numberBehind 1 = .ok (.iconst 1, 1) := by decide +kernel
theorem dX5_numberBehind_2 : decode cX5_numberBehind 2 = .ok (.if_icmp .lt 14, 3) := by decide +kernel
theorem dX5_numberBehind_5 : decode cX5_numberBehind 5 = .ok (.iload_n 1, 1) := by decide +kernel
theorem dX5_numberBehind_6 : decode cX5_numberBehind 6 = .ok (.aload_n 0, 1) := by decide +kernel
theorem dX5_numberBehind_7 : decode cX5_numberBehind 7 = .ok (.getfield 16, 3) := by decide +kernel
theorem dX5_numberBehind_10 : decode cX5_numberBehind 10 = .ok (.invokevirtual 37, 3) := by decide +kernel
theorem dX5_numberBehind_13 : decode cX5_numberBehind 13 = .ok (.if_icmp .le 7, 3) := by decide +kernel
theorem dX5_numberBehind_16 : decode cX5_numberBehind 16 = .ok (.iconst 0, 1) := by decide +kernel
theorem dX5_numberBehind_17 : decode cX5_numberBehind 17 = .ok (.goto 19, 3) := by decide +kernel
theorem dX5_numberBehind_20 : decode cX5_numberBehind 20 = .ok (.aload_n 0, 1) := by decide +kernel
theorem dX5_numberBehind_21 : decode cX5_numberBehind 21 = .ok (.getfield 16, 3) := by decide +kernel
theorem dX5_numberBehind_24 : decode cX5_numberBehind 24 = .ok (.iload_n 1, 1) := by decide +kernel
theorem dX5_numberBehind_25 : decode cX5_numberBehind 25 = .ok (.iconst 1, 1) := by decide +kernel
theorem dX5_numberBehind_26 : decode cX5_numberBehind 26 = .ok (.isub, 1) := by decide +kernel
theorem dX5_numberBehind_27 : decode cX5_numberBehind 27 = .ok (.invokevirtual 116, 3) := by decide +kernel
theorem dX5_numberBehind_30 : decode cX5_numberBehind 30 = .ok (.checkcast 70, 3) := by decide +kernel
theorem dX5_numberBehind_33 : decode cX5_numberBehind 33 = .ok (.getfield 75, 3) := by decide +kernel
theorem dX5_numberBehind_36 : decode cX5_numberBehind 36 = .ok (.ireturn, 1) := by decide +kernel
theorem dX5_freeLetter_0 : decode cX5_freeLetter 0 = .ok (.bipush 65, 2) := by decide +kernel
theorem dX5_freeLetter_2 : decode cX5_freeLetter 2 = .ok (.istore_n 2, 1) := by decide +kernel
theorem dX5_freeLetter_3 : decode cX5_freeLetter 3 = .ok (.iload_n 2, 1) := by decide +kernel
theorem dX5_freeLetter_4 : decode cX5_freeLetter 4 = .ok (.bipush 70, 2) := by decide +kernel
theorem dX5_freeLetter_6 : decode cX5_freeLetter 6 = .ok (.if_icmp .gt 22, 3) := by decide +kernel
theorem dX5_freeLetter_9 : decode cX5_freeLetter 9 = .ok (.aload_n 0, 1) := by decide +kernel
theorem dX5_freeLetter_10 : decode cX5_freeLetter 10 = .ok (.iload_n 1, 1) := by decide +kernel
theorem dX5_freeLetter_11 : decode cX5_freeLetter 11 = .ok (.iload_n 2, 1) := by decide +kernel
theorem dX5_freeLetter_12 : decode cX5_freeLetter 12 = .ok (.invokevirtual 358, 3) := by decide +kernel
theorem dX5_freeLetter_15 : decode cX5_freeLetter 15 = .ok (.ifCond .ne 5, 3) := by decide +kernel
theorem dX5_freeLetter_18 : decode cX5_freeLetter 18 = .ok (.iload_n 2, 1) := by decide +kernel
theorem dX5_freeLetter_19 : decode cX5_freeLetter 19 = .ok (.ireturn, 1) := by decide +kernel
theorem dX5_freeLetter_20 : decode cX5_freeLetter 20 = .ok (.iload_n 2, 1) := by decide +kernel
theorem dX5_freeLetter_21 : decode cX5_freeLetter 21 = .ok (.iconst 1, 1) := by decide +kernel
theorem dX5_freeLetter_22 : decode cX5_freeLetter 22 = .ok (.iadd, 1) := by decide +kernel
theorem dX5_freeLetter_23 : decode cX5_freeLetter 23 = .ok (.i2c, 1) := by decide +kernel
theorem dX5_freeLetter_24 : decode cX5_freeLetter 24 = .ok (.istore_n 2, 1) := by decide +kernel
theorem dX5_freeLetter_25 : decode cX5_freeLetter 25 = .ok (.goto (-22), 3) := by decide +kernel
theorem dX5_freeLetter_28 : decode cX5_freeLetter 28 = .ok (.bipush 45, 2) := by decide +kernel
theorem dX5_freeLetter_30 : decode cX5_freeLetter 30 = .ok (.ireturn, 1) := by decide +kernel
theorem dX5_isNameTaken_0 : decode cX5_isNameTaken 0 = .ok (.iconst 0, 1) := by decide +kernel
theorem dX5_isNameTaken_1 : decode cX5_isNameTaken 1 = .ok (.istore_n 3, 1) := by decide +kernel
theorem dX5_isNameTaken_2 : decode cX5_isNameTaken 2 = .ok (.iload_n 3, 1) := by decide +kernel
theorem dX5_isNameTaken_3 : decode cX5_isNameTaken 3 = .ok (.aload_n 0, 1) := by decide +kernel
theorem dX5_isNameTaken_4 : decode cX5_isNameTaken 4 = .ok (.getfield 10, 3) := by decide +kernel
theorem dX5_isNameTaken_7 : decode cX5_isNameTaken 7 = .ok (.invokevirtual 37, 3) := by decide +kernel
theorem dX5_isNameTaken_10 : decode cX5_isNameTaken 10 = .ok (.if_icmp .ge 42, 3) := by decide +kernel
theorem dX5_isNameTaken_13 : decode cX5_isNameTaken 13 = .ok (.aload_n 0, 1) := by decide +kernel
theorem dX5_isNameTaken_14 : decode cX5_isNameTaken 14 = .ok (.getfield 10, 3) := by decide +kernel
theorem dX5_isNameTaken_17 : decode cX5_isNameTaken 17 = .ok (.iload_n 3, 1) := by decide +kernel
theorem dX5_isNameTaken_18 : decode cX5_isNameTaken 18 = .ok (.invokevirtual 116, 3) := by decide +kernel
theorem dX5_isNameTaken_21 : decode cX5_isNameTaken 21 = .ok (.checkcast 70, 3) := by decide +kernel
theorem dX5_isNameTaken_24 : decode cX5_isNameTaken 24 = .ok (.astore 4, 2) := by decide +kernel
theorem dX5_isNameTaken_26 : decode cX5_isNameTaken 26 = .ok (.aload 4, 2) := by decide +kernel
theorem dX5_isNameTaken_28 : decode cX5_isNameTaken 28 = .ok (.getfield 75, 3) := by decide +kernel
theorem dX5_isNameTaken_31 : decode cX5_isNameTaken 31 = .ok (.iload_n 1, 1) := by decide +kernel
theorem dX5_isNameTaken_32 : decode cX5_isNameTaken 32 = .ok (.if_icmp .ne 14, 3) := by decide +kernel
theorem dX5_isNameTaken_35 : decode cX5_isNameTaken 35 = .ok (.aload 4, 2) := by decide +kernel
theorem dX5_isNameTaken_37 : decode cX5_isNameTaken 37 = .ok (.getfield 79, 3) := by decide +kernel
theorem dX5_isNameTaken_40 : decode cX5_isNameTaken 40 = .ok (.iload_n 2, 1) := by decide +kernel
theorem dX5_isNameTaken_41 : decode cX5_isNameTaken 41 = .ok (.if_icmp .ne 5, 3) := by decide +kernel
theorem dX5_isNameTaken_44 : decode cX5_isNameTaken 44 = .ok (.iconst 1, 1) := by decide +kernel
theorem dX5_isNameTaken_45 : decode cX5_isNameTaken 45 = .ok (.ireturn, 1) := by decide +kernel
theorem dX5_isNameTaken_46 : decode cX5_isNameTaken 46 = .ok (.iinc 3 1, 3) := by decide +kernel
theorem dX5_isNameTaken_49 : decode cX5_isNameTaken 49 = .ok (.goto (-47), 3) := by decide +kernel
theorem dX5_isNameTaken_52 : decode cX5_isNameTaken 52 = .ok (.iconst 0, 1) := by decide +kernel
theorem dX5_isNameTaken_53 : decode cX5_isNameTaken 53 = .ok (.ireturn, 1) := by decide +kernel
theorem dX5_brokenCuts_0 : decode cX5_brokenCuts 0 = .ok (.iconst 0, 1) := by decide +kernel
theorem dX5_brokenCuts_1 : decode cX5_brokenCuts 1 = .ok (.istore_n 1, 1) := by decide +kernel
theorem dX5_brokenCuts_2 : decode cX5_brokenCuts 2 = .ok (.iconst 1, 1) := by decide +kernel
theorem dX5_brokenCuts_3 : decode cX5_brokenCuts 3 = .ok (.istore_n 2, 1) := by decide +kernel
theorem dX5_brokenCuts_4 : decode cX5_brokenCuts 4 = .ok (.iload_n 2, 1) := by decide +kernel
theorem dX5_brokenCuts_5 : decode cX5_brokenCuts 5 = .ok (.aload_n 0, 1) := by decide +kernel
theorem dX5_brokenCuts_6 : decode cX5_brokenCuts 6 = .ok (.getfield 16, 3) := by decide +kernel
theorem dX5_brokenCuts_9 : decode cX5_brokenCuts 9 = .ok (.invokevirtual 37, 3) := by decide +kernel
theorem dX5_brokenCuts_12 : decode cX5_brokenCuts 12 = .ok (.if_icmp .ge 42, 3) := by decide +kernel
theorem dX5_brokenCuts_15 : decode cX5_brokenCuts 15 = .ok (.aload_n 0, 1) := by decide +kernel
theorem dX5_brokenCuts_16 : decode cX5_brokenCuts 16 = .ok (.getfield 16, 3) := by decide +kernel
theorem dX5_brokenCuts_19 : decode cX5_brokenCuts 19 = .ok (.iload_n 2, 1) := by decide +kernel
theorem dX5_brokenCuts_20 : decode cX5_brokenCuts 20 = .ok (.iconst 1, 1) := by decide +kernel
theorem dX5_brokenCuts_21 : decode cX5_brokenCuts 21 = .ok (.isub, 1) := by decide +kernel
theorem dX5_brokenCuts_22 : decode cX5_brokenCuts 22 = .ok (.invokevirtual 116, 3) := by decide +kernel
theorem dX5_brokenCuts_25 : decode cX5_brokenCuts 25 = .ok (.checkcast 70, 3) := by decide +kernel
theorem dX5_brokenCuts_28 : decode cX5_brokenCuts 28 = .ok (.aload_n 0, 1) := by decide +kernel
theorem dX5_brokenCuts_29 : decode cX5_brokenCuts 29 = .ok (.getfield 16, 3) := by decide +kernel
theorem dX5_brokenCuts_32 : decode cX5_brokenCuts 32 = .ok (.iload_n 2, 1) := by decide +kernel
theorem dX5_brokenCuts_33 : decode cX5_brokenCuts 33 = .ok (.invokevirtual 116, 3) := by decide +kernel
theorem dX5_brokenCuts_36 : decode cX5_brokenCuts 36 = .ok (.checkcast 70, 3) := by decide +kernel
theorem dX5_brokenCuts_39 : decode cX5_brokenCuts 39 = .ok (.invokestatic 221, 3) := by decide +kernel
theorem dX5_brokenCuts_42 : decode cX5_brokenCuts 42 = .ok (.ifCond .eq 6, 3) := by decide +kernel
theorem dX5_brokenCuts_45 : decode cX5_brokenCuts 45 = .ok (.iinc 1 1, 3) := by decide +kernel
theorem dX5_brokenCuts_48 : decode cX5_brokenCuts 48 = .ok (.iinc 2 1, 3) := by decide +kernel
theorem dX5_brokenCuts_51 : decode cX5_brokenCuts 51 = .ok (.goto (-47), 3) := by decide +kernel
theorem dX5_brokenCuts_54 : decode cX5_brokenCuts 54 = .ok (.iload_n 1, 1) := by decide +kernel
theorem dX5_brokenCuts_55 : decode cX5_brokenCuts 55 = .ok (.ireturn, 1) := by decide +kernel
theorem dX5_boardsWith_0 : decode cX5_boardsWith 0 = .ok (.iconst 0, 1) := by decide +kernel
theorem dX5_boardsWith_1 : decode cX5_boardsWith 1 = .ok (.istore_n 2, 1) := by decide +kernel
theorem dX5_boardsWith_2 : decode cX5_boardsWith 2 = .ok (.iconst 0, 1) := by decide +kernel
theorem dX5_boardsWith_3 : decode cX5_boardsWith 3 = .ok (.istore_n 3, 1) := by decide +kernel
theorem dX5_boardsWith_4 : decode cX5_boardsWith 4 = .ok (.iload_n 3, 1) := by decide +kernel
theorem dX5_boardsWith_5 : decode cX5_boardsWith 5 = .ok (.aload_n 0, 1) := by decide +kernel
theorem dX5_boardsWith_6 : decode cX5_boardsWith 6 = .ok (.getfield 10, 3) := by decide +kernel
theorem dX5_boardsWith_9 : decode cX5_boardsWith 9 = .ok (.invokevirtual 37, 3) := by decide +kernel
theorem dX5_boardsWith_12 : decode cX5_boardsWith 12 = .ok (.if_icmp .ge 30, 3) := by decide +kernel
theorem dX5_boardsWith_15 : decode cX5_boardsWith 15 = .ok (.aload_n 0, 1) := by decide +kernel
theorem dX5_boardsWith_16 : decode cX5_boardsWith 16 = .ok (.getfield 10, 3) := by decide +kernel
theorem dX5_boardsWith_19 : decode cX5_boardsWith 19 = .ok (.iload_n 3, 1) := by decide +kernel
theorem dX5_boardsWith_20 : decode cX5_boardsWith 20 = .ok (.invokevirtual 116, 3) := by decide +kernel
theorem dX5_boardsWith_23 : decode cX5_boardsWith 23 = .ok (.checkcast 70, 3) := by decide +kernel
theorem dX5_boardsWith_26 : decode cX5_boardsWith 26 = .ok (.getfield 108, 3) := by decide +kernel
theorem dX5_boardsWith_29 : decode cX5_boardsWith 29 = .ok (.iload_n 1, 1) := by decide +kernel
theorem dX5_boardsWith_30 : decode cX5_boardsWith 30 = .ok (.if_icmp .ne 6, 3) := by decide +kernel
theorem dX5_boardsWith_33 : decode cX5_boardsWith 33 = .ok (.iinc 2 1, 3) := by decide +kernel
theorem dX5_boardsWith_36 : decode cX5_boardsWith 36 = .ok (.iinc 3 1, 3) := by decide +kernel
theorem dX5_boardsWith_39 : decode cX5_boardsWith 39 = .ok (.goto (-35), 3) := by decide +kernel
theorem dX5_boardsWith_42 : decode cX5_boardsWith 42 = .ok (.iload_n 2, 1) := by decide +kernel
theorem dX5_boardsWith_43 : decode cX5_boardsWith 43 = .ok (.ireturn, 1) := by decide +kernel
theorem dX5_notesOf_0 : decode cX5_notesOf 0 = .ok (.iconst 0, 1) := by decide +kernel
theorem dX5_notesOf_1 : decode cX5_notesOf 1 = .ok (.istore_n 2, 1) := by decide +kernel
theorem dX5_notesOf_2 : decode cX5_notesOf 2 = .ok (.iconst 0, 1) := by decide +kernel
theorem dX5_notesOf_3 : decode cX5_notesOf 3 = .ok (.istore_n 3, 1) := by decide +kernel
theorem dX5_notesOf_4 : decode cX5_notesOf 4 = .ok (.iload_n 3, 1) := by decide +kernel
theorem dX5_notesOf_5 : decode cX5_notesOf 5 = .ok (.aload_n 0, 1) := by decide +kernel
theorem dX5_notesOf_6 : decode cX5_notesOf 6 = .ok (.getfield 19, 3) := by decide +kernel
theorem dX5_notesOf_9 : decode cX5_notesOf 9 = .ok (.invokevirtual 37, 3) := by decide +kernel
theorem dX5_notesOf_12 : decode cX5_notesOf 12 = .ok (.if_icmp .ge 30, 3) := by decide +kernel
theorem dX5_notesOf_15 : decode cX5_notesOf 15 = .ok (.aload_n 0, 1) := by decide +kernel
theorem dX5_notesOf_16 : decode cX5_notesOf 16 = .ok (.getfield 19, 3) := by decide +kernel
theorem dX5_notesOf_19 : decode cX5_notesOf 19 = .ok (.iload_n 3, 1) := by decide +kernel
theorem dX5_notesOf_20 : decode cX5_notesOf 20 = .ok (.invokevirtual 116, 3) := by decide +kernel
theorem dX5_notesOf_23 : decode cX5_notesOf 23 = .ok (.checkcast 245, 3) := by decide +kernel
theorem dX5_notesOf_26 : decode cX5_notesOf 26 = .ok (.invokevirtual 253, 3) := by decide +kernel
theorem dX5_notesOf_29 : decode cX5_notesOf 29 = .ok (.iload_n 1, 1) := by decide +kernel
theorem dX5_notesOf_30 : decode cX5_notesOf 30 = .ok (.if_icmp .ne 6, 3) := by decide +kernel
theorem dX5_notesOf_33 : decode cX5_notesOf 33 = .ok (.iinc 2 1, 3) := by decide +kernel
theorem dX5_notesOf_36 : decode cX5_notesOf 36 = .ok (.iinc 3 1, 3) := by decide +kernel
theorem dX5_notesOf_39 : decode cX5_notesOf 39 = .ok (.goto (-35), 3) := by decide +kernel
theorem dX5_notesOf_42 : decode cX5_notesOf 42 = .ok (.iload_n 2, 1) := by decide +kernel
theorem dX5_notesOf_43 : decode cX5_notesOf 43 = .ok (.ireturn, 1) := by decide +kernel
theorem dX5_setupCount_0 : decode cX5_setupCount 0 = .ok (.iconst 0, 1) := by decide +kernel
theorem dX5_setupCount_1 : decode cX5_setupCount 1 = .ok (.istore_n 2, 1) := by decide +kernel
theorem dX5_setupCount_2 : decode cX5_setupCount 2 = .ok (.iconst 0, 1) := by decide +kernel
theorem dX5_setupCount_3 : decode cX5_setupCount 3 = .ok (.istore_n 3, 1) := by decide +kernel
theorem dX5_setupCount_4 : decode cX5_setupCount 4 = .ok (.iload_n 3, 1) := by decide +kernel
theorem dX5_setupCount_5 : decode cX5_setupCount 5 = .ok (.aload_n 0, 1) := by decide +kernel
theorem dX5_setupCount_6 : decode cX5_setupCount 6 = .ok (.getfield 16, 3) := by decide +kernel
theorem dX5_setupCount_9 : decode cX5_setupCount 9 = .ok (.invokevirtual 37, 3) := by decide +kernel
theorem dX5_setupCount_12 : decode cX5_setupCount 12 = .ok (.if_icmp .ge 42, 3) := by decide +kernel
theorem dX5_setupCount_15 : decode cX5_setupCount 15 = .ok (.aload_n 0, 1) := by decide +kernel
theorem dX5_setupCount_16 : decode cX5_setupCount 16 = .ok (.getfield 16, 3) := by decide +kernel
theorem dX5_setupCount_19 : decode cX5_setupCount 19 = .ok (.iload_n 3, 1) := by decide +kernel
theorem dX5_setupCount_20 : decode cX5_setupCount 20 = .ok (.invokevirtual 116, 3) := by decide +kernel
theorem dX5_setupCount_23 : decode cX5_setupCount 23 = .ok (.checkcast 70, 3) := by decide +kernel
theorem dX5_setupCount_26 : decode cX5_setupCount 26 = .ok (.astore 4, 2) := by decide +kernel
theorem dX5_setupCount_28 : decode cX5_setupCount 28 = .ok (.aload 4, 2) := by decide +kernel
theorem dX5_setupCount_30 : decode cX5_setupCount 30 = .ok (.getfield 273, 3) := by decide +kernel
theorem dX5_setupCount_33 : decode cX5_setupCount 33 = .ok (.ifCond .ne 7, 3) := by decide +kernel
theorem dX5_setupCount_36 : decode cX5_setupCount 36 = .ok (.iload_n 1, 1) := by decide +kernel
theorem dX5_setupCount_37 : decode cX5_setupCount 37 = .ok (.ifCond .ne 11, 3) := by decide +kernel
theorem dX5_setupCount_40 : decode cX5_setupCount 40 = .ok (.iload_n 2, 1) := by decide +kernel
theorem dX5_setupCount_41 : decode cX5_setupCount 41 = .ok (.aload 4, 2) := by decide +kernel
theorem dX5_setupCount_43 : decode cX5_setupCount 43 = .ok (.invokevirtual 362, 3) := by decide +kernel
theorem dX5_setupCount_46 : decode cX5_setupCount 46 = .ok (.ior, 1) := by decide +kernel
theorem dX5_setupCount_47 : decode cX5_setupCount 47 = .ok (.istore_n 2, 1) := by decide +kernel
theorem dX5_setupCount_48 : decode cX5_setupCount 48 = .ok (.iinc 3 1, 3) := by decide +kernel
theorem dX5_setupCount_51 : decode cX5_setupCount 51 = .ok (.goto (-47), 3) := by decide +kernel
theorem dX5_setupCount_54 : decode cX5_setupCount 54 = .ok (.iload_n 2, 1) := by decide +kernel
theorem dX5_setupCount_55 : decode cX5_setupCount 55 = .ok (.invokestatic 157, 3) := by decide +kernel
theorem dX5_setupCount_58 : decode cX5_setupCount 58 = .ok (.ireturn, 1) := by decide +kernel
theorem dX5_isBrokenBetween_0 : decode cX5_isBrokenBetween 0 = .ok (.aload_n 0, 1) := by decide +kernel
theorem dX5_isBrokenBetween_1 : decode cX5_isBrokenBetween 1 = .ok (.aload_n 1, 1) := by decide +kernel
theorem dX5_isBrokenBetween_2 : decode cX5_isBrokenBetween 2 = .ok (.invokestatic 201, 3) := by decide +kernel
theorem dX5_isBrokenBetween_5 : decode cX5_isBrokenBetween 5 = .ok (.istore_n 2, 1) := by decide +kernel
theorem dX5_isBrokenBetween_6 : decode cX5_isBrokenBetween 6 = .ok (.iload_n 2, 1) := by decide +kernel
theorem dX5_isBrokenBetween_7 : decode cX5_isBrokenBetween 7 = .ok (.bipush 45, 2) := by decide +kernel
theorem dX5_isBrokenBetween_9 : decode cX5_isBrokenBetween 9 = .ok (.if_icmp .eq 16, 3) := by decide +kernel
theorem dX5_isBrokenBetween_12 : decode cX5_isBrokenBetween 12 = .ok (.iload_n 2, 1) := by decide +kernel
theorem dX5_isBrokenBetween_13 : decode cX5_isBrokenBetween 13 = .ok (.aload_n 1, 1) := by decide +kernel
theorem dX5_isBrokenBetween_14 : decode cX5_isBrokenBetween 14 = .ok (.aload_n 0, 1) := by decide +kernel
theorem dX5_isBrokenBetween_15 : decode cX5_isBrokenBetween 15 = .ok (.invokevirtual 207, 3) := by decide +kernel
theorem dX5_isBrokenBetween_18 : decode cX5_isBrokenBetween 18 = .ok (.if_icmp .eq 7, 3) := by decide +kernel
theorem dX5_isBrokenBetween_21 : decode cX5_isBrokenBetween 21 = .ok (.iconst 1, 1) := by decide +kernel
theorem dX5_isBrokenBetween_22 : decode cX5_isBrokenBetween 22 = .ok (.goto 4, 3) := by decide +kernel
theorem dX5_isBrokenBetween_25 : decode cX5_isBrokenBetween 25 = .ok (.iconst 0, 1) := by decide +kernel
theorem dX5_isBrokenBetween_26 : decode cX5_isBrokenBetween 26 = .ok (.ireturn, 1) := by decide +kernel
theorem dX5_faultBetween_0 : decode cX5_faultBetween 0 = .ok (.aload_n 0, 1) := by decide +kernel
theorem dX5_faultBetween_1 : decode cX5_faultBetween 1 = .ok (.aload_n 1, 1) := by decide +kernel
theorem dX5_faultBetween_2 : decode cX5_faultBetween 2 = .ok (.invokestatic 365, 3) := by decide +kernel
theorem dX5_faultBetween_5 : decode cX5_faultBetween 5 = .ok (.ifCond .eq 6, 3) := by decide +kernel
theorem dX5_faultBetween_8 : decode cX5_faultBetween 8 = .ok (.bipush 120, 2) := by decide +kernel
theorem dX5_faultBetween_10 : decode cX5_faultBetween 10 = .ok (.ireturn, 1) := by decide +kernel
theorem dX5_faultBetween_11 : decode cX5_faultBetween 11 = .ok (.aload_n 0, 1) := by decide +kernel
theorem dX5_faultBetween_12 : decode cX5_faultBetween 12 = .ok (.aload_n 1, 1) := by decide +kernel
theorem dX5_faultBetween_13 : decode cX5_faultBetween 13 = .ok (.invokestatic 368, 3) := by decide +kernel
theorem dX5_faultBetween_16 : decode cX5_faultBetween 16 = .ok (.ifCond .eq 6, 3) := by decide +kernel
theorem dX5_faultBetween_19 : decode cX5_faultBetween 19 = .ok (.bipush 106, 2) := by decide +kernel
theorem dX5_faultBetween_21 : decode cX5_faultBetween 21 = .ok (.ireturn, 1) := by decide +kernel
theorem dX5_faultBetween_22 : decode cX5_faultBetween 22 = .ok (.aload_n 0, 1) := by decide +kernel
theorem dX5_faultBetween_23 : decode cX5_faultBetween 23 = .ok (.getfield 148, 3) := by decide +kernel
theorem dX5_faultBetween_26 : decode cX5_faultBetween 26 = .ok (.aload_n 1, 1) := by decide +kernel
theorem dX5_faultBetween_27 : decode cX5_faultBetween 27 = .ok (.getfield 148, 3) := by decide +kernel
theorem dX5_faultBetween_30 : decode cX5_faultBetween 30 = .ok (.invokestatic 371, 3) := by decide +kernel
theorem dX5_faultBetween_33 : decode cX5_faultBetween 33 = .ok (.ifCond .eq 6, 3) := by decide +kernel
theorem dX5_faultBetween_36 : decode cX5_faultBetween 36 = .ok (.bipush 103, 2) := by decide +kernel
theorem dX5_faultBetween_38 : decode cX5_faultBetween 38 = .ok (.ireturn, 1) := by decide +kernel
theorem dX5_faultBetween_39 : decode cX5_faultBetween 39 = .ok (.iconst 0, 1) := by decide +kernel
theorem dX5_faultBetween_40 : decode cX5_faultBetween 40 = .ok (.istore_n 2, 1) := by decide +kernel
theorem dX5_faultBetween_41 : decode cX5_faultBetween 41 = .ok (.iload_n 2, 1) := by decide +kernel
theorem dX5_faultBetween_42 : decode cX5_faultBetween 42 = .ok (.iconst 4, 1) := by decide +kernel
theorem dX5_faultBetween_43 : decode cX5_faultBetween 43 = .ok (.if_icmp .ge 27, 3) := by decide +kernel
theorem dX5_faultBetween_46 : decode cX5_faultBetween 46 = .ok (.aload_n 0, 1) := by decide +kernel
theorem dX5_faultBetween_47 : decode cX5_faultBetween 47 = .ok (.getfield 148, 3) := by decide +kernel
theorem dX5_faultBetween_50 : decode cX5_faultBetween 50 = .ok (.aload_n 1, 1) := by decide +kernel
theorem dX5_faultBetween_51 : decode cX5_faultBetween 51 = .ok (.getfield 148, 3) := by decide +kernel
theorem dX5_faultBetween_54 : decode cX5_faultBetween 54 = .ok (.iload_n 2, 1) := by decide +kernel
theorem dX5_faultBetween_55 : decode cX5_faultBetween 55 = .ok (.invokestatic 375, 3) := by decide +kernel
theorem dX5_faultBetween_58 : decode cX5_faultBetween 58 = .ok (.ifCond .eq 6, 3) := by decide +kernel
theorem dX5_faultBetween_61 : decode cX5_faultBetween 61 = .ok (.bipush 101, 2) := by decide +kernel
theorem dX5_faultBetween_63 : decode cX5_faultBetween 63 = .ok (.ireturn, 1) := by decide +kernel
theorem dX5_faultBetween_64 : decode cX5_faultBetween 64 = .ok (.iinc 2 1, 3) := by decide +kernel
theorem dX5_faultBetween_67 : decode cX5_faultBetween 67 = .ok (.goto (-26), 3) := by decide +kernel
theorem dX5_faultBetween_70 : decode cX5_faultBetween 70 = .ok (.iconst 0, 1) := by decide +kernel
theorem dX5_faultBetween_71 : decode cX5_faultBetween 71 = .ok (.istore_n 2, 1) := by decide +kernel
theorem dX5_faultBetween_72 : decode cX5_faultBetween 72 = .ok (.iload_n 2, 1) := by decide +kernel
theorem dX5_faultBetween_73 : decode cX5_faultBetween 73 = .ok (.iconst 4, 1) := by decide +kernel
theorem dX5_faultBetween_74 : decode cX5_faultBetween 74 = .ok (.if_icmp .ge 27, 3) := by decide +kernel
theorem dX5_faultBetween_77 : decode cX5_faultBetween 77 = .ok (.aload_n 0, 1) := by decide +kernel
theorem dX5_faultBetween_78 : decode cX5_faultBetween 78 = .ok (.getfield 148, 3) := by decide +kernel
theorem dX5_faultBetween_81 : decode cX5_faultBetween 81 = .ok (.aload_n 1, 1) := by decide +kernel
theorem dX5_faultBetween_82 : decode cX5_faultBetween 82 = .ok (.getfield 148, 3) := by decide +kernel
theorem dX5_faultBetween_85 : decode cX5_faultBetween 85 = .ok (.iload_n 2, 1) := by decide +kernel
theorem dX5_faultBetween_86 : decode cX5_faultBetween 86 = .ok (.invokestatic 379, 3) := by decide +kernel
theorem dX5_faultBetween_89 : decode cX5_faultBetween 89 = .ok (.ifCond .eq 6, 3) := by decide +kernel
theorem dX5_faultBetween_92 : decode cX5_faultBetween 92 = .ok (.bipush 109, 2) := by decide +kernel
theorem dX5_faultBetween_94 : decode cX5_faultBetween 94 = .ok (.ireturn, 1) := by decide +kernel
theorem dX5_faultBetween_95 : decode cX5_faultBetween 95 = .ok (.iinc 2 1, 3) := by decide +kernel
theorem dX5_faultBetween_98 : decode cX5_faultBetween 98 = .ok (.goto (-26), 3) := by decide +kernel
theorem dX5_faultBetween_101 : decode cX5_faultBetween 101 = .ok (.bipush 45, 2) := by decide +kernel
theorem dX5_faultBetween_103 : decode cX5_faultBetween 103 = .ok (.ireturn, 1) := by decide +kernel
theorem dX5_isAcrossLine_0 : decode cX5_isAcrossLine 0 = .ok (.aload_n 0, 1) := by decide +kernel
theorem dX5_isAcrossLine_1 : decode cX5_isAcrossLine 1 = .ok (.getfield 382, 3) := by decide +kernel
theorem dX5_isAcrossLine_4 : decode cX5_isAcrossLine 4 = .ok (.bipush 48, 2) := by decide +kernel
theorem dX5_isAcrossLine_6 : decode cX5_isAcrossLine 6 = .ok (.if_icmp .eq 27, 3) := by decide +kernel
theorem dX5_isAcrossLine_9 : decode cX5_isAcrossLine 9 = .ok (.aload_n 1, 1) := by decide +kernel
theorem dX5_isAcrossLine_10 : decode cX5_isAcrossLine 10 = .ok (.getfield 382, 3) := by decide +kernel
theorem dX5_isAcrossLine_13 : decode cX5_isAcrossLine 13 = .ok (.bipush 48, 2) := by decide +kernel
theorem dX5_isAcrossLine_15 : decode cX5_isAcrossLine 15 = .ok (.if_icmp .eq 18, 3) := by decide +kernel
theorem dX5_isAcrossLine_18 : decode cX5_isAcrossLine 18 = .ok (.aload_n 0, 1) := by decide +kernel
theorem dX5_isAcrossLine_19 : decode cX5_isAcrossLine 19 = .ok (.getfield 382, 3) := by decide +kernel
theorem dX5_isAcrossLine_22 : decode cX5_isAcrossLine 22 = .ok (.aload_n 1, 1) := by decide +kernel
theorem dX5_isAcrossLine_23 : decode cX5_isAcrossLine 23 = .ok (.getfield 382, 3) := by decide +kernel
theorem dX5_isAcrossLine_26 : decode cX5_isAcrossLine 26 = .ok (.if_icmp .eq 7, 3) := by decide +kernel
theorem dX5_isAcrossLine_29 : decode cX5_isAcrossLine 29 = .ok (.iconst 1, 1) := by decide +kernel
theorem dX5_isAcrossLine_30 : decode cX5_isAcrossLine 30 = .ok (.goto 4, 3) := by decide +kernel
theorem dX5_isAcrossLine_33 : decode cX5_isAcrossLine 33 = .ok (.iconst 0, 1) := by decide +kernel
theorem dX5_isAcrossLine_34 : decode cX5_isAcrossLine 34 = .ok (.ireturn, 1) := by decide +kernel
theorem dX5_isJump_0 : decode cX5_isJump 0 = .ok (.aload_n 0, 1) := by decide +kernel
theorem dX5_isJump_1 : decode cX5_isJump 1 = .ok (.getfield 148, 3) := by decide +kernel
theorem dX5_isJump_4 : decode cX5_isJump 4 = .ok (.invokevirtual 152, 3) := by decide +kernel
theorem dX5_isJump_7 : decode cX5_isJump 7 = .ok (.istore_n 2, 1) := by decide +kernel
theorem dX5_isJump_8 : decode cX5_isJump 8 = .ok (.aload_n 0, 1) := by decide +kernel
theorem dX5_isJump_9 : decode cX5_isJump 9 = .ok (.getfield 382, 3) := by decide +kernel
theorem dX5_isJump_12 : decode cX5_isJump 12 = .ok (.aload_n 1, 1) := by decide +kernel
theorem dX5_isJump_13 : decode cX5_isJump 13 = .ok (.getfield 382, 3) := by decide +kernel
theorem dX5_isJump_16 : decode cX5_isJump 16 = .ok (.if_icmp .ne 33, 3) := by decide +kernel
theorem dX5_isJump_19 : decode cX5_isJump 19 = .ok (.aload_n 0, 1) := by decide +kernel
theorem dX5_isJump_20 : decode cX5_isJump 20 = .ok (.getfield 385, 3) := by decide +kernel
theorem dX5_isJump_23 : decode cX5_isJump 23 = .ok (.aload_n 1, 1) := by decide +kernel
theorem dX5_isJump_24 : decode cX5_isJump 24 = .ok (.getfield 385, 3) := by decide +kernel
theorem dX5_isJump_27 : decode cX5_isJump 27 = .ok (.if_icmp .ne 22, 3) := by decide +kernel
theorem dX5_isJump_30 : decode cX5_isJump 30 = .ok (.iload_n 2, 1) := by decide +kernel
theorem dX5_isJump_31 : decode cX5_isJump 31 = .ok (.ifCond .eq 18, 3) := by decide +kernel
theorem dX5_isJump_34 : decode cX5_isJump 34 = .ok (.iload_n 2, 1) := by decide +kernel
theorem dX5_isJump_35 : decode cX5_isJump 35 = .ok (.aload_n 1, 1) := by decide +kernel
theorem dX5_isJump_36 : decode cX5_isJump 36 = .ok (.getfield 148, 3) := by decide +kernel
theorem dX5_isJump_39 : decode cX5_isJump 39 = .ok (.invokevirtual 152, 3) := by decide +kernel
theorem dX5_isJump_42 : decode cX5_isJump 42 = .ok (.if_icmp .ne 7, 3) := by decide +kernel
theorem dX5_isJump_45 : decode cX5_isJump 45 = .ok (.iconst 1, 1) := by decide +kernel
theorem dX5_isJump_46 : decode cX5_isJump 46 = .ok (.goto 4, 3) := by decide +kernel
theorem dX5_isJump_49 : decode cX5_isJump 49 = .ok (.iconst 0, 1) := by decide +kernel
theorem dX5_isJump_50 : decode cX5_isJump 50 = .ok (.ireturn, 1) := by decide +kernel
theorem dX5_areGazesUnmatched_0 : decode cX5_areGazesUnmatched 0 = .ok (.aload_n 0, 1) := by decide +kernel
theorem dX5_areGazesUnmatched_1 : decode cX5_areGazesUnmatched 1 = .ok (.invokevirtual 388, 3) := by decide +kernel
theorem dX5_areGazesUnmatched_4 : decode cX5_areGazesUnmatched 4 = .ok (.istore_n 2, 1) := by decide +kernel
theorem dX5_areGazesUnmatched_5 : decode cX5_areGazesUnmatched 5 = .ok (.aload_n 1, 1) := by decide +kernel
theorem dX5_areGazesUnmatched_6 : decode cX5_areGazesUnmatched 6 = .ok (.invokevirtual 388, 3) := by decide +kernel
theorem dX5_areGazesUnmatched_9 : decode cX5_areGazesUnmatched 9 = .ok (.istore_n 3, 1) := by decide +kernel
theorem dX5_areGazesUnmatched_10 : decode cX5_areGazesUnmatched 10 = .ok (.iload_n 2, 1) := by decide +kernel
theorem dX5_areGazesUnmatched_11 : decode cX5_areGazesUnmatched 11 = .ok (.iconst (-1), 1) := by decide +kernel
theorem dX5_areGazesUnmatched_12 : decode cX5_areGazesUnmatched 12 = .ok (.if_icmp .eq 13, 3) := by decide +kernel
theorem dX5_areGazesUnmatched_15 : decode cX5_areGazesUnmatched 15 = .ok (.iload_n 3, 1) := by decide +kernel
theorem dX5_areGazesUnmatched_16 : decode cX5_areGazesUnmatched 16 = .ok (.iconst (-1), 1) := by decide +kernel
theorem dX5_areGazesUnmatched_17 : decode cX5_areGazesUnmatched 17 = .ok (.if_icmp .eq 8, 3) := by decide +kernel
theorem dX5_areGazesUnmatched_20 : decode cX5_areGazesUnmatched 20 = .ok (.iload_n 2, 1) := by decide +kernel
theorem dX5_areGazesUnmatched_21 : decode cX5_areGazesUnmatched 21 = .ok (.iload_n 3, 1) := by decide +kernel
theorem dX5_areGazesUnmatched_22 : decode cX5_areGazesUnmatched 22 = .ok (.if_icmp .ne 5, 3) := by decide +kernel
theorem dX5_areGazesUnmatched_25 : decode cX5_areGazesUnmatched 25 = .ok (.iconst 0, 1) := by decide +kernel
theorem dX5_areGazesUnmatched_26 : decode cX5_areGazesUnmatched 26 = .ok (.ireturn, 1) := by decide +kernel
theorem dX5_areGazesUnmatched_27 : decode cX5_areGazesUnmatched 27 = .ok (.aload_n 0, 1) := by decide +kernel
theorem dX5_areGazesUnmatched_28 : decode cX5_areGazesUnmatched 28 = .ok (.getfield 391, 3) := by decide +kernel
theorem dX5_areGazesUnmatched_31 : decode cX5_areGazesUnmatched 31 = .ok (.iload_n 2, 1) := by decide +kernel
theorem dX5_areGazesUnmatched_32 : decode cX5_areGazesUnmatched 32 = .ok (.caload, 1) := by decide +kernel
theorem dX5_areGazesUnmatched_33 : decode cX5_areGazesUnmatched 33 = .ok (.istore 4, 2) := by decide +kernel
theorem dX5_areGazesUnmatched_35 : decode cX5_areGazesUnmatched 35 = .ok (.aload_n 1, 1) := by decide +kernel
theorem dX5_areGazesUnmatched_36 : decode cX5_areGazesUnmatched 36 = .ok (.getfield 391, 3) := by decide +kernel
theorem dX5_areGazesUnmatched_39 : decode cX5_areGazesUnmatched 39 = .ok (.iload_n 3, 1) := by decide +kernel
theorem dX5_areGazesUnmatched_40 : decode cX5_areGazesUnmatched 40 = .ok (.caload, 1) := by decide +kernel
theorem dX5_areGazesUnmatched_41 : decode cX5_areGazesUnmatched 41 = .ok (.istore 5, 2) := by decide +kernel
theorem dX5_areGazesUnmatched_43 : decode cX5_areGazesUnmatched 43 = .ok (.iload 4, 2) := by decide +kernel
theorem dX5_areGazesUnmatched_45 : decode cX5_areGazesUnmatched 45 = .ok (.bipush 108, 2) := by decide +kernel
theorem dX5_areGazesUnmatched_47 : decode cX5_areGazesUnmatched 47 = .ok (.if_icmp .ne 10, 3) := by decide +kernel
theorem dX5_areGazesUnmatched_50 : decode cX5_areGazesUnmatched 50 = .ok (.iload 5, 2) := by decide +kernel
theorem dX5_areGazesUnmatched_52 : decode cX5_areGazesUnmatched 52 = .ok (.bipush 114, 2) := by decide +kernel
theorem dX5_areGazesUnmatched_54 : decode cX5_areGazesUnmatched 54 = .ok (.if_icmp .eq 17, 3) := by decide +kernel
theorem dX5_areGazesUnmatched_57 : decode cX5_areGazesUnmatched 57 = .ok (.iload 4, 2) := by decide +kernel
theorem dX5_areGazesUnmatched_59 : decode cX5_areGazesUnmatched 59 = .ok (.bipush 114, 2) := by decide +kernel
theorem dX5_areGazesUnmatched_61 : decode cX5_areGazesUnmatched 61 = .ok (.if_icmp .ne 14, 3) := by decide +kernel
theorem dX5_areGazesUnmatched_64 : decode cX5_areGazesUnmatched 64 = .ok (.iload 5, 2) := by decide +kernel
theorem dX5_areGazesUnmatched_66 : decode cX5_areGazesUnmatched 66 = .ok (.bipush 108, 2) := by decide +kernel
theorem dX5_areGazesUnmatched_68 : decode cX5_areGazesUnmatched 68 = .ok (.if_icmp .ne 7, 3) := by decide +kernel
theorem dX5_areGazesUnmatched_71 : decode cX5_areGazesUnmatched 71 = .ok (.iconst 1, 1) := by decide +kernel
theorem dX5_areGazesUnmatched_72 : decode cX5_areGazesUnmatched 72 = .ok (.goto 4, 3) := by decide +kernel
theorem dX5_areGazesUnmatched_75 : decode cX5_areGazesUnmatched 75 = .ok (.iconst 0, 1) := by decide +kernel
theorem dX5_areGazesUnmatched_76 : decode cX5_areGazesUnmatched 76 = .ok (.istore 6, 2) := by decide +kernel
theorem dX5_areGazesUnmatched_78 : decode cX5_areGazesUnmatched 78 = .ok (.iload 6, 2) := by decide +kernel
theorem dX5_areGazesUnmatched_80 : decode cX5_areGazesUnmatched 80 = .ok (.ifCond .ne 21, 3) := by decide +kernel
theorem dX5_areGazesUnmatched_83 : decode cX5_areGazesUnmatched 83 = .ok (.iload 4, 2) := by decide +kernel
theorem dX5_areGazesUnmatched_85 : decode cX5_areGazesUnmatched 85 = .ok (.bipush 99, 2) := by decide +kernel
theorem dX5_areGazesUnmatched_87 : decode cX5_areGazesUnmatched 87 = .ok (.if_icmp .ne 10, 3) := by decide +kernel
theorem dX5_areGazesUnmatched_90 : decode cX5_areGazesUnmatched 90 = .ok (.iload 5, 2) := by decide +kernel
theorem dX5_areGazesUnmatched_92 : decode cX5_areGazesUnmatched 92 = .ok (.bipush 99, 2) := by decide +kernel
theorem dX5_areGazesUnmatched_94 : decode cX5_areGazesUnmatched 94 = .ok (.if_icmp .eq 7, 3) := by decide +kernel
theorem dX5_areGazesUnmatched_97 : decode cX5_areGazesUnmatched 97 = .ok (.iconst 1, 1) := by decide +kernel
theorem dX5_areGazesUnmatched_98 : decode cX5_areGazesUnmatched 98 = .ok (.goto 4, 3) := by decide +kernel
theorem dX5_areGazesUnmatched_101 : decode cX5_areGazesUnmatched 101 = .ok (.iconst 0, 1) := by decide +kernel
theorem dX5_areGazesUnmatched_102 : decode cX5_areGazesUnmatched 102 = .ok (.ireturn, 1) := by decide +kernel
theorem dX5_isBackByTheSameEdge_0 : decode cX5_isBackByTheSameEdge 0 = .ok (.aload_n 0, 1) := by decide +kernel
theorem dX5_isBackByTheSameEdge_1 : decode cX5_isBackByTheSameEdge 1 = .ok (.getfield 174, 3) := by decide +kernel
theorem dX5_isBackByTheSameEdge_4 : decode cX5_isBackByTheSameEdge 4 = .ok (.iload_n 2, 1) := by decide +kernel
theorem dX5_isBackByTheSameEdge_5 : decode cX5_isBackByTheSameEdge 5 = .ok (.caload, 1) := by decide +kernel
theorem dX5_isBackByTheSameEdge_6 : decode cX5_isBackByTheSameEdge 6 = .ok (.istore_n 3, 1) := by decide +kernel
theorem dX5_isBackByTheSameEdge_7 : decode cX5_isBackByTheSameEdge 7 = .ok (.iload_n 3, 1) := by decide +kernel
theorem dX5_isBackByTheSameEdge_8 : decode cX5_isBackByTheSameEdge 8 = .ok (.bipush 45, 2) := by decide +kernel
theorem dX5_isBackByTheSameEdge_10 : decode cX5_isBackByTheSameEdge 10 = .ok (.if_icmp .eq 17, 3) := by decide +kernel
theorem dX5_isBackByTheSameEdge_13 : decode cX5_isBackByTheSameEdge 13 = .ok (.iload_n 3, 1) := by decide +kernel
theorem dX5_isBackByTheSameEdge_14 : decode cX5_isBackByTheSameEdge 14 = .ok (.aload_n 1, 1) := by decide +kernel
theorem dX5_isBackByTheSameEdge_15 : decode cX5_isBackByTheSameEdge 15 = .ok (.getfield 166, 3) := by decide +kernel
theorem dX5_isBackByTheSameEdge_18 : decode cX5_isBackByTheSameEdge 18 = .ok (.iload_n 2, 1) := by decide +kernel
theorem dX5_isBackByTheSameEdge_19 : decode cX5_isBackByTheSameEdge 19 = .ok (.caload, 1) := by decide +kernel
theorem dX5_isBackByTheSameEdge_20 : decode cX5_isBackByTheSameEdge 20 = .ok (.if_icmp .ne 7, 3) := by decide +kernel
theorem dX5_isBackByTheSameEdge_23 : decode cX5_isBackByTheSameEdge 23 = .ok (.iconst 1, 1) := by decide +kernel
theorem dX5_isBackByTheSameEdge_24 : decode cX5_isBackByTheSameEdge 24 = .ok (.goto 4, 3) := by decide +kernel
theorem dX5_isBackByTheSameEdge_27 : decode cX5_isBackByTheSameEdge 27 = .ok (.iconst 0, 1) := by decide +kernel
theorem dX5_isBackByTheSameEdge_28 : decode cX5_isBackByTheSameEdge 28 = .ok (.ireturn, 1) := by decide +kernel
theorem dX5_isMisplaced_0 : decode cX5_isMisplaced 0 = .ok (.aload_n 0, 1) := by decide +kernel
theorem dX5_isMisplaced_1 : decode cX5_isMisplaced 1 = .ok (.getfield 174, 3) := by decide +kernel
theorem dX5_isMisplaced_4 : decode cX5_isMisplaced 4 = .ok (.iload_n 2, 1) := by decide +kernel
theorem dX5_isMisplaced_5 : decode cX5_isMisplaced 5 = .ok (.caload, 1) := by decide +kernel
theorem dX5_isMisplaced_6 : decode cX5_isMisplaced 6 = .ok (.bipush 45, 2) := by decide +kernel
theorem dX5_isMisplaced_8 : decode cX5_isMisplaced 8 = .ok (.if_icmp .ne 14, 3) := by decide +kernel
theorem dX5_isMisplaced_11 : decode cX5_isMisplaced 11 = .ok (.aload_n 1, 1) := by decide +kernel
theorem dX5_isMisplaced_12 : decode cX5_isMisplaced 12 = .ok (.getfield 166, 3) := by decide +kernel
theorem dX5_isMisplaced_15 : decode cX5_isMisplaced 15 = .ok (.iload_n 2, 1) := by decide +kernel
theorem dX5_isMisplaced_16 : decode cX5_isMisplaced 16 = .ok (.caload, 1) := by decide +kernel
theorem dX5_isMisplaced_17 : decode cX5_isMisplaced 17 = .ok (.bipush 45, 2) := by decide +kernel
theorem dX5_isMisplaced_19 : decode cX5_isMisplaced 19 = .ok (.if_icmp .eq 5, 3) := by decide +kernel
theorem dX5_isMisplaced_22 : decode cX5_isMisplaced 22 = .ok (.iconst 0, 1) := by decide +kernel
theorem dX5_isMisplaced_23 : decode cX5_isMisplaced 23 = .ok (.ireturn, 1) := by decide +kernel
theorem dX5_isMisplaced_24 : decode cX5_isMisplaced 24 = .ok (.aload_n 0, 1) := by decide +kernel
theorem dX5_isMisplaced_25 : decode cX5_isMisplaced 25 = .ok (.getfield 394, 3) := by decide +kernel
theorem dX5_isMisplaced_28 : decode cX5_isMisplaced 28 = .ok (.iload_n 2, 1) := by decide +kernel
theorem dX5_isMisplaced_29 : decode cX5_isMisplaced 29 = .ok (.caload, 1) := by decide +kernel
theorem dX5_isMisplaced_30 : decode cX5_isMisplaced 30 = .ok (.istore_n 3, 1) := by decide +kernel
theorem dX5_isMisplaced_31 : decode cX5_isMisplaced 31 = .ok (.aload_n 1, 1) := by decide +kernel
theorem dX5_isMisplaced_32 : decode cX5_isMisplaced 32 = .ok (.getfield 394, 3) := by decide +kernel
theorem dX5_isMisplaced_35 : decode cX5_isMisplaced 35 = .ok (.iload_n 2, 1) := by decide +kernel
theorem dX5_isMisplaced_36 : decode cX5_isMisplaced 36 = .ok (.caload, 1) := by decide +kernel
theorem dX5_isMisplaced_37 : decode cX5_isMisplaced 37 = .ok (.istore 4, 2) := by decide +kernel
theorem dX5_isMisplaced_39 : decode cX5_isMisplaced 39 = .ok (.iload_n 3, 1) := by decide +kernel
theorem dX5_isMisplaced_40 : decode cX5_isMisplaced 40 = .ok (.bipush 108, 2) := by decide +kernel
theorem dX5_isMisplaced_42 : decode cX5_isMisplaced 42 = .ok (.if_icmp .ne 10, 3) := by decide +kernel
theorem dX5_isMisplaced_45 : decode cX5_isMisplaced 45 = .ok (.iload 4, 2) := by decide +kernel
theorem dX5_isMisplaced_47 : decode cX5_isMisplaced 47 = .ok (.bipush 114, 2) := by decide +kernel
theorem dX5_isMisplaced_49 : decode cX5_isMisplaced 49 = .ok (.if_icmp .eq 16, 3) := by decide +kernel
theorem dX5_isMisplaced_52 : decode cX5_isMisplaced 52 = .ok (.iload_n 3, 1) := by decide +kernel
theorem dX5_isMisplaced_53 : decode cX5_isMisplaced 53 = .ok (.bipush 114, 2) := by decide +kernel
theorem dX5_isMisplaced_55 : decode cX5_isMisplaced 55 = .ok (.if_icmp .ne 14, 3) := by decide +kernel
theorem dX5_isMisplaced_58 : decode cX5_isMisplaced 58 = .ok (.iload 4, 2) := by decide +kernel
theorem dX5_isMisplaced_60 : decode cX5_isMisplaced 60 = .ok (.bipush 108, 2) := by decide +kernel
theorem dX5_isMisplaced_62 : decode cX5_isMisplaced 62 = .ok (.if_icmp .ne 7, 3) := by decide +kernel
theorem dX5_isMisplaced_65 : decode cX5_isMisplaced 65 = .ok (.iconst 1, 1) := by decide +kernel
theorem dX5_isMisplaced_66 : decode cX5_isMisplaced 66 = .ok (.goto 4, 3) := by decide +kernel
theorem dX5_isMisplaced_69 : decode cX5_isMisplaced 69 = .ok (.iconst 0, 1) := by decide +kernel
theorem dX5_isMisplaced_70 : decode cX5_isMisplaced 70 = .ok (.ireturn, 1) := by decide +kernel
theorem dX5_areNamesUnlike_0 : decode cX5_areNamesUnlike 0 = .ok (.iconst 0, 1) := by decide +kernel
theorem dX5_areNamesUnlike_1 : decode cX5_areNamesUnlike 1 = .ok (.istore_n 1, 1) := by decide +kernel
theorem dX5_areNamesUnlike_2 : decode cX5_areNamesUnlike 2 = .ok (.iload_n 1, 1) := by decide +kernel
theorem dX5_areNamesUnlike_3 : decode cX5_areNamesUnlike 3 = .ok (.aload_n 0, 1) := by decide +kernel
theorem dX5_areNamesUnlike_4 : decode cX5_areNamesUnlike 4 = .ok (.getfield 16, 3) := by decide +kernel
theorem dX5_areNamesUnlike_7 : decode cX5_areNamesUnlike 7 = .ok (.invokevirtual 37, 3) := by decide +kernel
theorem dX5_areNamesUnlike_10 : decode cX5_areNamesUnlike 10 = .ok (.if_icmp .ge 68, 3) := by decide +kernel
theorem dX5_areNamesUnlike_13 : decode cX5_areNamesUnlike 13 = .ok (.iconst 0, 1) := by decide +kernel
theorem dX5_areNamesUnlike_14 : decode cX5_areNamesUnlike 14 = .ok (.istore_n 2, 1) := by decide +kernel
theorem dX5_areNamesUnlike_15 : decode cX5_areNamesUnlike 15 = .ok (.iload_n 2, 1) := by decide +kernel
theorem dX5_areNamesUnlike_16 : decode cX5_areNamesUnlike 16 = .ok (.iload_n 1, 1) := by decide +kernel
theorem dX5_areNamesUnlike_17 : decode cX5_areNamesUnlike 17 = .ok (.if_icmp .ge 55, 3) := by decide +kernel
theorem dX5_areNamesUnlike_20 : decode cX5_areNamesUnlike 20 = .ok (.aload_n 0, 1) := by decide +kernel
theorem dX5_areNamesUnlike_21 : decode cX5_areNamesUnlike 21 = .ok (.iload_n 1, 1) := by decide +kernel
theorem dX5_areNamesUnlike_22 : decode cX5_areNamesUnlike 22 = .ok (.invokevirtual 190, 3) := by decide +kernel
theorem dX5_areNamesUnlike_25 : decode cX5_areNamesUnlike 25 = .ok (.aload_n 0, 1) := by decide +kernel
theorem dX5_areNamesUnlike_26 : decode cX5_areNamesUnlike 26 = .ok (.iload_n 2, 1) := by decide +kernel
theorem dX5_areNamesUnlike_27 : decode cX5_areNamesUnlike 27 = .ok (.invokevirtual 190, 3) := by decide +kernel
theorem dX5_areNamesUnlike_30 : decode cX5_areNamesUnlike 30 = .ok (.if_icmp .ne 36, 3) := by decide +kernel
theorem dX5_areNamesUnlike_33 : decode cX5_areNamesUnlike 33 = .ok (.aload_n 0, 1) := by decide +kernel
theorem dX5_areNamesUnlike_34 : decode cX5_areNamesUnlike 34 = .ok (.getfield 16, 3) := by decide +kernel
theorem dX5_areNamesUnlike_37 : decode cX5_areNamesUnlike 37 = .ok (.iload_n 1, 1) := by decide +kernel
theorem dX5_areNamesUnlike_38 : decode cX5_areNamesUnlike 38 = .ok (.invokevirtual 116, 3) := by decide +kernel
theorem dX5_areNamesUnlike_41 : decode cX5_areNamesUnlike 41 = .ok (.checkcast 70, 3) := by decide +kernel
theorem dX5_areNamesUnlike_44 : decode cX5_areNamesUnlike 44 = .ok (.getfield 79, 3) := by decide +kernel
theorem dX5_areNamesUnlike_47 : decode cX5_areNamesUnlike 47 = .ok (.aload_n 0, 1) := by decide +kernel
theorem dX5_areNamesUnlike_48 : decode cX5_areNamesUnlike 48 = .ok (.getfield 16, 3) := by decide +kernel
theorem dX5_areNamesUnlike_51 : decode cX5_areNamesUnlike 51 = .ok (.iload_n 2, 1) := by decide +kernel
theorem dX5_areNamesUnlike_52 : decode cX5_areNamesUnlike 52 = .ok (.invokevirtual 116, 3) := by decide +kernel
theorem dX5_areNamesUnlike_55 : decode cX5_areNamesUnlike 55 = .ok (.checkcast 70, 3) := by decide +kernel
theorem dX5_areNamesUnlike_58 : decode cX5_areNamesUnlike 58 = .ok (.getfield 79, 3) := by decide +kernel
theorem dX5_areNamesUnlike_61 : decode cX5_areNamesUnlike 61 = .ok (.if_icmp .ne 5, 3) := by decide +kernel
theorem dX5_areNamesUnlike_64 : decode cX5_areNamesUnlike 64 = .ok (.iconst 0, 1) := by decide +kernel
theorem dX5_areNamesUnlike_65 : decode cX5_areNamesUnlike 65 = .ok (.ireturn, 1) := by decide +kernel
theorem dX5_areNamesUnlike_66 : decode cX5_areNamesUnlike 66 = .ok (.iinc 2 1, 3) := by decide +kernel
theorem dX5_areNamesUnlike_69 : decode cX5_areNamesUnlike 69 = .ok (.goto (-54), 3) := by decide +kernel
theorem dX5_areNamesUnlike_72 : decode cX5_areNamesUnlike 72 = .ok (.iinc 1 1, 3) := by decide +kernel
theorem dX5_areNamesUnlike_75 : decode cX5_areNamesUnlike 75 = .ok (.goto (-73), 3) := by decide +kernel
theorem dX5_areNamesUnlike_78 : decode cX5_areNamesUnlike 78 = .ok (.iconst 1, 1) := by decide +kernel
theorem dX5_areNamesUnlike_79 : decode cX5_areNamesUnlike 79 = .ok (.ireturn, 1) := by decide +kernel
theorem dX5_isEachSeenAtItsBegin_0 : decode cX5_isEachSeenAtItsBegin 0 = .ok (.iconst 0, 1) := by decide +kernel
theorem dX5_isEachSeenAtItsBegin_1 : decode cX5_isEachSeenAtItsBegin 1 = .ok (.istore_n 1, 1) := by decide +kernel
theorem dX5_isEachSeenAtItsBegin_2 : decode cX5_isEachSeenAtItsBegin 2 = .ok (.iload_n 1, 1) := by decide +kernel
theorem dX5_isEachSeenAtItsBegin_3 : decode cX5_isEachSeenAtItsBegin 3 = .ok (.aload_n 0, 1) := by decide +kernel
theorem dX5_isEachSeenAtItsBegin_4 : decode cX5_isEachSeenAtItsBegin 4 = .ok (.getfield 16, 3) := by decide +kernel
theorem dX5_isEachSeenAtItsBegin_7 : decode cX5_isEachSeenAtItsBegin 7 = .ok (.invokevirtual 37, 3) := by decide +kernel
theorem dX5_isEachSeenAtItsBegin_10 : decode cX5_isEachSeenAtItsBegin 10 = .ok (.if_icmp .ge 37, 3) := by decide +kernel
theorem dX5_isEachSeenAtItsBegin_13 : decode cX5_isEachSeenAtItsBegin 13 = .ok (.aload_n 0, 1) := by decide +kernel
theorem dX5_isEachSeenAtItsBegin_14 : decode cX5_isEachSeenAtItsBegin 14 = .ok (.aload_n 0, 1) := by decide +kernel
theorem dX5_isEachSeenAtItsBegin_15 : decode cX5_isEachSeenAtItsBegin 15 = .ok (.iload_n 1, 1) := by decide +kernel
theorem dX5_isEachSeenAtItsBegin_16 : decode cX5_isEachSeenAtItsBegin 16 = .ok (.invokevirtual 177, 3) := by decide +kernel
theorem dX5_isEachSeenAtItsBegin_19 : decode cX5_isEachSeenAtItsBegin 19 = .ok (.invokevirtual 180, 3) := by decide +kernel
theorem dX5_isEachSeenAtItsBegin_22 : decode cX5_isEachSeenAtItsBegin 22 = .ok (.aload_n 0, 1) := by decide +kernel
theorem dX5_isEachSeenAtItsBegin_23 : decode cX5_isEachSeenAtItsBegin 23 = .ok (.getfield 16, 3) := by decide +kernel
theorem dX5_isEachSeenAtItsBegin_26 : decode cX5_isEachSeenAtItsBegin 26 = .ok (.iload_n 1, 1) := by decide +kernel
theorem dX5_isEachSeenAtItsBegin_27 : decode cX5_isEachSeenAtItsBegin 27 = .ok (.invokevirtual 116, 3) := by decide +kernel
theorem dX5_isEachSeenAtItsBegin_30 : decode cX5_isEachSeenAtItsBegin 30 = .ok (.checkcast 70, 3) := by decide +kernel
theorem dX5_isEachSeenAtItsBegin_33 : decode cX5_isEachSeenAtItsBegin 33 = .ok (.getfield 90, 3) := by decide +kernel
theorem dX5_isEachSeenAtItsBegin_36 : decode cX5_isEachSeenAtItsBegin 36 = .ok (.if_icmp .eq 5, 3) := by decide +kernel
theorem dX5_isEachSeenAtItsBegin_39 : decode cX5_isEachSeenAtItsBegin 39 = .ok (.iconst 0, 1) := by decide +kernel
theorem dX5_isEachSeenAtItsBegin_40 : decode cX5_isEachSeenAtItsBegin 40 = .ok (.ireturn, 1) := by decide +kernel
theorem dX5_isEachSeenAtItsBegin_41 : decode cX5_isEachSeenAtItsBegin 41 = .ok (.iinc 1 1, 3) := by decide +kernel
theorem dX5_isEachSeenAtItsBegin_44 : decode cX5_isEachSeenAtItsBegin 44 = .ok (.goto (-42), 3) := by decide +kernel
theorem dX5_isEachSeenAtItsBegin_47 : decode cX5_isEachSeenAtItsBegin 47 = .ok (.iconst 1, 1) := by decide +kernel
theorem dX5_isEachSeenAtItsBegin_48 : decode cX5_isEachSeenAtItsBegin 48 = .ok (.ireturn, 1) := by decide +kernel
theorem dX5_doNotesSumUp_0 : decode cX5_doNotesSumUp 0 = .ok (.aload_n 0, 1) := by decide +kernel
theorem dX5_doNotesSumUp_1 : decode cX5_doNotesSumUp 1 = .ok (.bipush 111, 2) := by decide +kernel
theorem dX5_doNotesSumUp_3 : decode cX5_doNotesSumUp 3 = .ok (.invokevirtual 269, 3) := by decide +kernel
theorem dX5_doNotesSumUp_6 : decode cX5_doNotesSumUp 6 = .ok (.aload_n 0, 1) := by decide +kernel
theorem dX5_doNotesSumUp_7 : decode cX5_doNotesSumUp 7 = .ok (.bipush 100, 2) := by decide +kernel
theorem dX5_doNotesSumUp_9 : decode cX5_doNotesSumUp 9 = .ok (.invokevirtual 269, 3) := by decide +kernel
theorem dX5_doNotesSumUp_12 : decode cX5_doNotesSumUp 12 = .ok (.iadd, 1) := by decide +kernel
theorem dX5_doNotesSumUp_13 : decode cX5_doNotesSumUp 13 = .ok (.aload_n 0, 1) := by decide +kernel
theorem dX5_doNotesSumUp_14 : decode cX5_doNotesSumUp 14 = .ok (.bipush 114, 2) := by decide +kernel
theorem dX5_doNotesSumUp_16 : decode cX5_doNotesSumUp 16 = .ok (.invokevirtual 269, 3) := by decide +kernel
theorem dX5_doNotesSumUp_19 : decode cX5_doNotesSumUp 19 = .ok (.iadd, 1) := by decide +kernel
theorem dX5_doNotesSumUp_20 : decode cX5_doNotesSumUp 20 = .ok (.aload_n 0, 1) := by decide +kernel
theorem dX5_doNotesSumUp_21 : decode cX5_doNotesSumUp 21 = .ok (.bipush 115, 2) := by decide +kernel
theorem dX5_doNotesSumUp_23 : decode cX5_doNotesSumUp 23 = .ok (.invokevirtual 269, 3) := by decide +kernel
theorem dX5_doNotesSumUp_26 : decode cX5_doNotesSumUp 26 = .ok (.iadd, 1) := by decide +kernel
theorem dX5_doNotesSumUp_27 : decode cX5_doNotesSumUp 27 = .ok (.aload_n 0, 1) := by decide +kernel
theorem dX5_doNotesSumUp_28 : decode cX5_doNotesSumUp 28 = .ok (.getfield 19, 3) := by decide +kernel
theorem dX5_doNotesSumUp_31 : decode cX5_doNotesSumUp 31 = .ok (.invokevirtual 37, 3) := by decide +kernel
theorem dX5_doNotesSumUp_34 : decode cX5_doNotesSumUp 34 = .ok (.if_icmp .ne 7, 3) := by decide +kernel
theorem dX5_doNotesSumUp_37 : decode cX5_doNotesSumUp 37 = .ok (.iconst 1, 1) := by decide +kernel
theorem dX5_doNotesSumUp_38 : decode cX5_doNotesSumUp 38 = .ok (.goto 4, 3) := by decide +kernel
theorem dX5_doNotesSumUp_41 : decode cX5_doNotesSumUp 41 = .ok (.iconst 0, 1) := by decide +kernel
theorem dX5_doNotesSumUp_42 : decode cX5_doNotesSumUp 42 = .ok (.ireturn, 1) := by decide +kernel
theorem dX5_areEdgesOfMembers_0 : decode cX5_areEdgesOfMembers 0 = .ok (.iconst 0, 1) := by decide +kernel
theorem dX5_areEdgesOfMembers_1 : decode cX5_areEdgesOfMembers 1 = .ok (.istore_n 1, 1) := by decide +kernel
theorem dX5_areEdgesOfMembers_2 : decode cX5_areEdgesOfMembers 2 = .ok (.iload_n 1, 1) := by decide +kernel
theorem dX5_areEdgesOfMembers_3 : decode cX5_areEdgesOfMembers 3 = .ok (.aload_n 0, 1) := by decide +kernel
theorem dX5_areEdgesOfMembers_4 : decode cX5_areEdgesOfMembers 4 = .ok (.getfield 10, 3) := by decide +kernel
theorem dX5_areEdgesOfMembers_7 : decode cX5_areEdgesOfMembers 7 = .ok (.invokevirtual 37, 3) := by decide +kernel
theorem dX5_areEdgesOfMembers_10 : decode cX5_areEdgesOfMembers 10 = .ok (.if_icmp .ge 31, 3) := by decide +kernel
theorem dX5_areEdgesOfMembers_13 : decode cX5_areEdgesOfMembers 13 = .ok (.aload_n 0, 1) := by decide +kernel
theorem dX5_areEdgesOfMembers_14 : decode cX5_areEdgesOfMembers 14 = .ok (.getfield 10, 3) := by decide +kernel
theorem dX5_areEdgesOfMembers_17 : decode cX5_areEdgesOfMembers 17 = .ok (.iload_n 1, 1) := by decide +kernel
theorem dX5_areEdgesOfMembers_18 : decode cX5_areEdgesOfMembers 18 = .ok (.invokevirtual 116, 3) := by decide +kernel
theorem dX5_areEdgesOfMembers_21 : decode cX5_areEdgesOfMembers 21 = .ok (.checkcast 70, 3) := by decide +kernel
theorem dX5_areEdgesOfMembers_24 : decode cX5_areEdgesOfMembers 24 = .ok (.getfield 148, 3) := by decide +kernel
theorem dX5_areEdgesOfMembers_27 : decode cX5_areEdgesOfMembers 27 = .ok (.invokevirtual 397, 3) := by decide +kernel
theorem dX5_areEdgesOfMembers_30 : decode cX5_areEdgesOfMembers 30 = .ok (.ifCond .ne 5, 3) := by decide +kernel
theorem dX5_areEdgesOfMembers_33 : decode cX5_areEdgesOfMembers 33 = .ok (.iconst 0, 1) := by decide +kernel
theorem dX5_areEdgesOfMembers_34 : decode cX5_areEdgesOfMembers 34 = .ok (.ireturn, 1) := by decide +kernel
theorem dX5_areEdgesOfMembers_35 : decode cX5_areEdgesOfMembers 35 = .ok (.iinc 1 1, 3) := by decide +kernel
theorem dX5_areEdgesOfMembers_38 : decode cX5_areEdgesOfMembers 38 = .ok (.goto (-36), 3) := by decide +kernel
theorem dX5_areEdgesOfMembers_41 : decode cX5_areEdgesOfMembers 41 = .ok (.iconst 1, 1) := by decide +kernel
theorem dX5_areEdgesOfMembers_42 : decode cX5_areEdgesOfMembers 42 = .ok (.ireturn, 1) := by decide +kernel
theorem dX6_init_0 : decode cX6_init 0 = .ok (.aload_n 0, 1) := by decide +kernel
theorem dX6_init_1 : decode cX6_init 1 = .ok (.invokespecial 1, 3) := by decide +kernel
theorem dX6_init_4 : decode cX6_init 4 = .ok (.aload_n 0, 1) := by decide +kernel
theorem dX6_init_5 : decode cX6_init 5 = .ok (.bipush 24, 2) := by decide +kernel
theorem dX6_init_7 : decode cX6_init 7 = .ok (.newarray .int, 2) := by decide +kernel
theorem dX6_init_9 : decode cX6_init 9 = .ok (.putfield 7, 3) := by decide +kernel
theorem dX6_init_12 : decode cX6_init 12 = .ok (.aload_n 0, 1) := by decide +kernel
theorem dX6_init_13 : decode cX6_init 13 = .ok (.bipush 24, 2) := by decide +kernel
theorem dX6_init_15 : decode cX6_init 15 = .ok (.newarray .char, 2) := by decide +kernel
theorem dX6_init_17 : decode cX6_init 17 = .ok (.putfield 13, 3) := by decide +kernel
theorem dX6_init_20 : decode cX6_init 20 = .ok (.aload_n 0, 1) := by decide +kernel
theorem dX6_init_21 : decode cX6_init 21 = .ok (.bipush 24, 2) := by decide +kernel
theorem dX6_init_23 : decode cX6_init 23 = .ok (.newarray .int, 2) := by decide +kernel
theorem dX6_init_25 : decode cX6_init 25 = .ok (.putfield 17, 3) := by decide +kernel
theorem dX6_init_28 : decode cX6_init 28 = .ok (.aload_n 0, 1) := by decide +kernel
theorem dX6_init_29 : decode cX6_init 29 = .ok (.bipush 24, 2) := by decide +kernel
theorem dX6_init_31 : decode cX6_init 31 = .ok (.newarray .int, 2) := by decide +kernel
theorem dX6_init_33 : decode cX6_init 33 = .ok (.putfield 20, 3) := by decide +kernel
theorem dX6_init_36 : decode cX6_init 36 = .ok (.aload_n 0, 1) := by decide +kernel
theorem dX6_init_37 : decode cX6_init 37 = .ok (.bipush 24, 2) := by decide +kernel
theorem dX6_init_39 : decode cX6_init 39 = .ok (.newarray .int, 2) := by decide +kernel
theorem dX6_init_41 : decode cX6_init 41 = .ok (.putfield 23, 3) := by decide +kernel
theorem dX6_init_44 : decode cX6_init 44 = .ok (.aload_n 0, 1) := by decide +kernel
theorem dX6_init_45 : decode cX6_init 45 = .ok (.bipush 24, 2) := by decide +kernel
theorem dX6_init_47 : decode cX6_init 47 = .ok (.newarray .boolean, 2) := by decide +kernel
theorem dX6_init_49 : decode cX6_init 49 = .ok (.putfield 26, 3) := by decide +kernel
theorem dX6_init_52 : decode cX6_init 52 = .ok (.aload_n 0, 1) := by decide +kernel
theorem dX6_init_53 : decode cX6_init 53 = .ok (.bipush 24, 2) := by decide +kernel
theorem dX6_init_55 : decode cX6_init 55 = .ok (.newarray .int, 2) := by decide +kernel
theorem dX6_init_57 : decode cX6_init 57 = .ok (.putfield 30, 3) := by decide +kernel
theorem dX6_init_60 : decode cX6_init 60 = .ok (.aload_n 0, 1) := by decide +kernel
theorem dX6_init_61 : decode cX6_init 61 = .ok (.bipush 24, 2) := by decide +kernel
theorem dX6_init_63 : decode cX6_init 63 = .ok (.newarray .char, 2) := by decide +kernel
theorem dX6_init_65 : decode cX6_init 65 = .ok (.putfield 33, 3) := by decide +kernel
theorem dX6_init_68 : decode cX6_init 68 = .ok (.aload_n 0, 1) := by decide +kernel
theorem dX6_init_69 : decode cX6_init 69 = .ok (.bipush 96, 2) := by decide +kernel
theorem dX6_init_71 : decode cX6_init 71 = .ok (.newarray .char, 2) := by decide +kernel
theorem dX6_init_73 : decode cX6_init 73 = .ok (.putfield 36, 3) := by decide +kernel
theorem dX6_init_76 : decode cX6_init 76 = .ok (.aload_n 0, 1) := by decide +kernel
theorem dX6_init_77 : decode cX6_init 77 = .ok (.bipush 96, 2) := by decide +kernel
theorem dX6_init_79 : decode cX6_init 79 = .ok (.newarray .char, 2) := by decide +kernel
theorem dX6_init_81 : decode cX6_init 81 = .ok (.putfield 39, 3) := by decide +kernel
theorem dX6_init_84 : decode cX6_init 84 = .ok (.aload_n 0, 1) := by decide +kernel
theorem dX6_init_85 : decode cX6_init 85 = .ok (.bipush 96, 2) := by decide +kernel
theorem dX6_init_87 : decode cX6_init 87 = .ok (.newarray .char, 2) := by decide +kernel
theorem dX6_init_89 : decode cX6_init 89 = .ok (.putfield 42, 3) := by decide +kernel
theorem dX6_init_92 : decode cX6_init 92 = .ok (.aload_n 0, 1) := by decide +kernel
theorem dX6_init_93 : decode cX6_init 93 = .ok (.bipush 96, 2) := by decide +kernel
theorem dX6_init_95 : decode cX6_init 95 = .ok (.newarray .char, 2) := by decide +kernel
theorem dX6_init_97 : decode cX6_init 97 = .ok (.putfield 45, 3) := by decide +kernel
theorem dX6_init_100 : decode cX6_init 100 = .ok (.aload_n 0, 1) := by decide +kernel
theorem dX6_init_101 : decode cX6_init 101 = .ok (.bipush 24, 2) := by decide +kernel
theorem dX6_init_103 : decode cX6_init 103 = .ok (.newarray .char, 2) := by decide +kernel
theorem dX6_init_105 : decode cX6_init 105 = .ok (.putfield 48, 3) := by decide +kernel
theorem dX6_init_108 : decode cX6_init 108 = .ok (.aload_n 0, 1) := by decide +kernel
theorem dX6_init_109 : decode cX6_init 109 = .ok (.bipush 24, 2) := by decide +kernel
theorem dX6_init_111 : decode cX6_init 111 = .ok (.newarray .int, 2) := by decide +kernel
theorem dX6_init_113 : decode cX6_init 113 = .ok (.putfield 51, 3) := by decide +kernel
theorem dX6_init_116 : decode cX6_init 116 = .ok (.aload_n 0, 1) := by decide +kernel
theorem dX6_init_117 : decode cX6_init 117 = .ok (.bipush 24, 2) := by decide +kernel
theorem dX6_init_119 : decode cX6_init 119 = .ok (.newarray .int, 2) := by decide +kernel
theorem dX6_init_121 : decode cX6_init 121 = .ok (.putfield 54, 3) := by decide +kernel
theorem dX6_init_124 : decode cX6_init 124 = .ok (.aload_n 0, 1) := by decide +kernel
theorem dX6_init_125 : decode cX6_init 125 = .ok (.bipush 24, 2) := by decide +kernel
theorem dX6_init_127 : decode cX6_init 127 = .ok (.newarray .int, 2) := by decide +kernel
theorem dX6_init_129 : decode cX6_init 129 = .ok (.putfield 57, 3) := by decide +kernel
theorem dX6_init_132 : decode cX6_init 132 = .ok (.aload_n 0, 1) := by decide +kernel
theorem dX6_init_133 : decode cX6_init 133 = .ok (.bipush 24, 2) := by decide +kernel
theorem dX6_init_135 : decode cX6_init 135 = .ok (.newarray .int, 2) := by decide +kernel
theorem dX6_init_137 : decode cX6_init 137 = .ok (.putfield 60, 3) := by decide +kernel
theorem dX6_init_140 : decode cX6_init 140 = .ok (.aload_n 0, 1) := by decide +kernel
theorem dX6_init_141 : decode cX6_init 141 = .ok (.bipush 24, 2) := by decide +kernel
theorem dX6_init_143 : decode cX6_init 143 = .ok (.newarray .int, 2) := by decide +kernel
theorem dX6_init_145 : decode cX6_init 145 = .ok (.putfield 63, 3) := by decide +kernel
theorem dX6_init_148 : decode cX6_init 148 = .ok (.aload_n 0, 1) := by decide +kernel
theorem dX6_init_149 : decode cX6_init 149 = .ok (.bipush 40, 2) := by decide +kernel
theorem dX6_init_151 : decode cX6_init 151 = .ok (.newarray .int, 2) := by decide +kernel
theorem dX6_init_153 : decode cX6_init 153 = .ok (.putfield 66, 3) := by decide +kernel
theorem dX6_init_156 : decode cX6_init 156 = .ok (.aload_n 0, 1) := by decide +kernel
theorem dX6_init_157 : decode cX6_init 157 = .ok (.bipush 40, 2) := by decide +kernel
theorem dX6_init_159 : decode cX6_init 159 = .ok (.newarray .int, 2) := by decide +kernel
theorem dX6_init_161 : decode cX6_init 161 = .ok (.putfield 69, 3) := by decide +kernel
theorem dX6_init_164 : decode cX6_init 164 = .ok (.aload_n 0, 1) := by decide +kernel
theorem dX6_init_165 : decode cX6_init 165 = .ok (.bipush 40, 2) := by decide +kernel
theorem dX6_init_167 : decode cX6_init 167 = .ok (.newarray .char, 2) := by decide +kernel
theorem dX6_init_169 : decode cX6_init 169 = .ok (.putfield 72, 3) := by decide +kernel
theorem dX6_init_172 : decode cX6_init 172 = .ok (.aload_n 0, 1) := by decide +kernel
theorem dX6_init_173 : decode cX6_init 173 = .ok (.bipush 6, 2) := by decide +kernel
theorem dX6_init_175 : decode cX6_init 175 = .ok (.newarray .int, 2) := by decide +kernel
theorem dX6_init_177 : decode cX6_init 177 = .ok (.putfield 75, 3) := by decide +kernel
theorem dX6_init_180 : decode cX6_init 180 = .ok (.aload_n 0, 1) := by decide +kernel
theorem dX6_init_181 : decode cX6_init 181 = .ok (.bipush 6, 2) := by decide +kernel
theorem dX6_init_183 : decode cX6_init 183 = .ok (.newarray .int, 2) := by decide +kernel
theorem dX6_init_185 : decode cX6_init 185 = .ok (.putfield 78, 3) := by decide +kernel
theorem dX6_init_188 : decode cX6_init 188 = .ok (.aload_n 0, 1) := by decide +kernel
theorem dX6_init_189 : decode cX6_init 189 = .ok (.bipush 6, 2) := by decide +kernel
theorem dX6_init_191 : decode cX6_init 191 = .ok (.newarray .boolean, 2) := by decide +kernel
theorem dX6_init_193 : decode cX6_init 193 = .ok (.putfield 81, 3) := by decide +kernel
theorem dX6_init_196 : decode cX6_init 196 = .ok (.return_, 1) := by decide +kernel
theorem dX6_thrown_0 : decode cX6_thrown 0 = .ok (.aload_n 0, 1) := by decide +kernel
theorem dX6_thrown_1 : decode cX6_thrown 1 = .ok (.getfield 84, 3) := by decide +kernel
theorem dX6_thrown_4 : decode cX6_thrown 4 = .ok (.ireturn, 1) := by decide +kernel
theorem dX6_fails_0 : decode cX6_fails 0 = .ok (.aload_n 0, 1) := by decide +kernel
theorem dX6_fails_1 : decode cX6_fails 1 = .ok (.iload_n 1, 1) := by decide +kernel
theorem dX6_fails_2 : decode cX6_fails 2 = .ok (.putfield 84, 3) := by decide +kernel
theorem dX6_fails_5 : decode cX6_fails 5 = .ok (.iload_n 1, 1) := by decide +kernel
theorem dX6_fails_6 : decode cX6_fails 6 = .ok (.ifCond .le 7, 3) := by decide +kernel
theorem dX6_fails_9 : decode cX6_fails 9 = .ok (.iconst 1, 1) := by decide +kernel
theorem dX6_fails_10 : decode cX6_fails 10 = .ok (.goto 4, 3) := by decide +kernel
theorem dX6_fails_13 : decode cX6_fails 13 = .ok (.iconst 0, 1) := by decide +kernel
theorem dX6_fails_14 : decode cX6_fails 14 = .ok (.ireturn, 1) := by decide +kernel
theorem dX6_in_0 : decode cX6_in 0 = .ok (.iload_n 0, 1) := by decide +kernel
theorem dX6_in_1 : decode cX6_in 1 = .ok (.iload_n 1, 1) := by decide +kernel
theorem dX6_in_2 : decode cX6_in 2 = .ok (.if_icmp .lt 12, 3) := by decide +kernel
theorem dX6_in_5 : decode cX6_in 5 = .ok (.iload_n 0, 1) := by decide +kernel
theorem dX6_in_6 : decode cX6_in 6 = .ok (.iload_n 2, 1) := by decide +kernel
theorem dX6_in_7 : decode cX6_in 7 = .ok (.if_icmp .gt 7, 3) := by decide +kernel
theorem dX6_in_10 : decode cX6_in 10 = .ok (.iconst 1, 1) := by decide +kernel
theorem dX6_in_11 : decode cX6_in 11 = .ok (.goto 4, 3) := by decide +kernel
theorem dX6_in_14 : decode cX6_in 14 = .ok (.iconst 0, 1) := by decide +kernel
theorem dX6_in_15 : decode cX6_in 15 = .ok (.ireturn, 1) := by decide +kernel
theorem dX6_isShot_0 : decode cX6_isShot 0 = .ok (.iload_n 1, 1) := by decide +kernel
theorem dX6_isShot_1 : decode cX6_isShot 1 = .ok (.iconst 0, 1) := by decide +kernel
theorem dX6_isShot_2 : decode cX6_isShot 2 = .ok (.aload_n 0, 1) := by decide +kernel
theorem dX6_isShot_3 : decode cX6_isShot 3 = .ok (.getfield 88, 3) := by decide +kernel
theorem dX6_isShot_6 : decode cX6_isShot 6 = .ok (.iconst 1, 1) := by decide +kernel
theorem dX6_isShot_7 : decode cX6_isShot 7 = .ok (.isub, 1) := by decide +kernel
theorem dX6_isShot_8 : decode cX6_isShot 8 = .ok (.invokestatic 91, 3) := by decide +kernel
theorem dX6_isShot_11 : decode cX6_isShot 11 = .ok (.ireturn, 1) := by decide +kernel
theorem dX6_placeOf_0 : decode cX6_placeOf 0 = .ok (.iconst (-1), 1) := by decide +kernel
theorem dX6_placeOf_1 : decode cX6_placeOf 1 = .ok (.istore_n 2, 1) := by decide +kernel
theorem dX6_placeOf_2 : decode cX6_placeOf 2 = .ok (.iconst 0, 1) := by decide +kernel
theorem dX6_placeOf_3 : decode cX6_placeOf 3 = .ok (.istore_n 3, 1) := by decide +kernel
theorem dX6_placeOf_4 : decode cX6_placeOf 4 = .ok (.iload_n 3, 1) := by decide +kernel
theorem dX6_placeOf_5 : decode cX6_placeOf 5 = .ok (.aload_n 0, 1) := by decide +kernel
theorem dX6_placeOf_6 : decode cX6_placeOf 6 = .ok (.getfield 95, 3) := by decide +kernel
theorem dX6_placeOf_9 : decode cX6_placeOf 9 = .ok (.if_icmp .ge 25, 3) := by decide +kernel
theorem dX6_placeOf_12 : decode cX6_placeOf 12 = .ok (.aload_n 0, 1) := by decide +kernel
theorem dX6_placeOf_13 : decode cX6_placeOf 13 = .ok (.getfield 7, 3) := by decide +kernel
theorem dX6_placeOf_16 : decode cX6_placeOf 16 = .ok (.iload_n 3, 1) := by decide +kernel
theorem dX6_placeOf_17 : decode cX6_placeOf 17 = .ok (.iaload, 1) := by decide +kernel
theorem dX6_placeOf_18 : decode cX6_placeOf 18 = .ok (.iload_n 1, 1) := by decide +kernel
theorem dX6_placeOf_19 : decode cX6_placeOf 19 = .ok (.if_icmp .ne 7, 3) := by decide +kernel
theorem dX6_placeOf_22 : decode cX6_placeOf 22 = .ok (.iload_n 3, 1) := by decide +kernel
theorem dX6_placeOf_23 : decode cX6_placeOf 23 = .ok (.goto 4, 3) := by decide +kernel
theorem dX6_placeOf_26 : decode cX6_placeOf 26 = .ok (.iload_n 2, 1) := by decide +kernel
theorem dX6_placeOf_27 : decode cX6_placeOf 27 = .ok (.istore_n 2, 1) := by decide +kernel
theorem dX6_placeOf_28 : decode cX6_placeOf 28 = .ok (.iinc 3 1, 3) := by decide +kernel
theorem dX6_placeOf_31 : decode cX6_placeOf 31 = .ok (.goto (-27), 3) := by decide +kernel
theorem dX6_placeOf_34 : decode cX6_placeOf 34 = .ok (.iload_n 2, 1) := by decide +kernel
theorem dX6_placeOf_35 : decode cX6_placeOf 35 = .ok (.ireturn, 1) := by decide +kernel
theorem dX6_isCamera_0 : decode cX6_isCamera 0 = .ok (.iload_n 0, 1) := by decide +kernel
theorem dX6_isCamera_1 : decode cX6_isCamera 1 = .ok (.bipush 115, 2) := by decide +kernel
theorem dX6_isCamera_3 : decode cX6_isCamera 3 = .ok (.if_icmp .eq 15, 3) := by decide +kernel
theorem dX6_isCamera_6 : decode cX6_isCamera 6 = .ok (.iload_n 0, 1) := by decide +kernel
theorem dX6_isCamera_7 : decode cX6_isCamera 7 = .ok (.bipush 110, 2) := by decide +kernel
theorem dX6_isCamera_9 : decode cX6_isCamera 9 = .ok (.if_icmp .eq 9, 3) := by decide +kernel
theorem dX6_isCamera_12 : decode cX6_isCamera 12 = .ok (.iload_n 0, 1) := by decide +kernel
theorem dX6_isCamera_13 : decode cX6_isCamera 13 = .ok (.bipush 48, 2) := by decide +kernel
theorem dX6_isCamera_15 : decode cX6_isCamera 15 = .ok (.if_icmp .ne 16, 3) := by decide +kernel
theorem dX6_isCamera_18 : decode cX6_isCamera 18 = .ok (.iload_n 1, 1) := by decide +kernel
theorem dX6_isCamera_19 : decode cX6_isCamera 19 = .ok (.iconst 0, 1) := by decide +kernel
theorem dX6_isCamera_20 : decode cX6_isCamera 20 = .ok (.iconst 4, 1) := by decide +kernel
theorem dX6_isCamera_21 : decode cX6_isCamera 21 = .ok (.invokestatic 91, 3) := by decide +kernel
theorem dX6_isCamera_24 : decode cX6_isCamera 24 = .ok (.ifCond .eq 7, 3) := by decide +kernel
theorem dX6_isCamera_27 : decode cX6_isCamera 27 = .ok (.iconst 1, 1) := by decide +kernel
theorem dX6_isCamera_28 : decode cX6_isCamera 28 = .ok (.goto 4, 3) := by decide +kernel
theorem dX6_isCamera_31 : decode cX6_isCamera 31 = .ok (.iconst 0, 1) := by decide +kernel
theorem dX6_isCamera_32 : decode cX6_isCamera 32 = .ok (.ireturn, 1) := by decide +kernel
theorem dX6_isEdge_0 : decode cX6_isEdge 0 = .ok (.iload_n 0, 1) := by decide +kernel
theorem dX6_isEdge_1 : decode cX6_isEdge 1 = .ok (.bipush 108, 2) := by decide +kernel
theorem dX6_isEdge_3 : decode cX6_isEdge 3 = .ok (.if_icmp .eq 15, 3) := by decide +kernel
theorem dX6_isEdge_6 : decode cX6_isEdge 6 = .ok (.iload_n 0, 1) := by decide +kernel
theorem dX6_isEdge_7 : decode cX6_isEdge 7 = .ok (.bipush 114, 2) := by decide +kernel
theorem dX6_isEdge_9 : decode cX6_isEdge 9 = .ok (.if_icmp .eq 9, 3) := by decide +kernel
theorem dX6_isEdge_12 : decode cX6_isEdge 12 = .ok (.iload_n 0, 1) := by decide +kernel
theorem dX6_isEdge_13 : decode cX6_isEdge 13 = .ok (.bipush 45, 2) := by decide +kernel
theorem dX6_isEdge_15 : decode cX6_isEdge 15 = .ok (.if_icmp .ne 7, 3) := by decide +kernel
theorem dX6_isEdge_18 : decode cX6_isEdge 18 = .ok (.iconst 1, 1) := by decide +kernel
theorem dX6_isEdge_19 : decode cX6_isEdge 19 = .ok (.goto 4, 3) := by decide +kernel
theorem dX6_isEdge_22 : decode cX6_isEdge 22 = .ok (.iconst 0, 1) := by decide +kernel
theorem dX6_isEdge_23 : decode cX6_isEdge 23 = .ok (.ireturn, 1) := by decide +kernel
theorem dX6_isThird_0 : decode cX6_isThird 0 = .ok (.iload_n 0, 1) := by decide +kernel
theorem dX6_isThird_1 : decode cX6_isThird 1 = .ok (.bipush 108, 2) := by decide +kernel
theorem dX6_isThird_3 : decode cX6_isThird 3 = .ok (.if_icmp .eq 15, 3) := by decide +kernel
theorem dX6_isThird_6 : decode cX6_isThird 6 = .ok (.iload_n 0, 1) := by decide +kernel
theorem dX6_isThird_7 : decode cX6_isThird 7 = .ok (.bipush 99, 2) := by decide +kernel
theorem dX6_isThird_9 : decode cX6_isThird 9 = .ok (.if_icmp .eq 9, 3) := by decide +kernel
theorem dX6_isThird_12 : decode cX6_isThird 12 = .ok (.iload_n 0, 1) := by decide +kernel
theorem dX6_isThird_13 : decode cX6_isThird 13 = .ok (.bipush 114, 2) := by decide +kernel
theorem dX6_isThird_15 : decode cX6_isThird 15 = .ok (.if_icmp .ne 7, 3) := by decide +kernel
theorem dX6_isThird_18 : decode cX6_isThird 18 = .ok (.iconst 1, 1) := by decide +kernel
theorem dX6_isThird_19 : decode cX6_isThird 19 = .ok (.goto 4, 3) := by decide +kernel
theorem dX6_isThird_22 : decode cX6_isThird 22 = .ok (.iconst 0, 1) := by decide +kernel
theorem dX6_isThird_23 : decode cX6_isThird 23 = .ok (.ireturn, 1) := by decide +kernel
theorem dX6_freeLetter_0 : decode cX6_freeLetter 0 = .ok (.bipush 32, 2) := by decide +kernel
theorem dX6_freeLetter_2 : decode cX6_freeLetter 2 = .ok (.istore_n 2, 1) := by decide +kernel
theorem dX6_freeLetter_3 : decode cX6_freeLetter 3 = .ok (.bipush 70, 2) := by decide +kernel
theorem dX6_freeLetter_5 : decode cX6_freeLetter 5 = .ok (.istore_n 3, 1) := by decide +kernel
theorem dX6_freeLetter_6 : decode cX6_freeLetter 6 = .ok (.iload_n 3, 1) := by decide +kernel
theorem dX6_freeLetter_7 : decode cX6_freeLetter 7 = .ok (.bipush 65, 2) := by decide +kernel
theorem dX6_freeLetter_9 : decode cX6_freeLetter 9 = .ok (.if_icmp .lt 77, 3) := by decide +kernel
theorem dX6_freeLetter_12 : decode cX6_freeLetter 12 = .ok (.iconst 1, 1) := by decide +kernel
theorem dX6_freeLetter_13 : decode cX6_freeLetter 13 = .ok (.istore 4, 2) := by decide +kernel
theorem dX6_freeLetter_15 : decode cX6_freeLetter 15 = .ok (.iconst 0, 1) := by decide +kernel
theorem dX6_freeLetter_16 : decode cX6_freeLetter 16 = .ok (.istore 5, 2) := by decide +kernel
theorem dX6_freeLetter_18 : decode cX6_freeLetter 18 = .ok (.iload 5, 2) := by decide +kernel
theorem dX6_freeLetter_20 : decode cX6_freeLetter 20 = .ok (.aload_n 0, 1) := by decide +kernel
theorem dX6_freeLetter_21 : decode cX6_freeLetter 21 = .ok (.getfield 88, 3) := by decide +kernel
theorem dX6_freeLetter_24 : decode cX6_freeLetter 24 = .ok (.if_icmp .ge 43, 3) := by decide +kernel
theorem dX6_freeLetter_27 : decode cX6_freeLetter 27 = .ok (.iload 4, 2) := by decide +kernel
theorem dX6_freeLetter_29 : decode cX6_freeLetter 29 = .ok (.ifCond .eq 29, 3) := by decide +kernel
theorem dX6_freeLetter_32 : decode cX6_freeLetter 32 = .ok (.aload_n 0, 1) := by decide +kernel
theorem dX6_freeLetter_33 : decode cX6_freeLetter 33 = .ok (.getfield 30, 3) := by decide +kernel
theorem dX6_freeLetter_36 : decode cX6_freeLetter 36 = .ok (.iload 5, 2) := by decide +kernel
theorem dX6_freeLetter_38 : decode cX6_freeLetter 38 = .ok (.iaload, 1) := by decide +kernel
theorem dX6_freeLetter_39 : decode cX6_freeLetter 39 = .ok (.iload_n 1, 1) := by decide +kernel
theorem dX6_freeLetter_40 : decode cX6_freeLetter 40 = .ok (.if_icmp .ne 14, 3) := by decide +kernel
theorem dX6_freeLetter_43 : decode cX6_freeLetter 43 = .ok (.aload_n 0, 1) := by decide +kernel
theorem dX6_freeLetter_44 : decode cX6_freeLetter 44 = .ok (.getfield 33, 3) := by decide +kernel
theorem dX6_freeLetter_47 : decode cX6_freeLetter 47 = .ok (.iload 5, 2) := by decide +kernel
theorem dX6_freeLetter_49 : decode cX6_freeLetter 49 = .ok (.caload, 1) := by decide +kernel
theorem dX6_freeLetter_50 : decode cX6_freeLetter 50 = .ok (.iload_n 3, 1) := by decide +kernel
theorem dX6_freeLetter_51 : decode cX6_freeLetter 51 = .ok (.if_icmp .eq 7, 3) := by decide +kernel
theorem dX6_freeLetter_54 : decode cX6_freeLetter 54 = .ok (.iconst 1, 1) := by decide +kernel
theorem dX6_freeLetter_55 : decode cX6_freeLetter 55 = .ok (.goto 4, 3) := by decide +kernel
theorem dX6_freeLetter_58 : decode cX6_freeLetter 58 = .ok (.iconst 0, 1) := by decide +kernel
theorem dX6_freeLetter_59 : decode cX6_freeLetter 59 = .ok (.istore 4, 2) := by decide +kernel
theorem dX6_freeLetter_61 : decode cX6_freeLetter 61 = .ok (.iinc 5 1, 3) := by decide +kernel
theorem dX6_freeLetter_64 : decode cX6_freeLetter 64 = .ok (.goto (-46), 3) := by decide +kernel
theorem dX6_freeLetter_67 : decode cX6_freeLetter 67 = .ok (.iload 4, 2) := by decide +kernel
theorem dX6_freeLetter_69 : decode cX6_freeLetter 69 = .ok (.ifCond .eq 7, 3) := by decide +kernel
theorem dX6_freeLetter_72 : decode cX6_freeLetter 72 = .ok (.iload_n 3, 1) := by decide +kernel
theorem dX6_freeLetter_73 : decode cX6_freeLetter 73 = .ok (.goto 4, 3) := by decide +kernel
theorem dX6_freeLetter_76 : decode cX6_freeLetter 76 = .ok (.iload_n 2, 1) := by decide +kernel
theorem dX6_freeLetter_77 : decode cX6_freeLetter 77 = .ok (.istore_n 2, 1) := by decide +kernel
theorem dX6_freeLetter_78 : decode cX6_freeLetter 78 = .ok (.iload_n 3, 1) := by decide +kernel
theorem dX6_freeLetter_79 : decode cX6_freeLetter 79 = .ok (.iconst 1, 1) := by decide +kernel
theorem dX6_freeLetter_80 : decode cX6_freeLetter 80 = .ok (.isub, 1) := by decide +kernel
theorem dX6_freeLetter_81 : decode cX6_freeLetter 81 = .ok (.i2c, 1) := by decide +kernel
theorem dX6_freeLetter_82 : decode cX6_freeLetter 82 = .ok (.istore_n 3, 1) := by decide +kernel
theorem dX6_freeLetter_83 : decode cX6_freeLetter 83 = .ok (.goto (-77), 3) := by decide +kernel
theorem dX6_freeLetter_86 : decode cX6_freeLetter 86 = .ok (.iload_n 2, 1) := by decide +kernel
theorem dX6_freeLetter_87 : decode cX6_freeLetter 87 = .ok (.ireturn, 1) := by decide +kernel
theorem dX6_putIn_0 : decode cX6_putIn 0 = .ok (.aload_n 0, 1) := by decide +kernel
theorem dX6_putIn_1 : decode cX6_putIn 1 = .ok (.getfield 95, 3) := by decide +kernel
theorem dX6_putIn_4 : decode cX6_putIn 4 = .ok (.istore_n 3, 1) := by decide +kernel
theorem dX6_putIn_5 : decode cX6_putIn 5 = .ok (.iload_n 3, 1) := by decide +kernel
theorem dX6_putIn_6 : decode cX6_putIn 6 = .ok (.iload_n 2, 1) := by decide +kernel
theorem dX6_putIn_7 : decode cX6_putIn 7 = .ok (.if_icmp .le 23, 3) := by decide +kernel
theorem dX6_putIn_10 : decode cX6_putIn 10 = .ok (.aload_n 0, 1) := by decide +kernel
theorem dX6_putIn_11 : decode cX6_putIn 11 = .ok (.getfield 7, 3) := by decide +kernel
theorem dX6_putIn_14 : decode cX6_putIn 14 = .ok (.iload_n 3, 1) := by decide +kernel
theorem dX6_putIn_15 : decode cX6_putIn 15 = .ok (.aload_n 0, 1) := by decide +kernel
theorem dX6_putIn_16 : decode cX6_putIn 16 = .ok (.getfield 7, 3) := by decide +kernel
theorem dX6_putIn_19 : decode cX6_putIn 19 = .ok (.iload_n 3, 1) := by decide +kernel
theorem dX6_putIn_20 : decode cX6_putIn 20 = .ok (.iconst 1, 1) := by decide +kernel
theorem dX6_putIn_21 : decode cX6_putIn 21 = .ok (.isub, 1) := by decide +kernel
theorem dX6_putIn_22 : decode cX6_putIn 22 = .ok (.iaload, 1) := by decide +kernel
theorem dX6_putIn_23 : decode cX6_putIn 23 = .ok (.iastore, 1) := by decide +kernel
theorem dX6_putIn_24 : decode cX6_putIn 24 = .ok (.iinc 3 (-1), 3) := by decide +kernel
theorem dX6_putIn_27 : decode cX6_putIn 27 = .ok (.goto (-22), 3) := by decide +kernel
theorem dX6_putIn_30 : decode cX6_putIn 30 = .ok (.aload_n 0, 1) := by decide +kernel
theorem dX6_putIn_31 : decode cX6_putIn 31 = .ok (.getfield 7, 3) := by decide +kernel
theorem dX6_putIn_34 : decode cX6_putIn 34 = .ok (.iload_n 2, 1) := by decide +kernel
theorem dX6_putIn_35 : decode cX6_putIn 35 = .ok (.iload_n 1, 1) := by decide +kernel
theorem dX6_putIn_36 : decode cX6_putIn 36 = .ok (.iastore, 1) := by decide +kernel
theorem dX6_putIn_37 : decode cX6_putIn 37 = .ok (.aload_n 0, 1) := by decide +kernel
theorem dX6_putIn_38 : decode cX6_putIn 38 = .ok (.dup, 1) := by decide +kernel
theorem dX6_putIn_39 : decode cX6_putIn 39 = .ok (.getfield 95, 3) := by decide +kernel
theorem dX6_putIn_42 : decode cX6_putIn 42 = .ok (.iconst 1, 1) := by decide +kernel
theorem dX6_putIn_43 : decode cX6_putIn 43 = .ok (.iadd, 1) := by decide +kernel
theorem dX6_putIn_44 : decode cX6_putIn 44 = .ok (.putfield 95, 3) := by decide +kernel
theorem dX6_putIn_47 : decode cX6_putIn 47 = .ok (.return_, 1) := by decide +kernel
theorem dX6_takeOut_0 : decode cX6_takeOut 0 = .ok (.aload_n 0, 1) := by decide +kernel
theorem dX6_takeOut_1 : decode cX6_takeOut 1 = .ok (.dup, 1) := by decide +kernel
theorem dX6_takeOut_2 : decode cX6_takeOut 2 = .ok (.getfield 95, 3) := by decide +kernel
theorem dX6_takeOut_5 : decode cX6_takeOut 5 = .ok (.iconst 1, 1) := by decide +kernel
theorem dX6_takeOut_6 : decode cX6_takeOut 6 = .ok (.isub, 1) := by decide +kernel
theorem dX6_takeOut_7 : decode cX6_takeOut 7 = .ok (.putfield 95, 3) := by decide +kernel
theorem dX6_takeOut_10 : decode cX6_takeOut 10 = .ok (.iload_n 1, 1) := by decide +kernel
theorem dX6_takeOut_11 : decode cX6_takeOut 11 = .ok (.istore_n 2, 1) := by decide +kernel
theorem dX6_takeOut_12 : decode cX6_takeOut 12 = .ok (.iload_n 2, 1) := by decide +kernel
theorem dX6_takeOut_13 : decode cX6_takeOut 13 = .ok (.aload_n 0, 1) := by decide +kernel
theorem dX6_takeOut_14 : decode cX6_takeOut 14 = .ok (.getfield 95, 3) := by decide +kernel
theorem dX6_takeOut_17 : decode cX6_takeOut 17 = .ok (.if_icmp .ge 23, 3) := by decide +kernel
theorem dX6_takeOut_20 : decode cX6_takeOut 20 = .ok (.aload_n 0, 1) := by decide +kernel
theorem dX6_takeOut_21 : decode cX6_takeOut 21 = .ok (.getfield 7, 3) := by decide +kernel
theorem dX6_takeOut_24 : decode cX6_takeOut 24 = .ok (.iload_n 2, 1) := by decide +kernel
theorem dX6_takeOut_25 : decode cX6_takeOut 25 = .ok (.aload_n 0, 1) := by decide +kernel
theorem dX6_takeOut_26 : decode cX6_takeOut 26 = .ok (.getfield 7, 3) := by decide +kernel
theorem dX6_takeOut_29 : decode cX6_takeOut 29 = .ok (.iload_n 2, 1) := by decide +kernel
theorem dX6_takeOut_30 : decode cX6_takeOut 30 = .ok (.iconst 1, 1) := by decide +kernel
theorem dX6_takeOut_31 : decode cX6_takeOut 31 = .ok (.iadd, 1) := by decide +kernel
theorem dX6_takeOut_32 : decode cX6_takeOut 32 = .ok (.iaload, 1) := by decide +kernel
theorem dX6_takeOut_33 : decode cX6_takeOut 33 = .ok (.iastore, 1) := by decide +kernel
theorem dX6_takeOut_34 : decode cX6_takeOut 34 = .ok (.iinc 2 1, 3) := by decide +kernel
theorem dX6_takeOut_37 : decode cX6_takeOut 37 = .ok (.goto (-25), 3) := by decide +kernel
theorem dX6_takeOut_40 : decode cX6_takeOut 40 = .ok (.return_, 1) := by decide +kernel
theorem dX6_shot_0 : decode cX6_shot 0 = .ok (.aload_n 0, 1) := by decide +kernel
theorem dX6_shot_1 : decode cX6_shot 1 = .ok (.iload_n 1, 1) := by decide +kernel
theorem dX6_shot_2 : decode cX6_shot 2 = .ok (.iload_n 2, 1) := by decide +kernel
theorem dX6_shot_3 : decode cX6_shot 3 = .ok (.invokestatic 98, 3) := by decide +kernel
theorem dX6_shot_6 : decode cX6_shot 6 = .ok (.ifCond .eq 31, 3) := by decide +kernel
theorem dX6_shot_9 : decode cX6_shot 9 = .ok (.iload_n 3, 1) := by decide +kernel
theorem dX6_shot_10 : decode cX6_shot 10 = .ok (.iconst 1, 1) := by decide +kernel
theorem dX6_shot_11 : decode cX6_shot 11 = .ok (.sipush 240, 3) := by decide +kernel
theorem dX6_shot_14 : decode cX6_shot 14 = .ok (.invokestatic 91, 3) := by decide +kernel
theorem dX6_shot_17 : decode cX6_shot 17 = .ok (.ifCond .eq 20, 3) := by decide +kernel
theorem dX6_shot_20 : decode cX6_shot 20 = .ok (.iload 4, 2) := by decide +kernel
theorem dX6_shot_22 : decode cX6_shot 22 = .ok (.iconst 0, 1) := by decide +kernel
theorem dX6_shot_23 : decode cX6_shot 23 = .ok (.aload_n 0, 1) := by decide +kernel
theorem dX6_shot_24 : decode cX6_shot 24 = .ok (.getfield 95, 3) := by decide +kernel
theorem dX6_shot_27 : decode cX6_shot 27 = .ok (.invokestatic 91, 3) := by decide +kernel
theorem dX6_shot_30 : decode cX6_shot 30 = .ok (.ifCond .eq 7, 3) := by decide +kernel
theorem dX6_shot_33 : decode cX6_shot 33 = .ok (.iconst 0, 1) := by decide +kernel
theorem dX6_shot_34 : decode cX6_shot 34 = .ok (.goto 4, 3) := by decide +kernel
theorem dX6_shot_37 : decode cX6_shot 37 = .ok (.iconst 1, 1) := by decide +kernel
theorem dX6_shot_38 : decode cX6_shot 38 = .ok (.invokevirtual 102, 3) := by decide +kernel
theorem dX6_shot_41 : decode cX6_shot 41 = .ok (.ifCond .eq 5, 3) := by decide +kernel
theorem dX6_shot_44 : decode cX6_shot 44 = .ok (.iconst 0, 1) := by decide +kernel
theorem dX6_shot_45 : decode cX6_shot 45 = .ok (.ireturn, 1) := by decide +kernel
theorem dX6_shot_46 : decode cX6_shot 46 = .ok (.aload_n 0, 1) := by decide +kernel
theorem dX6_shot_47 : decode cX6_shot 47 = .ok (.getfield 106, 3) := by decide +kernel
theorem dX6_shot_50 : decode cX6_shot 50 = .ok (.ifCond .eq 25, 3) := by decide +kernel
theorem dX6_shot_53 : decode cX6_shot 53 = .ok (.iload 4, 2) := by decide +kernel
theorem dX6_shot_55 : decode cX6_shot 55 = .ok (.ifCond .le 20, 3) := by decide +kernel
theorem dX6_shot_58 : decode cX6_shot 58 = .ok (.aload_n 0, 1) := by decide +kernel
theorem dX6_shot_59 : decode cX6_shot 59 = .ok (.getfield 30, 3) := by decide +kernel
theorem dX6_shot_62 : decode cX6_shot 62 = .ok (.aload_n 0, 1) := by decide +kernel
theorem dX6_shot_63 : decode cX6_shot 63 = .ok (.getfield 7, 3) := by decide +kernel
theorem dX6_shot_66 : decode cX6_shot 66 = .ok (.iload 4, 2) := by decide +kernel
theorem dX6_shot_68 : decode cX6_shot 68 = .ok (.iconst 1, 1) := by decide +kernel
theorem dX6_shot_69 : decode cX6_shot 69 = .ok (.isub, 1) := by decide +kernel
theorem dX6_shot_70 : decode cX6_shot 70 = .ok (.iaload, 1) := by decide +kernel
theorem dX6_shot_71 : decode cX6_shot 71 = .ok (.iaload, 1) := by decide +kernel
theorem dX6_shot_72 : decode cX6_shot 72 = .ok (.goto 4, 3) := by decide +kernel
theorem dX6_shot_75 : decode cX6_shot 75 = .ok (.iconst 0, 1) := by decide +kernel
theorem dX6_shot_76 : decode cX6_shot 76 = .ok (.istore 5, 2) := by decide +kernel
theorem dX6_shot_78 : decode cX6_shot 78 = .ok (.aload_n 0, 1) := by decide +kernel
theorem dX6_shot_79 : decode cX6_shot 79 = .ok (.getfield 106, 3) := by decide +kernel
theorem dX6_shot_82 : decode cX6_shot 82 = .ok (.ifCond .eq 12, 3) := by decide +kernel
theorem dX6_shot_85 : decode cX6_shot 85 = .ok (.aload_n 0, 1) := by decide +kernel
theorem dX6_shot_86 : decode cX6_shot 86 = .ok (.iload 5, 2) := by decide +kernel
theorem dX6_shot_88 : decode cX6_shot 88 = .ok (.invokevirtual 110, 3) := by decide +kernel
theorem dX6_shot_91 : decode cX6_shot 91 = .ok (.goto 5, 3) := by decide +kernel
theorem dX6_shot_94 : decode cX6_shot 94 = .ok (.bipush 45, 2) := by decide +kernel
theorem dX6_shot_96 : decode cX6_shot 96 = .ok (.istore 6, 2) := by decide +kernel
theorem dX6_shot_98 : decode cX6_shot 98 = .ok (.aload_n 0, 1) := by decide +kernel
theorem dX6_shot_99 : decode cX6_shot 99 = .ok (.iload 6, 2) := by decide +kernel
theorem dX6_shot_101 : decode cX6_shot 101 = .ok (.bipush 32, 2) := by decide +kernel
theorem dX6_shot_103 : decode cX6_shot 103 = .ok (.if_icmp .ne 7, 3) := by decide +kernel
theorem dX6_shot_106 : decode cX6_shot 106 = .ok (.iconst 2, 1) := by decide +kernel
theorem dX6_shot_107 : decode cX6_shot 107 = .ok (.goto 17, 3) := by decide +kernel
theorem dX6_shot_110 : decode cX6_shot 110 = .ok (.aload_n 0, 1) := by decide +kernel
theorem dX6_shot_111 : decode cX6_shot 111 = .ok (.getfield 88, 3) := by decide +kernel
theorem dX6_shot_114 : decode cX6_shot 114 = .ok (.bipush 24, 2) := by decide +kernel
theorem dX6_shot_116 : decode cX6_shot 116 = .ok (.if_icmp .ne 7, 3) := by decide +kernel
theorem dX6_shot_119 : decode cX6_shot 119 = .ok (.iconst 3, 1) := by decide +kernel
theorem dX6_shot_120 : decode cX6_shot 120 = .ok (.goto 4, 3) := by decide +kernel
theorem dX6_shot_123 : decode cX6_shot 123 = .ok (.iconst 0, 1) := by decide +kernel
theorem dX6_shot_124 : decode cX6_shot 124 = .ok (.invokevirtual 102, 3) := by decide +kernel
theorem dX6_shot_127 : decode cX6_shot 127 = .ok (.ifCond .eq 5, 3) := by decide +kernel
theorem dX6_shot_130 : decode cX6_shot 130 = .ok (.iconst 0, 1) := by decide +kernel
theorem dX6_shot_131 : decode cX6_shot 131 = .ok (.ireturn, 1) := by decide +kernel
theorem dX6_shot_132 : decode cX6_shot 132 = .ok (.aload_n 0, 1) := by decide +kernel
theorem dX6_shot_133 : decode cX6_shot 133 = .ok (.getfield 13, 3) := by decide +kernel
theorem dX6_shot_136 : decode cX6_shot 136 = .ok (.aload_n 0, 1) := by decide +kernel
theorem dX6_shot_137 : decode cX6_shot 137 = .ok (.getfield 88, 3) := by decide +kernel
theorem dX6_shot_140 : decode cX6_shot 140 = .ok (.iload_n 1, 1) := by decide +kernel
theorem dX6_shot_141 : decode cX6_shot 141 = .ok (.castore, 1) := by decide +kernel
theorem dX6_shot_142 : decode cX6_shot 142 = .ok (.aload_n 0, 1) := by decide +kernel
theorem dX6_shot_143 : decode cX6_shot 143 = .ok (.getfield 17, 3) := by decide +kernel
theorem dX6_shot_146 : decode cX6_shot 146 = .ok (.aload_n 0, 1) := by decide +kernel
theorem dX6_shot_147 : decode cX6_shot 147 = .ok (.getfield 88, 3) := by decide +kernel
theorem dX6_shot_150 : decode cX6_shot 150 = .ok (.iload_n 2, 1) := by decide +kernel
theorem dX6_shot_151 : decode cX6_shot 151 = .ok (.iastore, 1) := by decide +kernel
theorem dX6_shot_152 : decode cX6_shot 152 = .ok (.aload_n 0, 1) := by decide +kernel
theorem dX6_shot_153 : decode cX6_shot 153 = .ok (.getfield 20, 3) := by decide +kernel
theorem dX6_shot_156 : decode cX6_shot 156 = .ok (.aload_n 0, 1) := by decide +kernel
theorem dX6_shot_157 : decode cX6_shot 157 = .ok (.getfield 88, 3) := by decide +kernel
theorem dX6_shot_160 : decode cX6_shot 160 = .ok (.iload_n 3, 1) := by decide +kernel
theorem dX6_shot_161 : decode cX6_shot 161 = .ok (.iastore, 1) := by decide +kernel
theorem dX6_shot_162 : decode cX6_shot 162 = .ok (.aload_n 0, 1) := by decide +kernel
theorem dX6_shot_163 : decode cX6_shot 163 = .ok (.getfield 30, 3) := by decide +kernel
theorem dX6_shot_166 : decode cX6_shot 166 = .ok (.aload_n 0, 1) := by decide +kernel
theorem dX6_shot_167 : decode cX6_shot 167 = .ok (.getfield 88, 3) := by decide +kernel
theorem dX6_shot_170 : decode cX6_shot 170 = .ok (.aload_n 0, 1) := by decide +kernel
theorem dX6_shot_171 : decode cX6_shot 171 = .ok (.getfield 106, 3) := by decide +kernel
theorem dX6_shot_174 : decode cX6_shot 174 = .ok (.ifCond .eq 8, 3) := by decide +kernel
theorem dX6_shot_177 : decode cX6_shot 177 = .ok (.iload 5, 2) := by decide +kernel
theorem dX6_shot_179 : decode cX6_shot 179 = .ok (.goto 4, 3) := by decide +kernel
theorem dX6_shot_182 : decode cX6_shot 182 = .ok (.iconst (-1), 1) := by decide +kernel
theorem dX6_shot_183 : decode cX6_shot 183 = .ok (.iastore, 1) := by decide +kernel
theorem dX6_shot_184 : decode cX6_shot 184 = .ok (.aload_n 0, 1) := by decide +kernel
theorem dX6_shot_185 : decode cX6_shot 185 = .ok (.getfield 33, 3) := by decide +kernel
theorem dX6_shot_188 : decode cX6_shot 188 = .ok (.aload_n 0, 1) := by decide +kernel
theorem dX6_shot_189 : decode cX6_shot 189 = .ok (.getfield 88, 3) := by decide +kernel
theorem dX6_shot_192 : decode cX6_shot 192 = .ok (.iload 6, 2) := by decide +kernel
theorem dX6_shot_194 : decode cX6_shot 194 = .ok (.castore, 1) := by decide +kernel
theorem dX6_shot_195 : decode cX6_shot 195 = .ok (.aload_n 0, 1) := by decide +kernel
theorem dX6_shot_196 : decode cX6_shot 196 = .ok (.getfield 48, 3) := by decide +kernel
theorem dX6_shot_199 : decode cX6_shot 199 = .ok (.aload_n 0, 1) := by decide +kernel
theorem dX6_shot_200 : decode cX6_shot 200 = .ok (.getfield 88, 3) := by decide +kernel
theorem dX6_shot_203 : decode cX6_shot 203 = .ok (.bipush 45, 2) := by decide +kernel
theorem dX6_shot_205 : decode cX6_shot 205 = .ok (.castore, 1) := by decide +kernel
theorem dX6_shot_206 : decode cX6_shot 206 = .ok (.aload_n 0, 1) := by decide +kernel
theorem dX6_shot_207 : decode cX6_shot 207 = .ok (.getfield 60, 3) := by decide +kernel
theorem dX6_shot_210 : decode cX6_shot 210 = .ok (.aload_n 0, 1) := by decide +kernel
theorem dX6_shot_211 : decode cX6_shot 211 = .ok (.getfield 88, 3) := by decide +kernel
theorem dX6_shot_214 : decode cX6_shot 214 = .ok (.iconst (-1), 1) := by decide +kernel
theorem dX6_shot_215 : decode cX6_shot 215 = .ok (.iastore, 1) := by decide +kernel
theorem dX6_shot_216 : decode cX6_shot 216 = .ok (.iconst 4, 1) := by decide +kernel
theorem dX6_shot_217 : decode cX6_shot 217 = .ok (.aload_n 0, 1) := by decide +kernel
theorem dX6_shot_218 : decode cX6_shot 218 = .ok (.getfield 88, 3) := by decide +kernel
theorem dX6_shot_221 : decode cX6_shot 221 = .ok (.imul, 1) := by decide +kernel
theorem dX6_shot_222 : decode cX6_shot 222 = .ok (.istore 7, 2) := by decide +kernel
theorem dX6_shot_224 : decode cX6_shot 224 = .ok (.iload 7, 2) := by decide +kernel
theorem dX6_shot_226 : decode cX6_shot 226 = .ok (.iconst 4, 1) := by decide +kernel
theorem dX6_shot_227 : decode cX6_shot 227 = .ok (.aload_n 0, 1) := by decide +kernel
theorem dX6_shot_228 : decode cX6_shot 228 = .ok (.getfield 88, 3) := by decide +kernel
theorem dX6_shot_231 : decode cX6_shot 231 = .ok (.imul, 1) := by decide +kernel
theorem dX6_shot_232 : decode cX6_shot 232 = .ok (.iconst 4, 1) := by decide +kernel
theorem dX6_shot_233 : decode cX6_shot 233 = .ok (.iadd, 1) := by decide +kernel
theorem dX6_shot_234 : decode cX6_shot 234 = .ok (.if_icmp .ge 45, 3) := by decide +kernel
theorem dX6_shot_237 : decode cX6_shot 237 = .ok (.aload_n 0, 1) := by decide +kernel
theorem dX6_shot_238 : decode cX6_shot 238 = .ok (.getfield 36, 3) := by decide +kernel
theorem dX6_shot_241 : decode cX6_shot 241 = .ok (.iload 7, 2) := by decide +kernel
theorem dX6_shot_243 : decode cX6_shot 243 = .ok (.bipush 45, 2) := by decide +kernel
theorem dX6_shot_245 : decode cX6_shot 245 = .ok (.castore, 1) := by decide +kernel
theorem dX6_shot_246 : decode cX6_shot 246 = .ok (.aload_n 0, 1) := by decide +kernel
theorem dX6_shot_247 : decode cX6_shot 247 = .ok (.getfield 39, 3) := by decide +kernel
theorem dX6_shot_250 : decode cX6_shot 250 = .ok (.iload 7, 2) := by decide +kernel
theorem dX6_shot_252 : decode cX6_shot 252 = .ok (.bipush 45, 2) := by decide +kernel
theorem dX6_shot_254 : decode cX6_shot 254 = .ok (.castore, 1) := by decide +kernel
theorem dX6_shot_255 : decode cX6_shot 255 = .ok (.aload_n 0, 1) := by decide +kernel
theorem dX6_shot_256 : decode cX6_shot 256 = .ok (.getfield 42, 3) := by decide +kernel
theorem dX6_shot_259 : decode cX6_shot 259 = .ok (.iload 7, 2) := by decide +kernel
theorem dX6_shot_261 : decode cX6_shot 261 = .ok (.bipush 45, 2) := by decide +kernel
theorem dX6_shot_263 : decode cX6_shot 263 = .ok (.castore, 1) := by decide +kernel
theorem dX6_shot_264 : decode cX6_shot 264 = .ok (.aload_n 0, 1) := by decide +kernel
theorem dX6_shot_265 : decode cX6_shot 265 = .ok (.getfield 45, 3) := by decide +kernel
theorem dX6_shot_268 : decode cX6_shot 268 = .ok (.iload 7, 2) := by decide +kernel
theorem dX6_shot_270 : decode cX6_shot 270 = .ok (.bipush 45, 2) := by decide +kernel
theorem dX6_shot_272 : decode cX6_shot 272 = .ok (.castore, 1) := by decide +kernel
theorem dX6_shot_273 : decode cX6_shot 273 = .ok (.iinc 7 1, 3) := by decide +kernel
theorem dX6_shot_276 : decode cX6_shot 276 = .ok (.goto (-52), 3) := by decide +kernel
theorem dX6_shot_279 : decode cX6_shot 279 = .ok (.aload_n 0, 1) := by decide +kernel
theorem dX6_shot_280 : decode cX6_shot 280 = .ok (.aload_n 0, 1) := by decide +kernel
theorem dX6_shot_281 : decode cX6_shot 281 = .ok (.getfield 88, 3) := by decide +kernel
theorem dX6_shot_284 : decode cX6_shot 284 = .ok (.iload 4, 2) := by decide +kernel
theorem dX6_shot_286 : decode cX6_shot 286 = .ok (.invokevirtual 114, 3) := by decide +kernel
theorem dX6_shot_289 : decode cX6_shot 289 = .ok (.aload_n 0, 1) := by decide +kernel
theorem dX6_shot_290 : decode cX6_shot 290 = .ok (.dup, 1) := by decide +kernel
theorem dX6_shot_291 : decode cX6_shot 291 = .ok (.getfield 88, 3) := by decide +kernel
theorem dX6_shot_294 : decode cX6_shot 294 = .ok (.iconst 1, 1) := by decide +kernel
theorem dX6_shot_295 : decode cX6_shot 295 = .ok (.iadd, 1) := by decide +kernel
theorem dX6_shot_296 : decode cX6_shot 296 = .ok (.putfield 88, 3) := by decide +kernel
theorem dX6_shot_299 : decode cX6_shot 299 = .ok (.aload_n 0, 1) := by decide +kernel
theorem dX6_shot_300 : decode cX6_shot 300 = .ok (.getfield 88, 3) := by decide +kernel
theorem dX6_shot_303 : decode cX6_shot 303 = .ok (.iconst 1, 1) := by decide +kernel
theorem dX6_shot_304 : decode cX6_shot 304 = .ok (.isub, 1) := by decide +kernel
theorem dX6_shot_305 : decode cX6_shot 305 = .ok (.ireturn, 1) := by decide +kernel
theorem dX6_drop_0 : decode cX6_drop 0 = .ok (.aload_n 0, 1) := by decide +kernel
theorem dX6_drop_1 : decode cX6_drop 1 = .ok (.aload_n 0, 1) := by decide +kernel
theorem dX6_drop_2 : decode cX6_drop 2 = .ok (.iload_n 1, 1) := by decide +kernel
theorem dX6_drop_3 : decode cX6_drop 3 = .ok (.invokevirtual 118, 3) := by decide +kernel
theorem dX6_drop_6 : decode cX6_drop 6 = .ok (.ifCond .ne 7, 3) := by decide +kernel
theorem dX6_drop_9 : decode cX6_drop 9 = .ok (.iconst 1, 1) := by decide +kernel
theorem dX6_drop_10 : decode cX6_drop 10 = .ok (.goto 16, 3) := by decide +kernel
theorem dX6_drop_13 : decode cX6_drop 13 = .ok (.aload_n 0, 1) := by decide +kernel
theorem dX6_drop_14 : decode cX6_drop 14 = .ok (.iload_n 1, 1) := by decide +kernel
theorem dX6_drop_15 : decode cX6_drop 15 = .ok (.invokevirtual 121, 3) := by decide +kernel
theorem dX6_drop_18 : decode cX6_drop 18 = .ok (.ifCond .ge 7, 3) := by decide +kernel
theorem dX6_drop_21 : decode cX6_drop 21 = .ok (.iconst 2, 1) := by decide +kernel
theorem dX6_drop_22 : decode cX6_drop 22 = .ok (.goto 4, 3) := by decide +kernel
theorem dX6_drop_25 : decode cX6_drop 25 = .ok (.iconst 0, 1) := by decide +kernel
theorem dX6_drop_26 : decode cX6_drop 26 = .ok (.invokevirtual 102, 3) := by decide +kernel
theorem dX6_drop_29 : decode cX6_drop 29 = .ok (.ifCond .eq 5, 3) := by decide +kernel
theorem dX6_drop_32 : decode cX6_drop 32 = .ok (.iconst 0, 1) := by decide +kernel
theorem dX6_drop_33 : decode cX6_drop 33 = .ok (.ireturn, 1) := by decide +kernel
theorem dX6_drop_34 : decode cX6_drop 34 = .ok (.aload_n 0, 1) := by decide +kernel
theorem dX6_drop_35 : decode cX6_drop 35 = .ok (.iload_n 1, 1) := by decide +kernel
theorem dX6_drop_36 : decode cX6_drop 36 = .ok (.invokevirtual 121, 3) := by decide +kernel
theorem dX6_drop_39 : decode cX6_drop 39 = .ok (.istore_n 2, 1) := by decide +kernel
theorem dX6_drop_40 : decode cX6_drop 40 = .ok (.aload_n 0, 1) := by decide +kernel
theorem dX6_drop_41 : decode cX6_drop 41 = .ok (.iload_n 2, 1) := by decide +kernel
theorem dX6_drop_42 : decode cX6_drop 42 = .ok (.invokevirtual 125, 3) := by decide +kernel
theorem dX6_drop_45 : decode cX6_drop 45 = .ok (.aload_n 0, 1) := by decide +kernel
theorem dX6_drop_46 : decode cX6_drop 46 = .ok (.getfield 23, 3) := by decide +kernel
theorem dX6_drop_49 : decode cX6_drop 49 = .ok (.iload_n 1, 1) := by decide +kernel
theorem dX6_drop_50 : decode cX6_drop 50 = .ok (.aload_n 0, 1) := by decide +kernel
theorem dX6_drop_51 : decode cX6_drop 51 = .ok (.getfield 23, 3) := by decide +kernel
theorem dX6_drop_54 : decode cX6_drop 54 = .ok (.iload_n 1, 1) := by decide +kernel
theorem dX6_drop_55 : decode cX6_drop 55 = .ok (.iaload, 1) := by decide +kernel
theorem dX6_drop_56 : decode cX6_drop 56 = .ok (.iconst 1, 1) := by decide +kernel
theorem dX6_drop_57 : decode cX6_drop 57 = .ok (.iadd, 1) := by decide +kernel
theorem dX6_drop_58 : decode cX6_drop 58 = .ok (.iastore, 1) := by decide +kernel
theorem dX6_drop_59 : decode cX6_drop 59 = .ok (.aload_n 0, 1) := by decide +kernel
theorem dX6_drop_60 : decode cX6_drop 60 = .ok (.getfield 60, 3) := by decide +kernel
theorem dX6_drop_63 : decode cX6_drop 63 = .ok (.iload_n 1, 1) := by decide +kernel
theorem dX6_drop_64 : decode cX6_drop 64 = .ok (.iconst (-1), 1) := by decide +kernel
theorem dX6_drop_65 : decode cX6_drop 65 = .ok (.iastore, 1) := by decide +kernel
theorem dX6_drop_66 : decode cX6_drop 66 = .ok (.iload_n 2, 1) := by decide +kernel
theorem dX6_drop_67 : decode cX6_drop 67 = .ok (.ireturn, 1) := by decide +kernel
theorem dX6_move_0 : decode cX6_move 0 = .ok (.aload_n 0, 1) := by decide +kernel
theorem dX6_move_1 : decode cX6_move 1 = .ok (.aload_n 0, 1) := by decide +kernel
theorem dX6_move_2 : decode cX6_move 2 = .ok (.iload_n 1, 1) := by decide +kernel
theorem dX6_move_3 : decode cX6_move 3 = .ok (.invokevirtual 118, 3) := by decide +kernel
theorem dX6_move_6 : decode cX6_move 6 = .ok (.ifCond .ne 7, 3) := by decide +kernel
theorem dX6_move_9 : decode cX6_move 9 = .ok (.iconst 1, 1) := by decide +kernel
theorem dX6_move_10 : decode cX6_move 10 = .ok (.goto 34, 3) := by decide +kernel
theorem dX6_move_13 : decode cX6_move 13 = .ok (.iload_n 2, 1) := by decide +kernel
theorem dX6_move_14 : decode cX6_move 14 = .ok (.iconst 0, 1) := by decide +kernel
theorem dX6_move_15 : decode cX6_move 15 = .ok (.aload_n 0, 1) := by decide +kernel
theorem dX6_move_16 : decode cX6_move 16 = .ok (.getfield 95, 3) := by decide +kernel
theorem dX6_move_19 : decode cX6_move 19 = .ok (.iconst 1, 1) := by decide +kernel
theorem dX6_move_20 : decode cX6_move 20 = .ok (.isub, 1) := by decide +kernel
theorem dX6_move_21 : decode cX6_move 21 = .ok (.invokestatic 91, 3) := by decide +kernel
theorem dX6_move_24 : decode cX6_move 24 = .ok (.ifCond .ne 7, 3) := by decide +kernel
theorem dX6_move_27 : decode cX6_move 27 = .ok (.iconst 2, 1) := by decide +kernel
theorem dX6_move_28 : decode cX6_move 28 = .ok (.goto 16, 3) := by decide +kernel
theorem dX6_move_31 : decode cX6_move 31 = .ok (.aload_n 0, 1) := by decide +kernel
theorem dX6_move_32 : decode cX6_move 32 = .ok (.iload_n 1, 1) := by decide +kernel
theorem dX6_move_33 : decode cX6_move 33 = .ok (.invokevirtual 121, 3) := by decide +kernel
theorem dX6_move_36 : decode cX6_move 36 = .ok (.ifCond .ge 7, 3) := by decide +kernel
theorem dX6_move_39 : decode cX6_move 39 = .ok (.iconst 3, 1) := by decide +kernel
theorem dX6_move_40 : decode cX6_move 40 = .ok (.goto 4, 3) := by decide +kernel
theorem dX6_move_43 : decode cX6_move 43 = .ok (.iconst 0, 1) := by decide +kernel
theorem dX6_move_44 : decode cX6_move 44 = .ok (.invokevirtual 102, 3) := by decide +kernel
theorem dX6_move_47 : decode cX6_move 47 = .ok (.ifCond .eq 5, 3) := by decide +kernel
theorem dX6_move_50 : decode cX6_move 50 = .ok (.iconst 0, 1) := by decide +kernel
theorem dX6_move_51 : decode cX6_move 51 = .ok (.ireturn, 1) := by decide +kernel
theorem dX6_move_52 : decode cX6_move 52 = .ok (.aload_n 0, 1) := by decide +kernel
theorem dX6_move_53 : decode cX6_move 53 = .ok (.iload_n 1, 1) := by decide +kernel
theorem dX6_move_54 : decode cX6_move 54 = .ok (.invokevirtual 121, 3) := by decide +kernel
theorem dX6_move_57 : decode cX6_move 57 = .ok (.istore_n 3, 1) := by decide +kernel
theorem dX6_move_58 : decode cX6_move 58 = .ok (.aload_n 0, 1) := by decide +kernel
theorem dX6_move_59 : decode cX6_move 59 = .ok (.iload_n 3, 1) := by decide +kernel
theorem dX6_move_60 : decode cX6_move 60 = .ok (.invokevirtual 125, 3) := by decide +kernel
theorem dX6_move_63 : decode cX6_move 63 = .ok (.aload_n 0, 1) := by decide +kernel
theorem dX6_move_64 : decode cX6_move 64 = .ok (.iload_n 1, 1) := by decide +kernel
theorem dX6_move_65 : decode cX6_move 65 = .ok (.iload_n 2, 1) := by decide +kernel
theorem dX6_move_66 : decode cX6_move 66 = .ok (.invokevirtual 114, 3) := by decide +kernel
theorem dX6_move_69 : decode cX6_move 69 = .ok (.iload_n 3, 1) := by decide +kernel
theorem dX6_move_70 : decode cX6_move 70 = .ok (.ireturn, 1) := by decide +kernel
theorem dX6_shots_0 : decode cX6_shots 0 = .ok (.aload_n 0, 1) := by decide +kernel
theorem dX6_shots_1 : decode cX6_shots 1 = .ok (.iconst 0, 1) := by decide +kernel
theorem dX6_shots_2 : decode cX6_shots 2 = .ok (.putfield 84, 3) := by decide +kernel
theorem dX6_shots_5 : decode cX6_shots 5 = .ok (.aload_n 0, 1) := by decide +kernel
theorem dX6_shots_6 : decode cX6_shots 6 = .ok (.getfield 95, 3) := by decide +kernel
theorem dX6_shots_9 : decode cX6_shots 9 = .ok (.ireturn, 1) := by decide +kernel
theorem dX6_at_0 : decode cX6_at 0 = .ok (.aload_n 0, 1) := by decide +kernel
theorem dX6_at_1 : decode cX6_at 1 = .ok (.iload_n 1, 1) := by decide +kernel
theorem dX6_at_2 : decode cX6_at 2 = .ok (.iconst 0, 1) := by decide +kernel
theorem dX6_at_3 : decode cX6_at 3 = .ok (.aload_n 0, 1) := by decide +kernel
theorem dX6_at_4 : decode cX6_at 4 = .ok (.getfield 95, 3) := by decide +kernel
theorem dX6_at_7 : decode cX6_at 7 = .ok (.iconst 1, 1) := by decide +kernel
theorem dX6_at_8 : decode cX6_at 8 = .ok (.isub, 1) := by decide +kernel
theorem dX6_at_9 : decode cX6_at 9 = .ok (.invokestatic 91, 3) := by decide +kernel
theorem dX6_at_12 : decode cX6_at 12 = .ok (.ifCond .eq 7, 3) := by decide +kernel
theorem dX6_at_15 : decode cX6_at 15 = .ok (.iconst 0, 1) := by decide +kernel
theorem dX6_at_16 : decode cX6_at 16 = .ok (.goto 4, 3) := by decide +kernel
theorem dX6_at_19 : decode cX6_at 19 = .ok (.iconst 1, 1) := by decide +kernel
theorem dX6_at_20 : decode cX6_at 20 = .ok (.invokevirtual 102, 3) := by decide +kernel
theorem dX6_at_23 : decode cX6_at 23 = .ok (.ifCond .eq 7, 3) := by decide +kernel
theorem dX6_at_26 : decode cX6_at 26 = .ok (.iconst 0, 1) := by decide +kernel
theorem dX6_at_27 : decode cX6_at 27 = .ok (.goto 9, 3) := by decide +kernel
theorem dX6_at_30 : decode cX6_at 30 = .ok (.aload_n 0, 1) := by decide +kernel
theorem dX6_at_31 : decode cX6_at 31 = .ok (.getfield 7, 3) := by decide +kernel
theorem dX6_at_34 : decode cX6_at 34 = .ok (.iload_n 1, 1) := by decide +kernel
theorem dX6_at_35 : decode cX6_at 35 = .ok (.iaload, 1) := by decide +kernel
theorem dX6_at_36 : decode cX6_at 36 = .ok (.ireturn, 1) := by decide +kernel
theorem dX6_place_0 : decode cX6_place 0 = .ok (.aload_n 0, 1) := by decide +kernel
theorem dX6_place_1 : decode cX6_place 1 = .ok (.aload_n 0, 1) := by decide +kernel
theorem dX6_place_2 : decode cX6_place 2 = .ok (.iload_n 1, 1) := by decide +kernel
theorem dX6_place_3 : decode cX6_place 3 = .ok (.invokevirtual 118, 3) := by decide +kernel
theorem dX6_place_6 : decode cX6_place 6 = .ok (.ifCond .ne 7, 3) := by decide +kernel
theorem dX6_place_9 : decode cX6_place 9 = .ok (.iconst 1, 1) := by decide +kernel
theorem dX6_place_10 : decode cX6_place 10 = .ok (.goto 16, 3) := by decide +kernel
theorem dX6_place_13 : decode cX6_place 13 = .ok (.aload_n 0, 1) := by decide +kernel
theorem dX6_place_14 : decode cX6_place 14 = .ok (.iload_n 1, 1) := by decide +kernel
theorem dX6_place_15 : decode cX6_place 15 = .ok (.invokevirtual 121, 3) := by decide +kernel
theorem dX6_place_18 : decode cX6_place 18 = .ok (.ifCond .ge 7, 3) := by decide +kernel
theorem dX6_place_21 : decode cX6_place 21 = .ok (.iconst 2, 1) := by decide +kernel
theorem dX6_place_22 : decode cX6_place 22 = .ok (.goto 4, 3) := by decide +kernel
theorem dX6_place_25 : decode cX6_place 25 = .ok (.iconst 0, 1) := by decide +kernel
theorem dX6_place_26 : decode cX6_place 26 = .ok (.invokevirtual 102, 3) := by decide +kernel
theorem dX6_place_29 : decode cX6_place 29 = .ok (.ifCond .eq 7, 3) := by decide +kernel
theorem dX6_place_32 : decode cX6_place 32 = .ok (.iconst 0, 1) := by decide +kernel
theorem dX6_place_33 : decode cX6_place 33 = .ok (.goto 8, 3) := by decide +kernel
theorem dX6_place_36 : decode cX6_place 36 = .ok (.aload_n 0, 1) := by decide +kernel
theorem dX6_place_37 : decode cX6_place 37 = .ok (.iload_n 1, 1) := by decide +kernel
theorem dX6_place_38 : decode cX6_place 38 = .ok (.invokevirtual 121, 3) := by decide +kernel
theorem dX6_place_41 : decode cX6_place 41 = .ok (.ireturn, 1) := by decide +kernel
theorem dX6_change_0 : decode cX6_change 0 = .ok (.aload_n 0, 1) := by decide +kernel
theorem dX6_change_1 : decode cX6_change 1 = .ok (.getfield 23, 3) := by decide +kernel
theorem dX6_change_4 : decode cX6_change 4 = .ok (.iload_n 1, 1) := by decide +kernel
theorem dX6_change_5 : decode cX6_change 5 = .ok (.iload_n 2, 1) := by decide +kernel
theorem dX6_change_6 : decode cX6_change 6 = .ok (.ifCond .eq 14, 3) := by decide +kernel
theorem dX6_change_9 : decode cX6_change 9 = .ok (.aload_n 0, 1) := by decide +kernel
theorem dX6_change_10 : decode cX6_change 10 = .ok (.getfield 23, 3) := by decide +kernel
theorem dX6_change_13 : decode cX6_change 13 = .ok (.iload_n 1, 1) := by decide +kernel
theorem dX6_change_14 : decode cX6_change 14 = .ok (.iaload, 1) := by decide +kernel
theorem dX6_change_15 : decode cX6_change 15 = .ok (.iconst 1, 1) := by decide +kernel
theorem dX6_change_16 : decode cX6_change 16 = .ok (.iadd, 1) := by decide +kernel
theorem dX6_change_17 : decode cX6_change 17 = .ok (.goto 9, 3) := by decide +kernel
theorem dX6_change_20 : decode cX6_change 20 = .ok (.aload_n 0, 1) := by decide +kernel
theorem dX6_change_21 : decode cX6_change 21 = .ok (.getfield 23, 3) := by decide +kernel
theorem dX6_change_24 : decode cX6_change 24 = .ok (.iload_n 1, 1) := by decide +kernel
theorem dX6_change_25 : decode cX6_change 25 = .ok (.iaload, 1) := by decide +kernel
theorem dX6_change_26 : decode cX6_change 26 = .ok (.iastore, 1) := by decide +kernel
theorem dX6_change_27 : decode cX6_change 27 = .ok (.return_, 1) := by decide +kernel
theorem dX6_camera_0 : decode cX6_camera 0 = .ok (.aload_n 0, 1) := by decide +kernel
theorem dX6_camera_1 : decode cX6_camera 1 = .ok (.aload_n 0, 1) := by decide +kernel
theorem dX6_camera_2 : decode cX6_camera 2 = .ok (.iload_n 1, 1) := by decide +kernel
theorem dX6_camera_3 : decode cX6_camera 3 = .ok (.invokevirtual 118, 3) := by decide +kernel
theorem dX6_camera_6 : decode cX6_camera 6 = .ok (.ifCond .ne 7, 3) := by decide +kernel
theorem dX6_camera_9 : decode cX6_camera 9 = .ok (.iconst 1, 1) := by decide +kernel
theorem dX6_camera_10 : decode cX6_camera 10 = .ok (.goto 28, 3) := by decide +kernel
theorem dX6_camera_13 : decode cX6_camera 13 = .ok (.iload_n 2, 1) := by decide +kernel
theorem dX6_camera_14 : decode cX6_camera 14 = .ok (.iload_n 3, 1) := by decide +kernel
theorem dX6_camera_15 : decode cX6_camera 15 = .ok (.invokestatic 98, 3) := by decide +kernel
theorem dX6_camera_18 : decode cX6_camera 18 = .ok (.ifCond .ne 7, 3) := by decide +kernel
theorem dX6_camera_21 : decode cX6_camera 21 = .ok (.iconst 2, 1) := by decide +kernel
theorem dX6_camera_22 : decode cX6_camera 22 = .ok (.goto 16, 3) := by decide +kernel
theorem dX6_camera_25 : decode cX6_camera 25 = .ok (.aload_n 0, 1) := by decide +kernel
theorem dX6_camera_26 : decode cX6_camera 26 = .ok (.iload_n 1, 1) := by decide +kernel
theorem dX6_camera_27 : decode cX6_camera 27 = .ok (.invokevirtual 121, 3) := by decide +kernel
theorem dX6_camera_30 : decode cX6_camera 30 = .ok (.ifCond .ge 7, 3) := by decide +kernel
theorem dX6_camera_33 : decode cX6_camera 33 = .ok (.iconst 3, 1) := by decide +kernel
theorem dX6_camera_34 : decode cX6_camera 34 = .ok (.goto 4, 3) := by decide +kernel
theorem dX6_camera_37 : decode cX6_camera 37 = .ok (.iconst 0, 1) := by decide +kernel
theorem dX6_camera_38 : decode cX6_camera 38 = .ok (.invokevirtual 102, 3) := by decide +kernel
theorem dX6_camera_41 : decode cX6_camera 41 = .ok (.ifCond .eq 5, 3) := by decide +kernel
theorem dX6_camera_44 : decode cX6_camera 44 = .ok (.iconst 0, 1) := by decide +kernel
theorem dX6_camera_45 : decode cX6_camera 45 = .ok (.ireturn, 1) := by decide +kernel
theorem dX6_camera_46 : decode cX6_camera 46 = .ok (.aload_n 0, 1) := by decide +kernel
theorem dX6_camera_47 : decode cX6_camera 47 = .ok (.iload_n 1, 1) := by decide +kernel
theorem dX6_camera_48 : decode cX6_camera 48 = .ok (.aload_n 0, 1) := by decide +kernel
theorem dX6_camera_49 : decode cX6_camera 49 = .ok (.getfield 13, 3) := by decide +kernel
theorem dX6_camera_52 : decode cX6_camera 52 = .ok (.iload_n 1, 1) := by decide +kernel
theorem dX6_camera_53 : decode cX6_camera 53 = .ok (.caload, 1) := by decide +kernel
theorem dX6_camera_54 : decode cX6_camera 54 = .ok (.iload_n 2, 1) := by decide +kernel
theorem dX6_camera_55 : decode cX6_camera 55 = .ok (.if_icmp .ne 13, 3) := by decide +kernel
theorem dX6_camera_58 : decode cX6_camera 58 = .ok (.aload_n 0, 1) := by decide +kernel
theorem dX6_camera_59 : decode cX6_camera 59 = .ok (.getfield 17, 3) := by decide +kernel
theorem dX6_camera_62 : decode cX6_camera 62 = .ok (.iload_n 1, 1) := by decide +kernel
theorem dX6_camera_63 : decode cX6_camera 63 = .ok (.iaload, 1) := by decide +kernel
theorem dX6_camera_64 : decode cX6_camera 64 = .ok (.iload_n 3, 1) := by decide +kernel
theorem dX6_camera_65 : decode cX6_camera 65 = .ok (.if_icmp .eq 7, 3) := by decide +kernel
theorem dX6_camera_68 : decode cX6_camera 68 = .ok (.iconst 1, 1) := by decide +kernel
theorem dX6_camera_69 : decode cX6_camera 69 = .ok (.goto 4, 3) := by decide +kernel
theorem dX6_camera_72 : decode cX6_camera 72 = .ok (.iconst 0, 1) := by decide +kernel
theorem dX6_camera_73 : decode cX6_camera 73 = .ok (.invokevirtual 129, 3) := by decide +kernel
theorem dX6_camera_76 : decode cX6_camera 76 = .ok (.aload_n 0, 1) := by decide +kernel
theorem dX6_camera_77 : decode cX6_camera 77 = .ok (.getfield 13, 3) := by decide +kernel
theorem dX6_camera_80 : decode cX6_camera 80 = .ok (.iload_n 1, 1) := by decide +kernel
theorem dX6_camera_81 : decode cX6_camera 81 = .ok (.iload_n 2, 1) := by decide +kernel
theorem dX6_camera_82 : decode cX6_camera 82 = .ok (.castore, 1) := by decide +kernel
theorem dX6_camera_83 : decode cX6_camera 83 = .ok (.aload_n 0, 1) := by decide +kernel
theorem dX6_camera_84 : decode cX6_camera 84 = .ok (.getfield 17, 3) := by decide +kernel
theorem dX6_camera_87 : decode cX6_camera 87 = .ok (.iload_n 1, 1) := by decide +kernel
theorem dX6_camera_88 : decode cX6_camera 88 = .ok (.iload_n 3, 1) := by decide +kernel
theorem dX6_camera_89 : decode cX6_camera 89 = .ok (.iastore, 1) := by decide +kernel
theorem dX6_camera_90 : decode cX6_camera 90 = .ok (.aload_n 0, 1) := by decide +kernel
theorem dX6_camera_91 : decode cX6_camera 91 = .ok (.getfield 23, 3) := by decide +kernel
theorem dX6_camera_94 : decode cX6_camera 94 = .ok (.iload_n 1, 1) := by decide +kernel
theorem dX6_camera_95 : decode cX6_camera 95 = .ok (.iaload, 1) := by decide +kernel
theorem dX6_camera_96 : decode cX6_camera 96 = .ok (.ireturn, 1) := by decide +kernel
theorem dX6_length_0 : decode cX6_length 0 = .ok (.aload_n 0, 1) := by decide +kernel
theorem dX6_length_1 : decode cX6_length 1 = .ok (.aload_n 0, 1) := by decide +kernel
theorem dX6_length_2 : decode cX6_length 2 = .ok (.iload_n 1, 1) := by decide +kernel
theorem dX6_length_3 : decode cX6_length 3 = .ok (.invokevirtual 118, 3) := by decide +kernel
theorem dX6_length_6 : decode cX6_length 6 = .ok (.ifCond .ne 7, 3) := by decide +kernel
theorem dX6_length_9 : decode cX6_length 9 = .ok (.iconst 1, 1) := by decide +kernel
theorem dX6_length_10 : decode cX6_length 10 = .ok (.goto 31, 3) := by decide +kernel
theorem dX6_length_13 : decode cX6_length 13 = .ok (.iload_n 2, 1) := by decide +kernel
theorem dX6_length_14 : decode cX6_length 14 = .ok (.iconst 1, 1) := by decide +kernel
theorem dX6_length_15 : decode cX6_length 15 = .ok (.sipush 240, 3) := by decide +kernel
theorem dX6_length_18 : decode cX6_length 18 = .ok (.invokestatic 91, 3) := by decide +kernel
theorem dX6_length_21 : decode cX6_length 21 = .ok (.ifCond .ne 7, 3) := by decide +kernel
theorem dX6_length_24 : decode cX6_length 24 = .ok (.iconst 2, 1) := by decide +kernel
theorem dX6_length_25 : decode cX6_length 25 = .ok (.goto 16, 3) := by decide +kernel
theorem dX6_length_28 : decode cX6_length 28 = .ok (.aload_n 0, 1) := by decide +kernel
theorem dX6_length_29 : decode cX6_length 29 = .ok (.iload_n 1, 1) := by decide +kernel
theorem dX6_length_30 : decode cX6_length 30 = .ok (.invokevirtual 121, 3) := by decide +kernel
theorem dX6_length_33 : decode cX6_length 33 = .ok (.ifCond .ge 7, 3) := by decide +kernel
theorem dX6_length_36 : decode cX6_length 36 = .ok (.iconst 3, 1) := by decide +kernel
theorem dX6_length_37 : decode cX6_length 37 = .ok (.goto 4, 3) := by decide +kernel
theorem dX6_length_40 : decode cX6_length 40 = .ok (.iconst 0, 1) := by decide +kernel
theorem dX6_length_41 : decode cX6_length 41 = .ok (.invokevirtual 102, 3) := by decide +kernel
theorem dX6_length_44 : decode cX6_length 44 = .ok (.ifCond .eq 5, 3) := by decide +kernel
theorem dX6_length_47 : decode cX6_length 47 = .ok (.iconst 0, 1) := by decide +kernel
theorem dX6_length_48 : decode cX6_length 48 = .ok (.ireturn, 1) := by decide +kernel
theorem dX6_length_49 : decode cX6_length 49 = .ok (.aload_n 0, 1) := by decide +kernel
theorem dX6_length_50 : decode cX6_length 50 = .ok (.getfield 20, 3) := by decide +kernel
theorem dX6_length_53 : decode cX6_length 53 = .ok (.iload_n 1, 1) := by decide +kernel
theorem dX6_length_54 : decode cX6_length 54 = .ok (.iaload, 1) := by decide +kernel
theorem dX6_length_55 : decode cX6_length 55 = .ok (.istore_n 3, 1) := by decide +kernel
theorem dX6_length_56 : decode cX6_length 56 = .ok (.aload_n 0, 1) := by decide +kernel
theorem dX6_length_57 : decode cX6_length 57 = .ok (.iload_n 1, 1) := by decide +kernel
theorem dX6_length_58 : decode cX6_length 58 = .ok (.iload_n 3, 1) := by decide +kernel
theorem dX6_length_59 : decode cX6_length 59 = .ok (.iload_n 2, 1) := by decide +kernel
theorem dX6_length_60 : decode cX6_length 60 = .ok (.if_icmp .eq 7, 3) := by decide +kernel
theorem dX6_length_63 : decode cX6_length 63 = .ok (.iconst 1, 1) := by decide +kernel
theorem dX6_length_64 : decode cX6_length 64 = .ok (.goto 4, 3) := by decide +kernel
theorem dX6_length_67 : decode cX6_length 67 = .ok (.iconst 0, 1) := by decide +kernel
theorem dX6_length_68 : decode cX6_length 68 = .ok (.invokevirtual 129, 3) := by decide +kernel
theorem dX6_length_71 : decode cX6_length 71 = .ok (.aload_n 0, 1) := by decide +kernel
theorem dX6_length_72 : decode cX6_length 72 = .ok (.getfield 20, 3) := by decide +kernel
theorem dX6_length_75 : decode cX6_length 75 = .ok (.iload_n 1, 1) := by decide +kernel
theorem dX6_length_76 : decode cX6_length 76 = .ok (.iload_n 2, 1) := by decide +kernel
theorem dX6_length_77 : decode cX6_length 77 = .ok (.iastore, 1) := by decide +kernel
theorem dX6_length_78 : decode cX6_length 78 = .ok (.iload_n 3, 1) := by decide +kernel
theorem dX6_length_79 : decode cX6_length 79 = .ok (.ireturn, 1) := by decide +kernel
theorem dX6_countIn_0 : decode cX6_countIn 0 = .ok (.iconst 0, 1) := by decide +kernel
theorem dX6_countIn_1 : decode cX6_countIn 1 = .ok (.istore_n 2, 1) := by decide +kernel
theorem dX6_countIn_2 : decode cX6_countIn 2 = .ok (.iconst 4, 1) := by decide +kernel
theorem dX6_countIn_3 : decode cX6_countIn 3 = .ok (.iload_n 1, 1) := by decide +kernel
theorem dX6_countIn_4 : decode cX6_countIn 4 = .ok (.imul, 1) := by decide +kernel
theorem dX6_countIn_5 : decode cX6_countIn 5 = .ok (.istore_n 3, 1) := by decide +kernel
theorem dX6_countIn_6 : decode cX6_countIn 6 = .ok (.iload_n 3, 1) := by decide +kernel
theorem dX6_countIn_7 : decode cX6_countIn 7 = .ok (.iconst 4, 1) := by decide +kernel
theorem dX6_countIn_8 : decode cX6_countIn 8 = .ok (.iload_n 1, 1) := by decide +kernel
theorem dX6_countIn_9 : decode cX6_countIn 9 = .ok (.imul, 1) := by decide +kernel
theorem dX6_countIn_10 : decode cX6_countIn 10 = .ok (.iconst 4, 1) := by decide +kernel
theorem dX6_countIn_11 : decode cX6_countIn 11 = .ok (.iadd, 1) := by decide +kernel
theorem dX6_countIn_12 : decode cX6_countIn 12 = .ok (.if_icmp .ge 28, 3) := by decide +kernel
theorem dX6_countIn_15 : decode cX6_countIn 15 = .ok (.aload_n 0, 1) := by decide +kernel
theorem dX6_countIn_16 : decode cX6_countIn 16 = .ok (.getfield 36, 3) := by decide +kernel
theorem dX6_countIn_19 : decode cX6_countIn 19 = .ok (.iload_n 3, 1) := by decide +kernel
theorem dX6_countIn_20 : decode cX6_countIn 20 = .ok (.caload, 1) := by decide +kernel
theorem dX6_countIn_21 : decode cX6_countIn 21 = .ok (.bipush 45, 2) := by decide +kernel
theorem dX6_countIn_23 : decode cX6_countIn 23 = .ok (.if_icmp .eq 9, 3) := by decide +kernel
theorem dX6_countIn_26 : decode cX6_countIn 26 = .ok (.iload_n 2, 1) := by decide +kernel
theorem dX6_countIn_27 : decode cX6_countIn 27 = .ok (.iconst 1, 1) := by decide +kernel
theorem dX6_countIn_28 : decode cX6_countIn 28 = .ok (.iadd, 1) := by decide +kernel
theorem dX6_countIn_29 : decode cX6_countIn 29 = .ok (.goto 4, 3) := by decide +kernel
theorem dX6_countIn_32 : decode cX6_countIn 32 = .ok (.iload_n 2, 1) := by decide +kernel
theorem dX6_countIn_33 : decode cX6_countIn 33 = .ok (.istore_n 2, 1) := by decide +kernel
theorem dX6_countIn_34 : decode cX6_countIn 34 = .ok (.iinc 3 1, 3) := by decide +kernel
theorem dX6_countIn_37 : decode cX6_countIn 37 = .ok (.goto (-31), 3) := by decide +kernel
theorem dX6_countIn_40 : decode cX6_countIn 40 = .ok (.iload_n 2, 1) := by decide +kernel
theorem dX6_countIn_41 : decode cX6_countIn 41 = .ok (.ireturn, 1) := by decide +kernel
theorem dX6_stand_0 : decode cX6_stand 0 = .ok (.iload_n 2, 1) := by decide +kernel
theorem dX6_stand_1 : decode cX6_stand 1 = .ok (.iconst 0, 1) := by decide +kernel
theorem dX6_stand_2 : decode cX6_stand 2 = .ok (.iconst 3, 1) := by decide +kernel
theorem dX6_stand_3 : decode cX6_stand 3 = .ok (.invokestatic 91, 3) := by decide +kernel
theorem dX6_stand_6 : decode cX6_stand 6 = .ok (.ifCond .eq 28, 3) := by decide +kernel
theorem dX6_stand_9 : decode cX6_stand 9 = .ok (.iload_n 3, 1) := by decide +kernel
theorem dX6_stand_10 : decode cX6_stand 10 = .ok (.bipush 45, 2) := by decide +kernel
theorem dX6_stand_12 : decode cX6_stand 12 = .ok (.if_icmp .eq 18, 3) := by decide +kernel
theorem dX6_stand_15 : decode cX6_stand 15 = .ok (.iload_n 3, 1) := by decide +kernel
theorem dX6_stand_16 : decode cX6_stand 16 = .ok (.invokestatic 133, 3) := by decide +kernel
theorem dX6_stand_19 : decode cX6_stand 19 = .ok (.ifCond .eq 15, 3) := by decide +kernel
theorem dX6_stand_22 : decode cX6_stand 22 = .ok (.iload 4, 2) := by decide +kernel
theorem dX6_stand_24 : decode cX6_stand 24 = .ok (.invokestatic 133, 3) := by decide +kernel
theorem dX6_stand_27 : decode cX6_stand 27 = .ok (.ifCond .eq 7, 3) := by decide +kernel
theorem dX6_stand_30 : decode cX6_stand 30 = .ok (.iconst 1, 1) := by decide +kernel
theorem dX6_stand_31 : decode cX6_stand 31 = .ok (.goto 4, 3) := by decide +kernel
theorem dX6_stand_34 : decode cX6_stand 34 = .ok (.iconst 0, 1) := by decide +kernel
theorem dX6_stand_35 : decode cX6_stand 35 = .ok (.istore 5, 2) := by decide +kernel
theorem dX6_stand_37 : decode cX6_stand 37 = .ok (.aload_n 0, 1) := by decide +kernel
theorem dX6_stand_38 : decode cX6_stand 38 = .ok (.aload_n 0, 1) := by decide +kernel
theorem dX6_stand_39 : decode cX6_stand 39 = .ok (.iload_n 1, 1) := by decide +kernel
theorem dX6_stand_40 : decode cX6_stand 40 = .ok (.invokevirtual 118, 3) := by decide +kernel
theorem dX6_stand_43 : decode cX6_stand 43 = .ok (.ifCond .ne 7, 3) := by decide +kernel
theorem dX6_stand_46 : decode cX6_stand 46 = .ok (.iconst 1, 1) := by decide +kernel
theorem dX6_stand_47 : decode cX6_stand 47 = .ok (.goto 25, 3) := by decide +kernel
theorem dX6_stand_50 : decode cX6_stand 50 = .ok (.iload 5, 2) := by decide +kernel
theorem dX6_stand_52 : decode cX6_stand 52 = .ok (.ifCond .ne 7, 3) := by decide +kernel
theorem dX6_stand_55 : decode cX6_stand 55 = .ok (.iconst 2, 1) := by decide +kernel
theorem dX6_stand_56 : decode cX6_stand 56 = .ok (.goto 16, 3) := by decide +kernel
theorem dX6_stand_59 : decode cX6_stand 59 = .ok (.aload_n 0, 1) := by decide +kernel
theorem dX6_stand_60 : decode cX6_stand 60 = .ok (.iload_n 1, 1) := by decide +kernel
theorem dX6_stand_61 : decode cX6_stand 61 = .ok (.invokevirtual 121, 3) := by decide +kernel
theorem dX6_stand_64 : decode cX6_stand 64 = .ok (.ifCond .ge 7, 3) := by decide +kernel
theorem dX6_stand_67 : decode cX6_stand 67 = .ok (.iconst 3, 1) := by decide +kernel
theorem dX6_stand_68 : decode cX6_stand 68 = .ok (.goto 4, 3) := by decide +kernel
theorem dX6_stand_71 : decode cX6_stand 71 = .ok (.iconst 0, 1) := by decide +kernel
theorem dX6_stand_72 : decode cX6_stand 72 = .ok (.invokevirtual 102, 3) := by decide +kernel
theorem dX6_stand_75 : decode cX6_stand 75 = .ok (.ifCond .eq 5, 3) := by decide +kernel
theorem dX6_stand_78 : decode cX6_stand 78 = .ok (.iconst 0, 1) := by decide +kernel
theorem dX6_stand_79 : decode cX6_stand 79 = .ok (.ireturn, 1) := by decide +kernel
theorem dX6_stand_80 : decode cX6_stand 80 = .ok (.iconst 4, 1) := by decide +kernel
theorem dX6_stand_81 : decode cX6_stand 81 = .ok (.iload_n 1, 1) := by decide +kernel
theorem dX6_stand_82 : decode cX6_stand 82 = .ok (.imul, 1) := by decide +kernel
theorem dX6_stand_83 : decode cX6_stand 83 = .ok (.iload_n 2, 1) := by decide +kernel
theorem dX6_stand_84 : decode cX6_stand 84 = .ok (.iadd, 1) := by decide +kernel
theorem dX6_stand_85 : decode cX6_stand 85 = .ok (.istore 6, 2) := by decide +kernel
theorem dX6_stand_87 : decode cX6_stand 87 = .ok (.iload_n 3, 1) := by decide +kernel
theorem dX6_stand_88 : decode cX6_stand 88 = .ok (.bipush 45, 2) := by decide +kernel
theorem dX6_stand_90 : decode cX6_stand 90 = .ok (.if_icmp .ne 8, 3) := by decide +kernel
theorem dX6_stand_93 : decode cX6_stand 93 = .ok (.bipush 45, 2) := by decide +kernel
theorem dX6_stand_95 : decode cX6_stand 95 = .ok (.goto 5, 3) := by decide +kernel
theorem dX6_stand_98 : decode cX6_stand 98 = .ok (.iload 4, 2) := by decide +kernel
theorem dX6_stand_100 : decode cX6_stand 100 = .ok (.istore 7, 2) := by decide +kernel
theorem dX6_stand_102 : decode cX6_stand 102 = .ok (.aload_n 0, 1) := by decide +kernel
theorem dX6_stand_103 : decode cX6_stand 103 = .ok (.iload_n 1, 1) := by decide +kernel
theorem dX6_stand_104 : decode cX6_stand 104 = .ok (.aload_n 0, 1) := by decide +kernel
theorem dX6_stand_105 : decode cX6_stand 105 = .ok (.getfield 36, 3) := by decide +kernel
theorem dX6_stand_108 : decode cX6_stand 108 = .ok (.iload 6, 2) := by decide +kernel
theorem dX6_stand_110 : decode cX6_stand 110 = .ok (.caload, 1) := by decide +kernel
theorem dX6_stand_111 : decode cX6_stand 111 = .ok (.iload_n 3, 1) := by decide +kernel
theorem dX6_stand_112 : decode cX6_stand 112 = .ok (.if_icmp .ne 15, 3) := by decide +kernel
theorem dX6_stand_115 : decode cX6_stand 115 = .ok (.aload_n 0, 1) := by decide +kernel
theorem dX6_stand_116 : decode cX6_stand 116 = .ok (.getfield 39, 3) := by decide +kernel
theorem dX6_stand_119 : decode cX6_stand 119 = .ok (.iload 6, 2) := by decide +kernel
theorem dX6_stand_121 : decode cX6_stand 121 = .ok (.caload, 1) := by decide +kernel
theorem dX6_stand_122 : decode cX6_stand 122 = .ok (.iload 7, 2) := by decide +kernel
theorem dX6_stand_124 : decode cX6_stand 124 = .ok (.if_icmp .eq 7, 3) := by decide +kernel
theorem dX6_stand_127 : decode cX6_stand 127 = .ok (.iconst 1, 1) := by decide +kernel
theorem dX6_stand_128 : decode cX6_stand 128 = .ok (.goto 4, 3) := by decide +kernel
theorem dX6_stand_131 : decode cX6_stand 131 = .ok (.iconst 0, 1) := by decide +kernel
theorem dX6_stand_132 : decode cX6_stand 132 = .ok (.invokevirtual 129, 3) := by decide +kernel
theorem dX6_stand_135 : decode cX6_stand 135 = .ok (.aload_n 0, 1) := by decide +kernel
theorem dX6_stand_136 : decode cX6_stand 136 = .ok (.getfield 36, 3) := by decide +kernel
theorem dX6_stand_139 : decode cX6_stand 139 = .ok (.iload 6, 2) := by decide +kernel
theorem dX6_stand_141 : decode cX6_stand 141 = .ok (.iload_n 3, 1) := by decide +kernel
theorem dX6_stand_142 : decode cX6_stand 142 = .ok (.castore, 1) := by decide +kernel
theorem dX6_stand_143 : decode cX6_stand 143 = .ok (.aload_n 0, 1) := by decide +kernel
theorem dX6_stand_144 : decode cX6_stand 144 = .ok (.getfield 39, 3) := by decide +kernel
theorem dX6_stand_147 : decode cX6_stand 147 = .ok (.iload 6, 2) := by decide +kernel
theorem dX6_stand_149 : decode cX6_stand 149 = .ok (.iload 7, 2) := by decide +kernel
theorem dX6_stand_151 : decode cX6_stand 151 = .ok (.castore, 1) := by decide +kernel
theorem dX6_stand_152 : decode cX6_stand 152 = .ok (.iload_n 3, 1) := by decide +kernel
theorem dX6_stand_153 : decode cX6_stand 153 = .ok (.bipush 45, 2) := by decide +kernel
theorem dX6_stand_155 : decode cX6_stand 155 = .ok (.if_icmp .ne 21, 3) := by decide +kernel
theorem dX6_stand_158 : decode cX6_stand 158 = .ok (.aload_n 0, 1) := by decide +kernel
theorem dX6_stand_159 : decode cX6_stand 159 = .ok (.getfield 42, 3) := by decide +kernel
theorem dX6_stand_162 : decode cX6_stand 162 = .ok (.iload 6, 2) := by decide +kernel
theorem dX6_stand_164 : decode cX6_stand 164 = .ok (.bipush 45, 2) := by decide +kernel
theorem dX6_stand_166 : decode cX6_stand 166 = .ok (.castore, 1) := by decide +kernel
theorem dX6_stand_167 : decode cX6_stand 167 = .ok (.aload_n 0, 1) := by decide +kernel
theorem dX6_stand_168 : decode cX6_stand 168 = .ok (.getfield 45, 3) := by decide +kernel
theorem dX6_stand_171 : decode cX6_stand 171 = .ok (.iload 6, 2) := by decide +kernel
theorem dX6_stand_173 : decode cX6_stand 173 = .ok (.bipush 45, 2) := by decide +kernel
theorem dX6_stand_175 : decode cX6_stand 175 = .ok (.castore, 1) := by decide +kernel
theorem dX6_stand_176 : decode cX6_stand 176 = .ok (.aload_n 0, 1) := by decide +kernel
theorem dX6_stand_177 : decode cX6_stand 177 = .ok (.iload_n 1, 1) := by decide +kernel
theorem dX6_stand_178 : decode cX6_stand 178 = .ok (.invokevirtual 137, 3) := by decide +kernel
theorem dX6_stand_181 : decode cX6_stand 181 = .ok (.ireturn, 1) := by decide +kernel
theorem dX6_noEdge_0 : decode cX6_noEdge 0 = .ok (.aload_n 0, 1) := by decide +kernel
theorem dX6_noEdge_1 : decode cX6_noEdge 1 = .ok (.iload_n 1, 1) := by decide +kernel
theorem dX6_noEdge_2 : decode cX6_noEdge 2 = .ok (.invokevirtual 118, 3) := by decide +kernel
theorem dX6_noEdge_5 : decode cX6_noEdge 5 = .ok (.ifCond .ne 7, 3) := by decide +kernel
theorem dX6_noEdge_8 : decode cX6_noEdge 8 = .ok (.iconst 1, 1) := by decide +kernel
theorem dX6_noEdge_9 : decode cX6_noEdge 9 = .ok (.goto 51, 3) := by decide +kernel
theorem dX6_noEdge_12 : decode cX6_noEdge 12 = .ok (.iload_n 2, 1) := by decide +kernel
theorem dX6_noEdge_13 : decode cX6_noEdge 13 = .ok (.iconst 0, 1) := by decide +kernel
theorem dX6_noEdge_14 : decode cX6_noEdge 14 = .ok (.iconst 3, 1) := by decide +kernel
theorem dX6_noEdge_15 : decode cX6_noEdge 15 = .ok (.invokestatic 91, 3) := by decide +kernel
theorem dX6_noEdge_18 : decode cX6_noEdge 18 = .ok (.ifCond .eq 10, 3) := by decide +kernel
theorem dX6_noEdge_21 : decode cX6_noEdge 21 = .ok (.iload_n 3, 1) := by decide +kernel
theorem dX6_noEdge_22 : decode cX6_noEdge 22 = .ok (.invokestatic 140, 3) := by decide +kernel
theorem dX6_noEdge_25 : decode cX6_noEdge 25 = .ok (.ifCond .ne 7, 3) := by decide +kernel
theorem dX6_noEdge_28 : decode cX6_noEdge 28 = .ok (.iconst 2, 1) := by decide +kernel
theorem dX6_noEdge_29 : decode cX6_noEdge 29 = .ok (.goto 31, 3) := by decide +kernel
theorem dX6_noEdge_32 : decode cX6_noEdge 32 = .ok (.aload_n 0, 1) := by decide +kernel
theorem dX6_noEdge_33 : decode cX6_noEdge 33 = .ok (.iload_n 1, 1) := by decide +kernel
theorem dX6_noEdge_34 : decode cX6_noEdge 34 = .ok (.invokevirtual 121, 3) := by decide +kernel
theorem dX6_noEdge_37 : decode cX6_noEdge 37 = .ok (.ifCond .lt 18, 3) := by decide +kernel
theorem dX6_noEdge_40 : decode cX6_noEdge 40 = .ok (.aload_n 0, 1) := by decide +kernel
theorem dX6_noEdge_41 : decode cX6_noEdge 41 = .ok (.getfield 36, 3) := by decide +kernel
theorem dX6_noEdge_44 : decode cX6_noEdge 44 = .ok (.iconst 4, 1) := by decide +kernel
theorem dX6_noEdge_45 : decode cX6_noEdge 45 = .ok (.iload_n 1, 1) := by decide +kernel
theorem dX6_noEdge_46 : decode cX6_noEdge 46 = .ok (.imul, 1) := by decide +kernel
theorem dX6_noEdge_47 : decode cX6_noEdge 47 = .ok (.iload_n 2, 1) := by decide +kernel
theorem dX6_noEdge_48 : decode cX6_noEdge 48 = .ok (.iadd, 1) := by decide +kernel
theorem dX6_noEdge_49 : decode cX6_noEdge 49 = .ok (.caload, 1) := by decide +kernel
theorem dX6_noEdge_50 : decode cX6_noEdge 50 = .ok (.bipush 45, 2) := by decide +kernel
theorem dX6_noEdge_52 : decode cX6_noEdge 52 = .ok (.if_icmp .ne 7, 3) := by decide +kernel
theorem dX6_noEdge_55 : decode cX6_noEdge 55 = .ok (.iconst 3, 1) := by decide +kernel
theorem dX6_noEdge_56 : decode cX6_noEdge 56 = .ok (.goto 4, 3) := by decide +kernel
theorem dX6_noEdge_59 : decode cX6_noEdge 59 = .ok (.iconst 0, 1) := by decide +kernel
theorem dX6_noEdge_60 : decode cX6_noEdge 60 = .ok (.ireturn, 1) := by decide +kernel
theorem dX6_enters_0 : decode cX6_enters 0 = .ok (.aload_n 0, 1) := by decide +kernel
theorem dX6_enters_1 : decode cX6_enters 1 = .ok (.aload_n 0, 1) := by decide +kernel
theorem dX6_enters_2 : decode cX6_enters 2 = .ok (.iload_n 1, 1) := by decide +kernel
theorem dX6_enters_3 : decode cX6_enters 3 = .ok (.iload_n 2, 1) := by decide +kernel
theorem dX6_enters_4 : decode cX6_enters 4 = .ok (.iload_n 3, 1) := by decide +kernel
theorem dX6_enters_5 : decode cX6_enters 5 = .ok (.invokevirtual 143, 3) := by decide +kernel
theorem dX6_enters_8 : decode cX6_enters 8 = .ok (.invokevirtual 102, 3) := by decide +kernel
theorem dX6_enters_11 : decode cX6_enters 11 = .ok (.ifCond .eq 6, 3) := by decide +kernel
theorem dX6_enters_14 : decode cX6_enters 14 = .ok (.bipush 32, 2) := by decide +kernel
theorem dX6_enters_16 : decode cX6_enters 16 = .ok (.ireturn, 1) := by decide +kernel
theorem dX6_enters_17 : decode cX6_enters 17 = .ok (.aload_n 0, 1) := by decide +kernel
theorem dX6_enters_18 : decode cX6_enters 18 = .ok (.getfield 42, 3) := by decide +kernel
theorem dX6_enters_21 : decode cX6_enters 21 = .ok (.iconst 4, 1) := by decide +kernel
theorem dX6_enters_22 : decode cX6_enters 22 = .ok (.iload_n 1, 1) := by decide +kernel
theorem dX6_enters_23 : decode cX6_enters 23 = .ok (.imul, 1) := by decide +kernel
theorem dX6_enters_24 : decode cX6_enters 24 = .ok (.iload_n 2, 1) := by decide +kernel
theorem dX6_enters_25 : decode cX6_enters 25 = .ok (.iadd, 1) := by decide +kernel
theorem dX6_enters_26 : decode cX6_enters 26 = .ok (.caload, 1) := by decide +kernel
theorem dX6_enters_27 : decode cX6_enters 27 = .ok (.istore 4, 2) := by decide +kernel
theorem dX6_enters_29 : decode cX6_enters 29 = .ok (.aload_n 0, 1) := by decide +kernel
theorem dX6_enters_30 : decode cX6_enters 30 = .ok (.iload_n 1, 1) := by decide +kernel
theorem dX6_enters_31 : decode cX6_enters 31 = .ok (.iload 4, 2) := by decide +kernel
theorem dX6_enters_33 : decode cX6_enters 33 = .ok (.iload_n 3, 1) := by decide +kernel
theorem dX6_enters_34 : decode cX6_enters 34 = .ok (.if_icmp .eq 7, 3) := by decide +kernel
theorem dX6_enters_37 : decode cX6_enters 37 = .ok (.iconst 1, 1) := by decide +kernel
theorem dX6_enters_38 : decode cX6_enters 38 = .ok (.goto 4, 3) := by decide +kernel
theorem dX6_enters_41 : decode cX6_enters 41 = .ok (.iconst 0, 1) := by decide +kernel
theorem dX6_enters_42 : decode cX6_enters 42 = .ok (.invokevirtual 129, 3) := by decide +kernel
theorem dX6_enters_45 : decode cX6_enters 45 = .ok (.aload_n 0, 1) := by decide +kernel
theorem dX6_enters_46 : decode cX6_enters 46 = .ok (.getfield 42, 3) := by decide +kernel
theorem dX6_enters_49 : decode cX6_enters 49 = .ok (.iconst 4, 1) := by decide +kernel
theorem dX6_enters_50 : decode cX6_enters 50 = .ok (.iload_n 1, 1) := by decide +kernel
theorem dX6_enters_51 : decode cX6_enters 51 = .ok (.imul, 1) := by decide +kernel
theorem dX6_enters_52 : decode cX6_enters 52 = .ok (.iload_n 2, 1) := by decide +kernel
theorem dX6_enters_53 : decode cX6_enters 53 = .ok (.iadd, 1) := by decide +kernel
theorem dX6_enters_54 : decode cX6_enters 54 = .ok (.iload_n 3, 1) := by decide +kernel
theorem dX6_enters_55 : decode cX6_enters 55 = .ok (.castore, 1) := by decide +kernel
theorem dX6_enters_56 : decode cX6_enters 56 = .ok (.iload 4, 2) := by decide +kernel
theorem dX6_enters_58 : decode cX6_enters 58 = .ok (.ireturn, 1) := by decide +kernel
theorem dX6_leaves_0 : decode cX6_leaves 0 = .ok (.aload_n 0, 1) := by decide +kernel
theorem dX6_leaves_1 : decode cX6_leaves 1 = .ok (.aload_n 0, 1) := by decide +kernel
theorem dX6_leaves_2 : decode cX6_leaves 2 = .ok (.iload_n 1, 1) := by decide +kernel
theorem dX6_leaves_3 : decode cX6_leaves 3 = .ok (.iload_n 2, 1) := by decide +kernel
theorem dX6_leaves_4 : decode cX6_leaves 4 = .ok (.iload_n 3, 1) := by decide +kernel
theorem dX6_leaves_5 : decode cX6_leaves 5 = .ok (.invokevirtual 143, 3) := by decide +kernel
theorem dX6_leaves_8 : decode cX6_leaves 8 = .ok (.invokevirtual 102, 3) := by decide +kernel
theorem dX6_leaves_11 : decode cX6_leaves 11 = .ok (.ifCond .eq 6, 3) := by decide +kernel
theorem dX6_leaves_14 : decode cX6_leaves 14 = .ok (.bipush 32, 2) := by decide +kernel
theorem dX6_leaves_16 : decode cX6_leaves 16 = .ok (.ireturn, 1) := by decide +kernel
theorem dX6_leaves_17 : decode cX6_leaves 17 = .ok (.aload_n 0, 1) := by decide +kernel
theorem dX6_leaves_18 : decode cX6_leaves 18 = .ok (.getfield 45, 3) := by decide +kernel
theorem dX6_leaves_21 : decode cX6_leaves 21 = .ok (.iconst 4, 1) := by decide +kernel
theorem dX6_leaves_22 : decode cX6_leaves 22 = .ok (.iload_n 1, 1) := by decide +kernel
theorem dX6_leaves_23 : decode cX6_leaves 23 = .ok (.imul, 1) := by decide +kernel
theorem dX6_leaves_24 : decode cX6_leaves 24 = .ok (.iload_n 2, 1) := by decide +kernel
theorem dX6_leaves_25 : decode cX6_leaves 25 = .ok (.iadd, 1) := by decide +kernel
theorem dX6_leaves_26 : decode cX6_leaves 26 = .ok (.caload, 1) := by decide +kernel
theorem dX6_leaves_27 : decode cX6_leaves 27 = .ok (.istore 4, 2) := by decide +kernel
theorem dX6_leaves_29 : decode cX6_leaves 29 = .ok (.aload_n 0, 1) := by decide +kernel
theorem dX6_leaves_30 : decode cX6_leaves 30 = .ok (.iload_n 1, 1) := by decide +kernel
theorem dX6_leaves_31 : decode cX6_leaves 31 = .ok (.iload 4, 2) := by decide +kernel
theorem dX6_leaves_33 : decode cX6_leaves 33 = .ok (.iload_n 3, 1) := by decide +kernel
theorem dX6_leaves_34 : decode cX6_leaves 34 = .ok (.if_icmp .eq 7, 3) := by decide +kernel
theorem dX6_leaves_37 : decode cX6_leaves 37 = .ok (.iconst 1, 1) := by decide +kernel
theorem dX6_leaves_38 : decode cX6_leaves 38 = .ok (.goto 4, 3) := by decide +kernel
theorem dX6_leaves_41 : decode cX6_leaves 41 = .ok (.iconst 0, 1) := by decide +kernel
theorem dX6_leaves_42 : decode cX6_leaves 42 = .ok (.invokevirtual 129, 3) := by decide +kernel
theorem dX6_leaves_45 : decode cX6_leaves 45 = .ok (.aload_n 0, 1) := by decide +kernel
theorem dX6_leaves_46 : decode cX6_leaves 46 = .ok (.getfield 45, 3) := by decide +kernel
theorem dX6_leaves_49 : decode cX6_leaves 49 = .ok (.iconst 4, 1) := by decide +kernel
theorem dX6_leaves_50 : decode cX6_leaves 50 = .ok (.iload_n 1, 1) := by decide +kernel
theorem dX6_leaves_51 : decode cX6_leaves 51 = .ok (.imul, 1) := by decide +kernel
theorem dX6_leaves_52 : decode cX6_leaves 52 = .ok (.iload_n 2, 1) := by decide +kernel
theorem dX6_leaves_53 : decode cX6_leaves 53 = .ok (.iadd, 1) := by decide +kernel
theorem dX6_leaves_54 : decode cX6_leaves 54 = .ok (.iload_n 3, 1) := by decide +kernel
theorem dX6_leaves_55 : decode cX6_leaves 55 = .ok (.castore, 1) := by decide +kernel
theorem dX6_leaves_56 : decode cX6_leaves 56 = .ok (.iload 4, 2) := by decide +kernel
theorem dX6_leaves_58 : decode cX6_leaves 58 = .ok (.ireturn, 1) := by decide +kernel
theorem dX6_version_0 : decode cX6_version 0 = .ok (.aload_n 0, 1) := by decide +kernel
theorem dX6_version_1 : decode cX6_version 1 = .ok (.aload_n 0, 1) := by decide +kernel
theorem dX6_version_2 : decode cX6_version 2 = .ok (.iload_n 1, 1) := by decide +kernel
theorem dX6_version_3 : decode cX6_version 3 = .ok (.invokevirtual 118, 3) := by decide +kernel
theorem dX6_version_6 : decode cX6_version 6 = .ok (.ifCond .eq 7, 3) := by decide +kernel
theorem dX6_version_9 : decode cX6_version 9 = .ok (.iconst 0, 1) := by decide +kernel
theorem dX6_version_10 : decode cX6_version 10 = .ok (.goto 4, 3) := by decide +kernel
theorem dX6_version_13 : decode cX6_version 13 = .ok (.iconst 1, 1) := by decide +kernel
theorem dX6_version_14 : decode cX6_version 14 = .ok (.invokevirtual 102, 3) := by decide +kernel
theorem dX6_version_17 : decode cX6_version 17 = .ok (.ifCond .eq 7, 3) := by decide +kernel
theorem dX6_version_20 : decode cX6_version 20 = .ok (.iconst 0, 1) := by decide +kernel
theorem dX6_version_21 : decode cX6_version 21 = .ok (.goto 9, 3) := by decide +kernel
theorem dX6_version_24 : decode cX6_version 24 = .ok (.aload_n 0, 1) := by decide +kernel
theorem dX6_version_25 : decode cX6_version 25 = .ok (.getfield 23, 3) := by decide +kernel
theorem dX6_version_28 : decode cX6_version 28 = .ok (.iload_n 1, 1) := by decide +kernel
theorem dX6_version_29 : decode cX6_version 29 = .ok (.iaload, 1) := by decide +kernel
theorem dX6_version_30 : decode cX6_version 30 = .ok (.ireturn, 1) := by decide +kernel
theorem dX6_begins_0 : decode cX6_begins 0 = .ok (.iconst 0, 1) := by decide +kernel
theorem dX6_begins_1 : decode cX6_begins 1 = .ok (.istore_n 2, 1) := by decide +kernel
theorem dX6_begins_2 : decode cX6_begins 2 = .ok (.iconst 0, 1) := by decide +kernel
theorem dX6_begins_3 : decode cX6_begins 3 = .ok (.istore_n 3, 1) := by decide +kernel
theorem dX6_begins_4 : decode cX6_begins 4 = .ok (.iload_n 3, 1) := by decide +kernel
theorem dX6_begins_5 : decode cX6_begins 5 = .ok (.iload_n 1, 1) := by decide +kernel
theorem dX6_begins_6 : decode cX6_begins 6 = .ok (.if_icmp .ge 23, 3) := by decide +kernel
theorem dX6_begins_9 : decode cX6_begins 9 = .ok (.iload_n 2, 1) := by decide +kernel
theorem dX6_begins_10 : decode cX6_begins 10 = .ok (.aload_n 0, 1) := by decide +kernel
theorem dX6_begins_11 : decode cX6_begins 11 = .ok (.getfield 20, 3) := by decide +kernel
theorem dX6_begins_14 : decode cX6_begins 14 = .ok (.aload_n 0, 1) := by decide +kernel
theorem dX6_begins_15 : decode cX6_begins 15 = .ok (.getfield 7, 3) := by decide +kernel
theorem dX6_begins_18 : decode cX6_begins 18 = .ok (.iload_n 3, 1) := by decide +kernel
theorem dX6_begins_19 : decode cX6_begins 19 = .ok (.iaload, 1) := by decide +kernel
theorem dX6_begins_20 : decode cX6_begins 20 = .ok (.iaload, 1) := by decide +kernel
theorem dX6_begins_21 : decode cX6_begins 21 = .ok (.iadd, 1) := by decide +kernel
theorem dX6_begins_22 : decode cX6_begins 22 = .ok (.istore_n 2, 1) := by decide +kernel
theorem dX6_begins_23 : decode cX6_begins 23 = .ok (.iinc 3 1, 3) := by decide +kernel
theorem dX6_begins_26 : decode cX6_begins 26 = .ok (.goto (-22), 3) := by decide +kernel
theorem dX6_begins_29 : decode cX6_begins 29 = .ok (.iload_n 2, 1) := by decide +kernel
theorem dX6_begins_30 : decode cX6_begins 30 = .ok (.ireturn, 1) := by decide +kernel
theorem dX6_time_0 : decode cX6_time 0 = .ok (.aload_n 0, 1) := by decide +kernel
theorem dX6_time_1 : decode cX6_time 1 = .ok (.aload_n 0, 1) := by decide +kernel
theorem dX6_time_2 : decode cX6_time 2 = .ok (.iload_n 1, 1) := by decide +kernel
theorem dX6_time_3 : decode cX6_time 3 = .ok (.invokevirtual 118, 3) := by decide +kernel
theorem dX6_time_6 : decode cX6_time 6 = .ok (.ifCond .ne 7, 3) := by decide +kernel
theorem dX6_time_9 : decode cX6_time 9 = .ok (.iconst 1, 1) := by decide +kernel
theorem dX6_time_10 : decode cX6_time 10 = .ok (.goto 16, 3) := by decide +kernel
theorem dX6_time_13 : decode cX6_time 13 = .ok (.aload_n 0, 1) := by decide +kernel
theorem dX6_time_14 : decode cX6_time 14 = .ok (.iload_n 1, 1) := by decide +kernel
theorem dX6_time_15 : decode cX6_time 15 = .ok (.invokevirtual 121, 3) := by decide +kernel
theorem dX6_time_18 : decode cX6_time 18 = .ok (.ifCond .ge 7, 3) := by decide +kernel
theorem dX6_time_21 : decode cX6_time 21 = .ok (.iconst 2, 1) := by decide +kernel
theorem dX6_time_22 : decode cX6_time 22 = .ok (.goto 4, 3) := by decide +kernel
theorem dX6_time_25 : decode cX6_time 25 = .ok (.iconst 0, 1) := by decide +kernel
theorem dX6_time_26 : decode cX6_time 26 = .ok (.invokevirtual 102, 3) := by decide +kernel
theorem dX6_time_29 : decode cX6_time 29 = .ok (.ifCond .eq 7, 3) := by decide +kernel
theorem dX6_time_32 : decode cX6_time 32 = .ok (.iconst 0, 1) := by decide +kernel
theorem dX6_time_33 : decode cX6_time 33 = .ok (.goto 12, 3) := by decide +kernel
theorem dX6_time_36 : decode cX6_time 36 = .ok (.aload_n 0, 1) := by decide +kernel
theorem dX6_time_37 : decode cX6_time 37 = .ok (.aload_n 0, 1) := by decide +kernel
theorem dX6_time_38 : decode cX6_time 38 = .ok (.iload_n 1, 1) := by decide +kernel
theorem dX6_time_39 : decode cX6_time 39 = .ok (.invokevirtual 121, 3) := by decide +kernel
theorem dX6_time_42 : decode cX6_time 42 = .ok (.invokevirtual 147, 3) := by decide +kernel
theorem dX6_time_45 : decode cX6_time 45 = .ok (.ireturn, 1) := by decide +kernel
theorem dX6_seen_0 : decode cX6_seen 0 = .ok (.iconst (-1), 1) := by decide +kernel
theorem dX6_seen_1 : decode cX6_seen 1 = .ok (.istore_n 2, 1) := by decide +kernel
theorem dX6_seen_2 : decode cX6_seen 2 = .ok (.iconst 0, 1) := by decide +kernel
theorem dX6_seen_3 : decode cX6_seen 3 = .ok (.istore_n 3, 1) := by decide +kernel
theorem dX6_seen_4 : decode cX6_seen 4 = .ok (.iload_n 3, 1) := by decide +kernel
theorem dX6_seen_5 : decode cX6_seen 5 = .ok (.aload_n 0, 1) := by decide +kernel
theorem dX6_seen_6 : decode cX6_seen 6 = .ok (.getfield 95, 3) := by decide +kernel
theorem dX6_seen_9 : decode cX6_seen 9 = .ok (.if_icmp .ge 40, 3) := by decide +kernel
theorem dX6_seen_12 : decode cX6_seen 12 = .ok (.iload_n 1, 1) := by decide +kernel
theorem dX6_seen_13 : decode cX6_seen 13 = .ok (.aload_n 0, 1) := by decide +kernel
theorem dX6_seen_14 : decode cX6_seen 14 = .ok (.iload_n 3, 1) := by decide +kernel
theorem dX6_seen_15 : decode cX6_seen 15 = .ok (.invokevirtual 147, 3) := by decide +kernel
theorem dX6_seen_18 : decode cX6_seen 18 = .ok (.if_icmp .lt 23, 3) := by decide +kernel
theorem dX6_seen_21 : decode cX6_seen 21 = .ok (.iload_n 1, 1) := by decide +kernel
theorem dX6_seen_22 : decode cX6_seen 22 = .ok (.aload_n 0, 1) := by decide +kernel
theorem dX6_seen_23 : decode cX6_seen 23 = .ok (.iload_n 3, 1) := by decide +kernel
theorem dX6_seen_24 : decode cX6_seen 24 = .ok (.iconst 1, 1) := by decide +kernel
theorem dX6_seen_25 : decode cX6_seen 25 = .ok (.iadd, 1) := by decide +kernel
theorem dX6_seen_26 : decode cX6_seen 26 = .ok (.invokevirtual 147, 3) := by decide +kernel
theorem dX6_seen_29 : decode cX6_seen 29 = .ok (.if_icmp .ge 12, 3) := by decide +kernel
theorem dX6_seen_32 : decode cX6_seen 32 = .ok (.aload_n 0, 1) := by decide +kernel
theorem dX6_seen_33 : decode cX6_seen 33 = .ok (.getfield 7, 3) := by decide +kernel
theorem dX6_seen_36 : decode cX6_seen 36 = .ok (.iload_n 3, 1) := by decide +kernel
theorem dX6_seen_37 : decode cX6_seen 37 = .ok (.iaload, 1) := by decide +kernel
theorem dX6_seen_38 : decode cX6_seen 38 = .ok (.goto 4, 3) := by decide +kernel
theorem dX6_seen_41 : decode cX6_seen 41 = .ok (.iload_n 2, 1) := by decide +kernel
theorem dX6_seen_42 : decode cX6_seen 42 = .ok (.istore_n 2, 1) := by decide +kernel
theorem dX6_seen_43 : decode cX6_seen 43 = .ok (.iinc 3 1, 3) := by decide +kernel
theorem dX6_seen_46 : decode cX6_seen 46 = .ok (.goto (-42), 3) := by decide +kernel
theorem dX6_seen_49 : decode cX6_seen 49 = .ok (.aload_n 0, 1) := by decide +kernel
theorem dX6_seen_50 : decode cX6_seen 50 = .ok (.iload_n 2, 1) := by decide +kernel
theorem dX6_seen_51 : decode cX6_seen 51 = .ok (.iconst (-1), 1) := by decide +kernel
theorem dX6_seen_52 : decode cX6_seen 52 = .ok (.if_icmp .ne 7, 3) := by decide +kernel
theorem dX6_seen_55 : decode cX6_seen 55 = .ok (.iconst 1, 1) := by decide +kernel
theorem dX6_seen_56 : decode cX6_seen 56 = .ok (.goto 4, 3) := by decide +kernel
theorem dX6_seen_59 : decode cX6_seen 59 = .ok (.iconst 0, 1) := by decide +kernel
theorem dX6_seen_60 : decode cX6_seen 60 = .ok (.invokevirtual 102, 3) := by decide +kernel
theorem dX6_seen_63 : decode cX6_seen 63 = .ok (.ifCond .eq 7, 3) := by decide +kernel
theorem dX6_seen_66 : decode cX6_seen 66 = .ok (.iconst 0, 1) := by decide +kernel
theorem dX6_seen_67 : decode cX6_seen 67 = .ok (.goto 4, 3) := by decide +kernel
theorem dX6_seen_70 : decode cX6_seen 70 = .ok (.iload_n 2, 1) := by decide +kernel
theorem dX6_seen_71 : decode cX6_seen 71 = .ok (.ireturn, 1) := by decide +kernel
theorem dX6_ended_0 : decode cX6_ended 0 = .ok (.aload_n 0, 1) := by decide +kernel
theorem dX6_ended_1 : decode cX6_ended 1 = .ok (.iload_n 1, 1) := by decide +kernel
theorem dX6_ended_2 : decode cX6_ended 2 = .ok (.iconst 0, 1) := by decide +kernel
theorem dX6_ended_3 : decode cX6_ended 3 = .ok (.sipush 9999, 3) := by decide +kernel
theorem dX6_ended_6 : decode cX6_ended 6 = .ok (.invokestatic 91, 3) := by decide +kernel
theorem dX6_ended_9 : decode cX6_ended 9 = .ok (.ifCond .eq 7, 3) := by decide +kernel
theorem dX6_ended_12 : decode cX6_ended 12 = .ok (.iconst 0, 1) := by decide +kernel
theorem dX6_ended_13 : decode cX6_ended 13 = .ok (.goto 4, 3) := by decide +kernel
theorem dX6_ended_16 : decode cX6_ended 16 = .ok (.iconst 1, 1) := by decide +kernel
theorem dX6_ended_17 : decode cX6_ended 17 = .ok (.invokevirtual 102, 3) := by decide +kernel
theorem dX6_ended_20 : decode cX6_ended 20 = .ok (.ifCond .eq 5, 3) := by decide +kernel
theorem dX6_ended_23 : decode cX6_ended 23 = .ok (.iconst 0, 1) := by decide +kernel
theorem dX6_ended_24 : decode cX6_ended 24 = .ok (.ireturn, 1) := by decide +kernel
theorem dX6_ended_25 : decode cX6_ended 25 = .ok (.iconst 0, 1) := by decide +kernel
theorem dX6_ended_26 : decode cX6_ended 26 = .ok (.istore_n 2, 1) := by decide +kernel
theorem dX6_ended_27 : decode cX6_ended 27 = .ok (.iconst 0, 1) := by decide +kernel
theorem dX6_ended_28 : decode cX6_ended 28 = .ok (.istore_n 3, 1) := by decide +kernel
theorem dX6_ended_29 : decode cX6_ended 29 = .ok (.iload_n 3, 1) := by decide +kernel
theorem dX6_ended_30 : decode cX6_ended 30 = .ok (.aload_n 0, 1) := by decide +kernel
theorem dX6_ended_31 : decode cX6_ended 31 = .ok (.getfield 95, 3) := by decide +kernel
theorem dX6_ended_34 : decode cX6_ended 34 = .ok (.if_icmp .ge 28, 3) := by decide +kernel
theorem dX6_ended_37 : decode cX6_ended 37 = .ok (.aload_n 0, 1) := by decide +kernel
theorem dX6_ended_38 : decode cX6_ended 38 = .ok (.iload_n 3, 1) := by decide +kernel
theorem dX6_ended_39 : decode cX6_ended 39 = .ok (.iconst 1, 1) := by decide +kernel
theorem dX6_ended_40 : decode cX6_ended 40 = .ok (.iadd, 1) := by decide +kernel
theorem dX6_ended_41 : decode cX6_ended 41 = .ok (.invokevirtual 147, 3) := by decide +kernel
theorem dX6_ended_44 : decode cX6_ended 44 = .ok (.iload_n 1, 1) := by decide +kernel
theorem dX6_ended_45 : decode cX6_ended 45 = .ok (.if_icmp .gt 9, 3) := by decide +kernel
theorem dX6_ended_48 : decode cX6_ended 48 = .ok (.iload_n 2, 1) := by decide +kernel
theorem dX6_ended_49 : decode cX6_ended 49 = .ok (.iconst 1, 1) := by decide +kernel
theorem dX6_ended_50 : decode cX6_ended 50 = .ok (.iadd, 1) := by decide +kernel
theorem dX6_ended_51 : decode cX6_ended 51 = .ok (.goto 4, 3) := by decide +kernel
theorem dX6_ended_54 : decode cX6_ended 54 = .ok (.iload_n 2, 1) := by decide +kernel
theorem dX6_ended_55 : decode cX6_ended 55 = .ok (.istore_n 2, 1) := by decide +kernel
theorem dX6_ended_56 : decode cX6_ended 56 = .ok (.iinc 3 1, 3) := by decide +kernel
theorem dX6_ended_59 : decode cX6_ended 59 = .ok (.goto (-30), 3) := by decide +kernel
theorem dX6_ended_62 : decode cX6_ended 62 = .ok (.iload_n 2, 1) := by decide +kernel
theorem dX6_ended_63 : decode cX6_ended 63 = .ok (.ireturn, 1) := by decide +kernel
theorem dX6_lock_0 : decode cX6_lock 0 = .ok (.aload_n 0, 1) := by decide +kernel
theorem dX6_lock_1 : decode cX6_lock 1 = .ok (.iconst 0, 1) := by decide +kernel
theorem dX6_lock_2 : decode cX6_lock 2 = .ok (.putfield 84, 3) := by decide +kernel
theorem dX6_lock_5 : decode cX6_lock 5 = .ok (.aload_n 0, 1) := by decide +kernel
theorem dX6_lock_6 : decode cX6_lock 6 = .ok (.getfield 106, 3) := by decide +kernel
theorem dX6_lock_9 : decode cX6_lock 9 = .ok (.istore_n 1, 1) := by decide +kernel
theorem dX6_lock_10 : decode cX6_lock 10 = .ok (.iconst 0, 1) := by decide +kernel
theorem dX6_lock_11 : decode cX6_lock 11 = .ok (.istore_n 2, 1) := by decide +kernel
theorem dX6_lock_12 : decode cX6_lock 12 = .ok (.iload_n 2, 1) := by decide +kernel
theorem dX6_lock_13 : decode cX6_lock 13 = .ok (.aload_n 0, 1) := by decide +kernel
theorem dX6_lock_14 : decode cX6_lock 14 = .ok (.getfield 95, 3) := by decide +kernel
theorem dX6_lock_17 : decode cX6_lock 17 = .ok (.if_icmp .ge 40, 3) := by decide +kernel
theorem dX6_lock_20 : decode cX6_lock 20 = .ok (.iload_n 1, 1) := by decide +kernel
theorem dX6_lock_21 : decode cX6_lock 21 = .ok (.ifCond .ne 36, 3) := by decide +kernel
theorem dX6_lock_24 : decode cX6_lock 24 = .ok (.aload_n 0, 1) := by decide +kernel
theorem dX6_lock_25 : decode cX6_lock 25 = .ok (.getfield 30, 3) := by decide +kernel
theorem dX6_lock_28 : decode cX6_lock 28 = .ok (.aload_n 0, 1) := by decide +kernel
theorem dX6_lock_29 : decode cX6_lock 29 = .ok (.getfield 7, 3) := by decide +kernel
theorem dX6_lock_32 : decode cX6_lock 32 = .ok (.iload_n 2, 1) := by decide +kernel
theorem dX6_lock_33 : decode cX6_lock 33 = .ok (.iaload, 1) := by decide +kernel
theorem dX6_lock_34 : decode cX6_lock 34 = .ok (.iload_n 2, 1) := by decide +kernel
theorem dX6_lock_35 : decode cX6_lock 35 = .ok (.iconst 1, 1) := by decide +kernel
theorem dX6_lock_36 : decode cX6_lock 36 = .ok (.iadd, 1) := by decide +kernel
theorem dX6_lock_37 : decode cX6_lock 37 = .ok (.iastore, 1) := by decide +kernel
theorem dX6_lock_38 : decode cX6_lock 38 = .ok (.aload_n 0, 1) := by decide +kernel
theorem dX6_lock_39 : decode cX6_lock 39 = .ok (.getfield 33, 3) := by decide +kernel
theorem dX6_lock_42 : decode cX6_lock 42 = .ok (.aload_n 0, 1) := by decide +kernel
theorem dX6_lock_43 : decode cX6_lock 43 = .ok (.getfield 7, 3) := by decide +kernel
theorem dX6_lock_46 : decode cX6_lock 46 = .ok (.iload_n 2, 1) := by decide +kernel
theorem dX6_lock_47 : decode cX6_lock 47 = .ok (.iaload, 1) := by decide +kernel
theorem dX6_lock_48 : decode cX6_lock 48 = .ok (.bipush 45, 2) := by decide +kernel
theorem dX6_lock_50 : decode cX6_lock 50 = .ok (.castore, 1) := by decide +kernel
theorem dX6_lock_51 : decode cX6_lock 51 = .ok (.iinc 2 1, 3) := by decide +kernel
theorem dX6_lock_54 : decode cX6_lock 54 = .ok (.goto (-42), 3) := by decide +kernel
theorem dX6_lock_57 : decode cX6_lock 57 = .ok (.aload_n 0, 1) := by decide +kernel
theorem dX6_lock_58 : decode cX6_lock 58 = .ok (.iconst 1, 1) := by decide +kernel
theorem dX6_lock_59 : decode cX6_lock 59 = .ok (.putfield 106, 3) := by decide +kernel
theorem dX6_lock_62 : decode cX6_lock 62 = .ok (.iload_n 1, 1) := by decide +kernel
theorem dX6_lock_63 : decode cX6_lock 63 = .ok (.ireturn, 1) := by decide +kernel
theorem dX6_hasName_0 : decode cX6_hasName 0 = .ok (.aload_n 0, 1) := by decide +kernel
theorem dX6_hasName_1 : decode cX6_hasName 1 = .ok (.iload_n 1, 1) := by decide +kernel
theorem dX6_hasName_2 : decode cX6_hasName 2 = .ok (.invokevirtual 121, 3) := by decide +kernel
theorem dX6_hasName_5 : decode cX6_hasName 5 = .ok (.ifCond .ge 12, 3) := by decide +kernel
theorem dX6_hasName_8 : decode cX6_hasName 8 = .ok (.aload_n 0, 1) := by decide +kernel
theorem dX6_hasName_9 : decode cX6_hasName 9 = .ok (.getfield 30, 3) := by decide +kernel
theorem dX6_hasName_12 : decode cX6_hasName 12 = .ok (.iload_n 1, 1) := by decide +kernel
theorem dX6_hasName_13 : decode cX6_hasName 13 = .ok (.iaload, 1) := by decide +kernel
theorem dX6_hasName_14 : decode cX6_hasName 14 = .ok (.ifCond .lt 7, 3) := by decide +kernel
theorem dX6_hasName_17 : decode cX6_hasName 17 = .ok (.iconst 1, 1) := by decide +kernel
theorem dX6_hasName_18 : decode cX6_hasName 18 = .ok (.goto 4, 3) := by decide +kernel
theorem dX6_hasName_21 : decode cX6_hasName 21 = .ok (.iconst 0, 1) := by decide +kernel
theorem dX6_hasName_22 : decode cX6_hasName 22 = .ok (.ireturn, 1) := by decide +kernel
theorem dX6_numberOf_0 : decode cX6_numberOf 0 = .ok (.aload_n 0, 1) := by decide +kernel
theorem dX6_numberOf_1 : decode cX6_numberOf 1 = .ok (.getfield 106, 3) := by decide +kernel
theorem dX6_numberOf_4 : decode cX6_numberOf 4 = .ok (.ifCond .eq 12, 3) := by decide +kernel
theorem dX6_numberOf_7 : decode cX6_numberOf 7 = .ok (.aload_n 0, 1) := by decide +kernel
theorem dX6_numberOf_8 : decode cX6_numberOf 8 = .ok (.getfield 30, 3) := by decide +kernel
theorem dX6_numberOf_11 : decode cX6_numberOf 11 = .ok (.iload_n 1, 1) := by decide +kernel
theorem dX6_numberOf_12 : decode cX6_numberOf 12 = .ok (.iaload, 1) := by decide +kernel
theorem dX6_numberOf_13 : decode cX6_numberOf 13 = .ok (.goto 10, 3) := by decide +kernel
theorem dX6_numberOf_16 : decode cX6_numberOf 16 = .ok (.aload_n 0, 1) := by decide +kernel
theorem dX6_numberOf_17 : decode cX6_numberOf 17 = .ok (.iload_n 1, 1) := by decide +kernel
theorem dX6_numberOf_18 : decode cX6_numberOf 18 = .ok (.invokevirtual 121, 3) := by decide +kernel
theorem dX6_numberOf_21 : decode cX6_numberOf 21 = .ok (.iconst 1, 1) := by decide +kernel
theorem dX6_numberOf_22 : decode cX6_numberOf 22 = .ok (.iadd, 1) := by decide +kernel
theorem dX6_numberOf_23 : decode cX6_numberOf 23 = .ok (.ireturn, 1) := by decide +kernel
theorem dX6_number_0 : decode cX6_number 0 = .ok (.aload_n 0, 1) := by decide +kernel
theorem dX6_number_1 : decode cX6_number 1 = .ok (.aload_n 0, 1) := by decide +kernel
theorem dX6_number_2 : decode cX6_number 2 = .ok (.iload_n 1, 1) := by decide +kernel
theorem dX6_number_3 : decode cX6_number 3 = .ok (.invokevirtual 118, 3) := by decide +kernel
theorem dX6_number_6 : decode cX6_number 6 = .ok (.ifCond .ne 7, 3) := by decide +kernel
theorem dX6_number_9 : decode cX6_number 9 = .ok (.iconst 1, 1) := by decide +kernel
theorem dX6_number_10 : decode cX6_number 10 = .ok (.goto 16, 3) := by decide +kernel
theorem dX6_number_13 : decode cX6_number 13 = .ok (.aload_n 0, 1) := by decide +kernel
theorem dX6_number_14 : decode cX6_number 14 = .ok (.iload_n 1, 1) := by decide +kernel
theorem dX6_number_15 : decode cX6_number 15 = .ok (.invokevirtual 150, 3) := by decide +kernel
theorem dX6_number_18 : decode cX6_number 18 = .ok (.ifCond .ne 7, 3) := by decide +kernel
theorem dX6_number_21 : decode cX6_number 21 = .ok (.iconst 2, 1) := by decide +kernel
theorem dX6_number_22 : decode cX6_number 22 = .ok (.goto 4, 3) := by decide +kernel
theorem dX6_number_25 : decode cX6_number 25 = .ok (.iconst 0, 1) := by decide +kernel
theorem dX6_number_26 : decode cX6_number 26 = .ok (.invokevirtual 102, 3) := by decide +kernel
theorem dX6_number_29 : decode cX6_number 29 = .ok (.ifCond .eq 7, 3) := by decide +kernel
theorem dX6_number_32 : decode cX6_number 32 = .ok (.iconst 0, 1) := by decide +kernel
theorem dX6_number_33 : decode cX6_number 33 = .ok (.goto 8, 3) := by decide +kernel
theorem dX6_number_36 : decode cX6_number 36 = .ok (.aload_n 0, 1) := by decide +kernel
theorem dX6_number_37 : decode cX6_number 37 = .ok (.iload_n 1, 1) := by decide +kernel
theorem dX6_number_38 : decode cX6_number 38 = .ok (.invokevirtual 153, 3) := by decide +kernel
theorem dX6_number_41 : decode cX6_number 41 = .ok (.ireturn, 1) := by decide +kernel
theorem dX6_letter_0 : decode cX6_letter 0 = .ok (.aload_n 0, 1) := by decide +kernel
theorem dX6_letter_1 : decode cX6_letter 1 = .ok (.aload_n 0, 1) := by decide +kernel
theorem dX6_letter_2 : decode cX6_letter 2 = .ok (.iload_n 1, 1) := by decide +kernel
theorem dX6_letter_3 : decode cX6_letter 3 = .ok (.invokevirtual 118, 3) := by decide +kernel
theorem dX6_letter_6 : decode cX6_letter 6 = .ok (.ifCond .ne 7, 3) := by decide +kernel
theorem dX6_letter_9 : decode cX6_letter 9 = .ok (.iconst 1, 1) := by decide +kernel
theorem dX6_letter_10 : decode cX6_letter 10 = .ok (.goto 16, 3) := by decide +kernel
theorem dX6_letter_13 : decode cX6_letter 13 = .ok (.aload_n 0, 1) := by decide +kernel
theorem dX6_letter_14 : decode cX6_letter 14 = .ok (.iload_n 1, 1) := by decide +kernel
theorem dX6_letter_15 : decode cX6_letter 15 = .ok (.invokevirtual 150, 3) := by decide +kernel
theorem dX6_letter_18 : decode cX6_letter 18 = .ok (.ifCond .ne 7, 3) := by decide +kernel
theorem dX6_letter_21 : decode cX6_letter 21 = .ok (.iconst 2, 1) := by decide +kernel
theorem dX6_letter_22 : decode cX6_letter 22 = .ok (.goto 4, 3) := by decide +kernel
theorem dX6_letter_25 : decode cX6_letter 25 = .ok (.iconst 0, 1) := by decide +kernel
theorem dX6_letter_26 : decode cX6_letter 26 = .ok (.invokevirtual 102, 3) := by decide +kernel
theorem dX6_letter_29 : decode cX6_letter 29 = .ok (.ifCond .eq 8, 3) := by decide +kernel
theorem dX6_letter_32 : decode cX6_letter 32 = .ok (.bipush 32, 2) := by decide +kernel
theorem dX6_letter_34 : decode cX6_letter 34 = .ok (.goto 9, 3) := by decide +kernel
theorem dX6_letter_37 : decode cX6_letter 37 = .ok (.aload_n 0, 1) := by decide +kernel
theorem dX6_letter_38 : decode cX6_letter 38 = .ok (.getfield 33, 3) := by decide +kernel
theorem dX6_letter_41 : decode cX6_letter 41 = .ok (.iload_n 1, 1) := by decide +kernel
theorem dX6_letter_42 : decode cX6_letter 42 = .ok (.caload, 1) := by decide +kernel
theorem dX6_letter_43 : decode cX6_letter 43 = .ok (.ireturn, 1) := by decide +kernel
theorem dX6_named_0 : decode cX6_named 0 = .ok (.iconst (-1), 1) := by decide +kernel
theorem dX6_named_1 : decode cX6_named 1 = .ok (.istore_n 3, 1) := by decide +kernel
theorem dX6_named_2 : decode cX6_named 2 = .ok (.iconst 0, 1) := by decide +kernel
theorem dX6_named_3 : decode cX6_named 3 = .ok (.istore 4, 2) := by decide +kernel
theorem dX6_named_5 : decode cX6_named 5 = .ok (.iload 4, 2) := by decide +kernel
theorem dX6_named_7 : decode cX6_named 7 = .ok (.aload_n 0, 1) := by decide +kernel
theorem dX6_named_8 : decode cX6_named 8 = .ok (.getfield 95, 3) := by decide +kernel
theorem dX6_named_11 : decode cX6_named 11 = .ok (.if_icmp .ge 52, 3) := by decide +kernel
theorem dX6_named_14 : decode cX6_named 14 = .ok (.aload_n 0, 1) := by decide +kernel
theorem dX6_named_15 : decode cX6_named 15 = .ok (.aload_n 0, 1) := by decide +kernel
theorem dX6_named_16 : decode cX6_named 16 = .ok (.getfield 7, 3) := by decide +kernel
theorem dX6_named_19 : decode cX6_named 19 = .ok (.iload 4, 2) := by decide +kernel
theorem dX6_named_21 : decode cX6_named 21 = .ok (.iaload, 1) := by decide +kernel
theorem dX6_named_22 : decode cX6_named 22 = .ok (.invokevirtual 153, 3) := by decide +kernel
theorem dX6_named_25 : decode cX6_named 25 = .ok (.iload_n 1, 1) := by decide +kernel
theorem dX6_named_26 : decode cX6_named 26 = .ok (.if_icmp .ne 29, 3) := by decide +kernel
theorem dX6_named_29 : decode cX6_named 29 = .ok (.aload_n 0, 1) := by decide +kernel
theorem dX6_named_30 : decode cX6_named 30 = .ok (.getfield 33, 3) := by decide +kernel
theorem dX6_named_33 : decode cX6_named 33 = .ok (.aload_n 0, 1) := by decide +kernel
theorem dX6_named_34 : decode cX6_named 34 = .ok (.getfield 7, 3) := by decide +kernel
theorem dX6_named_37 : decode cX6_named 37 = .ok (.iload 4, 2) := by decide +kernel
theorem dX6_named_39 : decode cX6_named 39 = .ok (.iaload, 1) := by decide +kernel
theorem dX6_named_40 : decode cX6_named 40 = .ok (.caload, 1) := by decide +kernel
theorem dX6_named_41 : decode cX6_named 41 = .ok (.iload_n 2, 1) := by decide +kernel
theorem dX6_named_42 : decode cX6_named 42 = .ok (.if_icmp .ne 13, 3) := by decide +kernel
theorem dX6_named_45 : decode cX6_named 45 = .ok (.aload_n 0, 1) := by decide +kernel
theorem dX6_named_46 : decode cX6_named 46 = .ok (.getfield 7, 3) := by decide +kernel
theorem dX6_named_49 : decode cX6_named 49 = .ok (.iload 4, 2) := by decide +kernel
theorem dX6_named_51 : decode cX6_named 51 = .ok (.iaload, 1) := by decide +kernel
theorem dX6_named_52 : decode cX6_named 52 = .ok (.goto 4, 3) := by decide +kernel
theorem dX6_named_55 : decode cX6_named 55 = .ok (.iload_n 3, 1) := by decide +kernel
theorem dX6_named_56 : decode cX6_named 56 = .ok (.istore_n 3, 1) := by decide +kernel
theorem dX6_named_57 : decode cX6_named 57 = .ok (.iinc 4 1, 3) := by decide +kernel
theorem dX6_named_60 : decode cX6_named 60 = .ok (.goto (-55), 3) := by decide +kernel
theorem dX6_named_63 : decode cX6_named 63 = .ok (.aload_n 0, 1) := by decide +kernel
theorem dX6_named_64 : decode cX6_named 64 = .ok (.iload_n 3, 1) := by decide +kernel
theorem dX6_named_65 : decode cX6_named 65 = .ok (.iconst (-1), 1) := by decide +kernel
theorem dX6_named_66 : decode cX6_named 66 = .ok (.if_icmp .ne 7, 3) := by decide +kernel
theorem dX6_named_69 : decode cX6_named 69 = .ok (.iconst 1, 1) := by decide +kernel
theorem dX6_named_70 : decode cX6_named 70 = .ok (.goto 4, 3) := by decide +kernel
theorem dX6_named_73 : decode cX6_named 73 = .ok (.iconst 0, 1) := by decide +kernel
theorem dX6_named_74 : decode cX6_named 74 = .ok (.invokevirtual 102, 3) := by decide +kernel
theorem dX6_named_77 : decode cX6_named 77 = .ok (.ifCond .eq 7, 3) := by decide +kernel
theorem dX6_named_80 : decode cX6_named 80 = .ok (.iconst 0, 1) := by decide +kernel
theorem dX6_named_81 : decode cX6_named 81 = .ok (.goto 4, 3) := by decide +kernel
theorem dX6_named_84 : decode cX6_named 84 = .ok (.iload_n 3, 1) := by decide +kernel
theorem dX6_named_85 : decode cX6_named 85 = .ok (.ireturn, 1) := by decide +kernel
theorem dX6_isIn_0 : decode cX6_isIn 0 = .ok (.aload_n 0, 1) := by decide +kernel
theorem dX6_isIn_1 : decode cX6_isIn 1 = .ok (.getfield 36, 3) := by decide +kernel
theorem dX6_isIn_4 : decode cX6_isIn 4 = .ok (.iconst 4, 1) := by decide +kernel
theorem dX6_isIn_5 : decode cX6_isIn 5 = .ok (.iload_n 1, 1) := by decide +kernel
theorem dX6_isIn_6 : decode cX6_isIn 6 = .ok (.imul, 1) := by decide +kernel
theorem dX6_isIn_7 : decode cX6_isIn 7 = .ok (.iload_n 2, 1) := by decide +kernel
theorem dX6_isIn_8 : decode cX6_isIn 8 = .ok (.iadd, 1) := by decide +kernel
theorem dX6_isIn_9 : decode cX6_isIn 9 = .ok (.caload, 1) := by decide +kernel
theorem dX6_isIn_10 : decode cX6_isIn 10 = .ok (.bipush 45, 2) := by decide +kernel
theorem dX6_isIn_12 : decode cX6_isIn 12 = .ok (.if_icmp .eq 7, 3) := by decide +kernel
theorem dX6_isIn_15 : decode cX6_isIn 15 = .ok (.iconst 1, 1) := by decide +kernel
theorem dX6_isIn_16 : decode cX6_isIn 16 = .ok (.goto 4, 3) := by decide +kernel
theorem dX6_isIn_19 : decode cX6_isIn 19 = .ok (.iconst 0, 1) := by decide +kernel
theorem dX6_isIn_20 : decode cX6_isIn 20 = .ok (.ireturn, 1) := by decide +kernel
theorem dX6_areSame_0 : decode cX6_areSame 0 = .ok (.aload_n 0, 1) := by decide +kernel
theorem dX6_areSame_1 : decode cX6_areSame 1 = .ok (.getfield 13, 3) := by decide +kernel
theorem dX6_areSame_4 : decode cX6_areSame 4 = .ok (.iload_n 1, 1) := by decide +kernel
theorem dX6_areSame_5 : decode cX6_areSame 5 = .ok (.caload, 1) := by decide +kernel
theorem dX6_areSame_6 : decode cX6_areSame 6 = .ok (.aload_n 0, 1) := by decide +kernel
theorem dX6_areSame_7 : decode cX6_areSame 7 = .ok (.getfield 13, 3) := by decide +kernel
theorem dX6_areSame_10 : decode cX6_areSame 10 = .ok (.iload_n 2, 1) := by decide +kernel
theorem dX6_areSame_11 : decode cX6_areSame 11 = .ok (.caload, 1) := by decide +kernel
theorem dX6_areSame_12 : decode cX6_areSame 12 = .ok (.if_icmp .ne 30, 3) := by decide +kernel
theorem dX6_areSame_15 : decode cX6_areSame 15 = .ok (.aload_n 0, 1) := by decide +kernel
theorem dX6_areSame_16 : decode cX6_areSame 16 = .ok (.getfield 17, 3) := by decide +kernel
theorem dX6_areSame_19 : decode cX6_areSame 19 = .ok (.iload_n 1, 1) := by decide +kernel
theorem dX6_areSame_20 : decode cX6_areSame 20 = .ok (.iaload, 1) := by decide +kernel
theorem dX6_areSame_21 : decode cX6_areSame 21 = .ok (.aload_n 0, 1) := by decide +kernel
theorem dX6_areSame_22 : decode cX6_areSame 22 = .ok (.getfield 17, 3) := by decide +kernel
theorem dX6_areSame_25 : decode cX6_areSame 25 = .ok (.iload_n 2, 1) := by decide +kernel
theorem dX6_areSame_26 : decode cX6_areSame 26 = .ok (.iaload, 1) := by decide +kernel
theorem dX6_areSame_27 : decode cX6_areSame 27 = .ok (.if_icmp .ne 15, 3) := by decide +kernel
theorem dX6_areSame_30 : decode cX6_areSame 30 = .ok (.aload_n 0, 1) := by decide +kernel
theorem dX6_areSame_31 : decode cX6_areSame 31 = .ok (.iload_n 1, 1) := by decide +kernel
theorem dX6_areSame_32 : decode cX6_areSame 32 = .ok (.invokevirtual 137, 3) := by decide +kernel
theorem dX6_areSame_35 : decode cX6_areSame 35 = .ok (.ifCond .le 7, 3) := by decide +kernel
theorem dX6_areSame_38 : decode cX6_areSame 38 = .ok (.iconst 1, 1) := by decide +kernel
theorem dX6_areSame_39 : decode cX6_areSame 39 = .ok (.goto 4, 3) := by decide +kernel
theorem dX6_areSame_42 : decode cX6_areSame 42 = .ok (.iconst 0, 1) := by decide +kernel
theorem dX6_areSame_43 : decode cX6_areSame 43 = .ok (.istore_n 3, 1) := by decide +kernel
theorem dX6_areSame_44 : decode cX6_areSame 44 = .ok (.iconst 0, 1) := by decide +kernel
theorem dX6_areSame_45 : decode cX6_areSame 45 = .ok (.istore 4, 2) := by decide +kernel
theorem dX6_areSame_47 : decode cX6_areSame 47 = .ok (.iload 4, 2) := by decide +kernel
theorem dX6_areSame_49 : decode cX6_areSame 49 = .ok (.iconst 4, 1) := by decide +kernel
theorem dX6_areSame_50 : decode cX6_areSame 50 = .ok (.if_icmp .ge 36, 3) := by decide +kernel
theorem dX6_areSame_53 : decode cX6_areSame 53 = .ok (.iload_n 3, 1) := by decide +kernel
theorem dX6_areSame_54 : decode cX6_areSame 54 = .ok (.ifCond .eq 24, 3) := by decide +kernel
theorem dX6_areSame_57 : decode cX6_areSame 57 = .ok (.aload_n 0, 1) := by decide +kernel
theorem dX6_areSame_58 : decode cX6_areSame 58 = .ok (.iload_n 1, 1) := by decide +kernel
theorem dX6_areSame_59 : decode cX6_areSame 59 = .ok (.iload 4, 2) := by decide +kernel
theorem dX6_areSame_61 : decode cX6_areSame 61 = .ok (.invokevirtual 156, 3) := by decide +kernel
theorem dX6_areSame_64 : decode cX6_areSame 64 = .ok (.aload_n 0, 1) := by decide +kernel
theorem dX6_areSame_65 : decode cX6_areSame 65 = .ok (.iload_n 2, 1) := by decide +kernel
theorem dX6_areSame_66 : decode cX6_areSame 66 = .ok (.iload 4, 2) := by decide +kernel
theorem dX6_areSame_68 : decode cX6_areSame 68 = .ok (.invokevirtual 156, 3) := by decide +kernel
theorem dX6_areSame_71 : decode cX6_areSame 71 = .ok (.if_icmp .ne 7, 3) := by decide +kernel
theorem dX6_areSame_74 : decode cX6_areSame 74 = .ok (.iconst 1, 1) := by decide +kernel
theorem dX6_areSame_75 : decode cX6_areSame 75 = .ok (.goto 4, 3) := by decide +kernel
theorem dX6_areSame_78 : decode cX6_areSame 78 = .ok (.iconst 0, 1) := by decide +kernel
theorem dX6_areSame_79 : decode cX6_areSame 79 = .ok (.istore_n 3, 1) := by decide +kernel
theorem dX6_areSame_80 : decode cX6_areSame 80 = .ok (.iinc 4 1, 3) := by decide +kernel
theorem dX6_areSame_83 : decode cX6_areSame 83 = .ok (.goto (-36), 3) := by decide +kernel
theorem dX6_areSame_86 : decode cX6_areSame 86 = .ok (.iload_n 3, 1) := by decide +kernel
theorem dX6_areSame_87 : decode cX6_areSame 87 = .ok (.ireturn, 1) := by decide +kernel
theorem dX6_alone_0 : decode cX6_alone 0 = .ok (.iconst (-1), 1) := by decide +kernel
theorem dX6_alone_1 : decode cX6_alone 1 = .ok (.istore_n 2, 1) := by decide +kernel
theorem dX6_alone_2 : decode cX6_alone 2 = .ok (.iconst 0, 1) := by decide +kernel
theorem dX6_alone_3 : decode cX6_alone 3 = .ok (.istore_n 3, 1) := by decide +kernel
theorem dX6_alone_4 : decode cX6_alone 4 = .ok (.iload_n 3, 1) := by decide +kernel
theorem dX6_alone_5 : decode cX6_alone 5 = .ok (.iconst 4, 1) := by decide +kernel
theorem dX6_alone_6 : decode cX6_alone 6 = .ok (.if_icmp .ge 33, 3) := by decide +kernel
theorem dX6_alone_9 : decode cX6_alone 9 = .ok (.aload_n 0, 1) := by decide +kernel
theorem dX6_alone_10 : decode cX6_alone 10 = .ok (.iload_n 1, 1) := by decide +kernel
theorem dX6_alone_11 : decode cX6_alone 11 = .ok (.iload_n 3, 1) := by decide +kernel
theorem dX6_alone_12 : decode cX6_alone 12 = .ok (.invokevirtual 156, 3) := by decide +kernel
theorem dX6_alone_15 : decode cX6_alone 15 = .ok (.ifCond .eq 16, 3) := by decide +kernel
theorem dX6_alone_18 : decode cX6_alone 18 = .ok (.aload_n 0, 1) := by decide +kernel
theorem dX6_alone_19 : decode cX6_alone 19 = .ok (.iload_n 1, 1) := by decide +kernel
theorem dX6_alone_20 : decode cX6_alone 20 = .ok (.invokevirtual 137, 3) := by decide +kernel
theorem dX6_alone_23 : decode cX6_alone 23 = .ok (.iconst 1, 1) := by decide +kernel
theorem dX6_alone_24 : decode cX6_alone 24 = .ok (.if_icmp .ne 7, 3) := by decide +kernel
theorem dX6_alone_27 : decode cX6_alone 27 = .ok (.iload_n 3, 1) := by decide +kernel
theorem dX6_alone_28 : decode cX6_alone 28 = .ok (.goto 4, 3) := by decide +kernel
theorem dX6_alone_31 : decode cX6_alone 31 = .ok (.iload_n 2, 1) := by decide +kernel
theorem dX6_alone_32 : decode cX6_alone 32 = .ok (.istore_n 2, 1) := by decide +kernel
theorem dX6_alone_33 : decode cX6_alone 33 = .ok (.iinc 3 1, 3) := by decide +kernel
theorem dX6_alone_36 : decode cX6_alone 36 = .ok (.goto (-32), 3) := by decide +kernel
theorem dX6_alone_39 : decode cX6_alone 39 = .ok (.iload_n 2, 1) := by decide +kernel
theorem dX6_alone_40 : decode cX6_alone 40 = .ok (.ireturn, 1) := by decide +kernel
theorem dX6_other_0 : decode cX6_other 0 = .ok (.iload_n 0, 1) := by decide +kernel
theorem dX6_other_1 : decode cX6_other 1 = .ok (.bipush 108, 2) := by decide +kernel
theorem dX6_other_3 : decode cX6_other 3 = .ok (.if_icmp .ne 8, 3) := by decide +kernel
theorem dX6_other_6 : decode cX6_other 6 = .ok (.bipush 114, 2) := by decide +kernel
theorem dX6_other_8 : decode cX6_other 8 = .ok (.goto 5, 3) := by decide +kernel
theorem dX6_other_11 : decode cX6_other 11 = .ok (.bipush 108, 2) := by decide +kernel
theorem dX6_other_13 : decode cX6_other 13 = .ok (.ireturn, 1) := by decide +kernel
theorem dX6_areBadGazes_0 : decode cX6_areBadGazes 0 = .ok (.aload_n 0, 1) := by decide +kernel
theorem dX6_areBadGazes_1 : decode cX6_areBadGazes 1 = .ok (.iload_n 1, 1) := by decide +kernel
theorem dX6_areBadGazes_2 : decode cX6_areBadGazes 2 = .ok (.invokevirtual 160, 3) := by decide +kernel
theorem dX6_areBadGazes_5 : decode cX6_areBadGazes 5 = .ok (.istore_n 3, 1) := by decide +kernel
theorem dX6_areBadGazes_6 : decode cX6_areBadGazes 6 = .ok (.aload_n 0, 1) := by decide +kernel
theorem dX6_areBadGazes_7 : decode cX6_areBadGazes 7 = .ok (.iload_n 2, 1) := by decide +kernel
theorem dX6_areBadGazes_8 : decode cX6_areBadGazes 8 = .ok (.invokevirtual 160, 3) := by decide +kernel
theorem dX6_areBadGazes_11 : decode cX6_areBadGazes 11 = .ok (.istore 4, 2) := by decide +kernel
theorem dX6_areBadGazes_13 : decode cX6_areBadGazes 13 = .ok (.iload_n 3, 1) := by decide +kernel
theorem dX6_areBadGazes_14 : decode cX6_areBadGazes 14 = .ok (.ifCond .lt 14, 3) := by decide +kernel
theorem dX6_areBadGazes_17 : decode cX6_areBadGazes 17 = .ok (.iload 4, 2) := by decide +kernel
theorem dX6_areBadGazes_19 : decode cX6_areBadGazes 19 = .ok (.ifCond .lt 9, 3) := by decide +kernel
theorem dX6_areBadGazes_22 : decode cX6_areBadGazes 22 = .ok (.iload_n 3, 1) := by decide +kernel
theorem dX6_areBadGazes_23 : decode cX6_areBadGazes 23 = .ok (.iload 4, 2) := by decide +kernel
theorem dX6_areBadGazes_25 : decode cX6_areBadGazes 25 = .ok (.if_icmp .ne 5, 3) := by decide +kernel
theorem dX6_areBadGazes_28 : decode cX6_areBadGazes 28 = .ok (.iconst 0, 1) := by decide +kernel
theorem dX6_areBadGazes_29 : decode cX6_areBadGazes 29 = .ok (.ireturn, 1) := by decide +kernel
theorem dX6_areBadGazes_30 : decode cX6_areBadGazes 30 = .ok (.aload_n 0, 1) := by decide +kernel
theorem dX6_areBadGazes_31 : decode cX6_areBadGazes 31 = .ok (.getfield 39, 3) := by decide +kernel
theorem dX6_areBadGazes_34 : decode cX6_areBadGazes 34 = .ok (.iconst 4, 1) := by decide +kernel
theorem dX6_areBadGazes_35 : decode cX6_areBadGazes 35 = .ok (.iload_n 1, 1) := by decide +kernel
theorem dX6_areBadGazes_36 : decode cX6_areBadGazes 36 = .ok (.imul, 1) := by decide +kernel
theorem dX6_areBadGazes_37 : decode cX6_areBadGazes 37 = .ok (.iload_n 3, 1) := by decide +kernel
theorem dX6_areBadGazes_38 : decode cX6_areBadGazes 38 = .ok (.iadd, 1) := by decide +kernel
theorem dX6_areBadGazes_39 : decode cX6_areBadGazes 39 = .ok (.caload, 1) := by decide +kernel
theorem dX6_areBadGazes_40 : decode cX6_areBadGazes 40 = .ok (.istore 5, 2) := by decide +kernel
theorem dX6_areBadGazes_42 : decode cX6_areBadGazes 42 = .ok (.aload_n 0, 1) := by decide +kernel
theorem dX6_areBadGazes_43 : decode cX6_areBadGazes 43 = .ok (.getfield 39, 3) := by decide +kernel
theorem dX6_areBadGazes_46 : decode cX6_areBadGazes 46 = .ok (.iconst 4, 1) := by decide +kernel
theorem dX6_areBadGazes_47 : decode cX6_areBadGazes 47 = .ok (.iload_n 2, 1) := by decide +kernel
theorem dX6_areBadGazes_48 : decode cX6_areBadGazes 48 = .ok (.imul, 1) := by decide +kernel
theorem dX6_areBadGazes_49 : decode cX6_areBadGazes 49 = .ok (.iload 4, 2) := by decide +kernel
theorem dX6_areBadGazes_51 : decode cX6_areBadGazes 51 = .ok (.iadd, 1) := by decide +kernel
theorem dX6_areBadGazes_52 : decode cX6_areBadGazes 52 = .ok (.caload, 1) := by decide +kernel
theorem dX6_areBadGazes_53 : decode cX6_areBadGazes 53 = .ok (.istore 6, 2) := by decide +kernel
theorem dX6_areBadGazes_55 : decode cX6_areBadGazes 55 = .ok (.iload 5, 2) := by decide +kernel
theorem dX6_areBadGazes_57 : decode cX6_areBadGazes 57 = .ok (.bipush 99, 2) := by decide +kernel
theorem dX6_areBadGazes_59 : decode cX6_areBadGazes 59 = .ok (.if_icmp .eq 13, 3) := by decide +kernel
theorem dX6_areBadGazes_62 : decode cX6_areBadGazes 62 = .ok (.iload 6, 2) := by decide +kernel
theorem dX6_areBadGazes_64 : decode cX6_areBadGazes 64 = .ok (.iload 5, 2) := by decide +kernel
theorem dX6_areBadGazes_66 : decode cX6_areBadGazes 66 = .ok (.invokestatic 163, 3) := by decide +kernel
theorem dX6_areBadGazes_69 : decode cX6_areBadGazes 69 = .ok (.if_icmp .ne 20, 3) := by decide +kernel
theorem dX6_areBadGazes_72 : decode cX6_areBadGazes 72 = .ok (.iload 6, 2) := by decide +kernel
theorem dX6_areBadGazes_74 : decode cX6_areBadGazes 74 = .ok (.bipush 99, 2) := by decide +kernel
theorem dX6_areBadGazes_76 : decode cX6_areBadGazes 76 = .ok (.if_icmp .eq 17, 3) := by decide +kernel
theorem dX6_areBadGazes_79 : decode cX6_areBadGazes 79 = .ok (.iload 5, 2) := by decide +kernel
theorem dX6_areBadGazes_81 : decode cX6_areBadGazes 81 = .ok (.iload 6, 2) := by decide +kernel
theorem dX6_areBadGazes_83 : decode cX6_areBadGazes 83 = .ok (.invokestatic 163, 3) := by decide +kernel
theorem dX6_areBadGazes_86 : decode cX6_areBadGazes 86 = .ok (.if_icmp .eq 7, 3) := by decide +kernel
theorem dX6_areBadGazes_89 : decode cX6_areBadGazes 89 = .ok (.iconst 1, 1) := by decide +kernel
theorem dX6_areBadGazes_90 : decode cX6_areBadGazes 90 = .ok (.goto 4, 3) := by decide +kernel
theorem dX6_areBadGazes_93 : decode cX6_areBadGazes 93 = .ok (.iconst 0, 1) := by decide +kernel
theorem dX6_areBadGazes_94 : decode cX6_areBadGazes 94 = .ok (.ireturn, 1) := by decide +kernel
theorem dX6_isBadEdge_0 : decode cX6_isBadEdge 0 = .ok (.iconst 0, 1) := by decide +kernel
theorem dX6_isBadEdge_1 : decode cX6_isBadEdge 1 = .ok (.istore_n 3, 1) := by decide +kernel
theorem dX6_isBadEdge_2 : decode cX6_isBadEdge 2 = .ok (.iconst 0, 1) := by decide +kernel
theorem dX6_isBadEdge_3 : decode cX6_isBadEdge 3 = .ok (.istore 4, 2) := by decide +kernel
theorem dX6_isBadEdge_5 : decode cX6_isBadEdge 5 = .ok (.iload 4, 2) := by decide +kernel
theorem dX6_isBadEdge_7 : decode cX6_isBadEdge 7 = .ok (.iconst 4, 1) := by decide +kernel
theorem dX6_isBadEdge_8 : decode cX6_isBadEdge 8 = .ok (.if_icmp .ge 60, 3) := by decide +kernel
theorem dX6_isBadEdge_11 : decode cX6_isBadEdge 11 = .ok (.iload_n 3, 1) := by decide +kernel
theorem dX6_isBadEdge_12 : decode cX6_isBadEdge 12 = .ok (.ifCond .ne 44, 3) := by decide +kernel
theorem dX6_isBadEdge_15 : decode cX6_isBadEdge 15 = .ok (.aload_n 0, 1) := by decide +kernel
theorem dX6_isBadEdge_16 : decode cX6_isBadEdge 16 = .ok (.getfield 45, 3) := by decide +kernel
theorem dX6_isBadEdge_19 : decode cX6_isBadEdge 19 = .ok (.iconst 4, 1) := by decide +kernel
theorem dX6_isBadEdge_20 : decode cX6_isBadEdge 20 = .ok (.iload_n 1, 1) := by decide +kernel
theorem dX6_isBadEdge_21 : decode cX6_isBadEdge 21 = .ok (.imul, 1) := by decide +kernel
theorem dX6_isBadEdge_22 : decode cX6_isBadEdge 22 = .ok (.iload 4, 2) := by decide +kernel
theorem dX6_isBadEdge_24 : decode cX6_isBadEdge 24 = .ok (.iadd, 1) := by decide +kernel
theorem dX6_isBadEdge_25 : decode cX6_isBadEdge 25 = .ok (.caload, 1) := by decide +kernel
theorem dX6_isBadEdge_26 : decode cX6_isBadEdge 26 = .ok (.bipush 45, 2) := by decide +kernel
theorem dX6_isBadEdge_28 : decode cX6_isBadEdge 28 = .ok (.if_icmp .eq 32, 3) := by decide +kernel
theorem dX6_isBadEdge_31 : decode cX6_isBadEdge 31 = .ok (.aload_n 0, 1) := by decide +kernel
theorem dX6_isBadEdge_32 : decode cX6_isBadEdge 32 = .ok (.getfield 45, 3) := by decide +kernel
theorem dX6_isBadEdge_35 : decode cX6_isBadEdge 35 = .ok (.iconst 4, 1) := by decide +kernel
theorem dX6_isBadEdge_36 : decode cX6_isBadEdge 36 = .ok (.iload_n 1, 1) := by decide +kernel
theorem dX6_isBadEdge_37 : decode cX6_isBadEdge 37 = .ok (.imul, 1) := by decide +kernel
theorem dX6_isBadEdge_38 : decode cX6_isBadEdge 38 = .ok (.iload 4, 2) := by decide +kernel
theorem dX6_isBadEdge_40 : decode cX6_isBadEdge 40 = .ok (.iadd, 1) := by decide +kernel
theorem dX6_isBadEdge_41 : decode cX6_isBadEdge 41 = .ok (.caload, 1) := by decide +kernel
theorem dX6_isBadEdge_42 : decode cX6_isBadEdge 42 = .ok (.aload_n 0, 1) := by decide +kernel
theorem dX6_isBadEdge_43 : decode cX6_isBadEdge 43 = .ok (.getfield 42, 3) := by decide +kernel
theorem dX6_isBadEdge_46 : decode cX6_isBadEdge 46 = .ok (.iconst 4, 1) := by decide +kernel
theorem dX6_isBadEdge_47 : decode cX6_isBadEdge 47 = .ok (.iload_n 2, 1) := by decide +kernel
theorem dX6_isBadEdge_48 : decode cX6_isBadEdge 48 = .ok (.imul, 1) := by decide +kernel
theorem dX6_isBadEdge_49 : decode cX6_isBadEdge 49 = .ok (.iload 4, 2) := by decide +kernel
theorem dX6_isBadEdge_51 : decode cX6_isBadEdge 51 = .ok (.iadd, 1) := by decide +kernel
theorem dX6_isBadEdge_52 : decode cX6_isBadEdge 52 = .ok (.caload, 1) := by decide +kernel
theorem dX6_isBadEdge_53 : decode cX6_isBadEdge 53 = .ok (.if_icmp .ne 7, 3) := by decide +kernel
theorem dX6_isBadEdge_56 : decode cX6_isBadEdge 56 = .ok (.iconst 1, 1) := by decide +kernel
theorem dX6_isBadEdge_57 : decode cX6_isBadEdge 57 = .ok (.goto 4, 3) := by decide +kernel
theorem dX6_isBadEdge_60 : decode cX6_isBadEdge 60 = .ok (.iconst 0, 1) := by decide +kernel
theorem dX6_isBadEdge_61 : decode cX6_isBadEdge 61 = .ok (.istore_n 3, 1) := by decide +kernel
theorem dX6_isBadEdge_62 : decode cX6_isBadEdge 62 = .ok (.iinc 4 1, 3) := by decide +kernel
theorem dX6_isBadEdge_65 : decode cX6_isBadEdge 65 = .ok (.goto (-60), 3) := by decide +kernel
theorem dX6_isBadEdge_68 : decode cX6_isBadEdge 68 = .ok (.iload_n 3, 1) := by decide +kernel
theorem dX6_isBadEdge_69 : decode cX6_isBadEdge 69 = .ok (.ireturn, 1) := by decide +kernel
theorem dX6_isJump_0 : decode cX6_isJump 0 = .ok (.iconst 0, 1) := by decide +kernel
theorem dX6_isJump_1 : decode cX6_isJump 1 = .ok (.istore_n 3, 1) := by decide +kernel
theorem dX6_isJump_2 : decode cX6_isJump 2 = .ok (.iconst 0, 1) := by decide +kernel
theorem dX6_isJump_3 : decode cX6_isJump 3 = .ok (.istore 4, 2) := by decide +kernel
theorem dX6_isJump_5 : decode cX6_isJump 5 = .ok (.iload 4, 2) := by decide +kernel
theorem dX6_isJump_7 : decode cX6_isJump 7 = .ok (.iconst 4, 1) := by decide +kernel
theorem dX6_isJump_8 : decode cX6_isJump 8 = .ok (.if_icmp .ge 119, 3) := by decide +kernel
theorem dX6_isJump_11 : decode cX6_isJump 11 = .ok (.iconst 4, 1) := by decide +kernel
theorem dX6_isJump_12 : decode cX6_isJump 12 = .ok (.iload_n 1, 1) := by decide +kernel
theorem dX6_isJump_13 : decode cX6_isJump 13 = .ok (.imul, 1) := by decide +kernel
theorem dX6_isJump_14 : decode cX6_isJump 14 = .ok (.iload 4, 2) := by decide +kernel
theorem dX6_isJump_16 : decode cX6_isJump 16 = .ok (.iadd, 1) := by decide +kernel
theorem dX6_isJump_17 : decode cX6_isJump 17 = .ok (.istore 5, 2) := by decide +kernel
theorem dX6_isJump_19 : decode cX6_isJump 19 = .ok (.iconst 4, 1) := by decide +kernel
theorem dX6_isJump_20 : decode cX6_isJump 20 = .ok (.iload_n 2, 1) := by decide +kernel
theorem dX6_isJump_21 : decode cX6_isJump 21 = .ok (.imul, 1) := by decide +kernel
theorem dX6_isJump_22 : decode cX6_isJump 22 = .ok (.iload 4, 2) := by decide +kernel
theorem dX6_isJump_24 : decode cX6_isJump 24 = .ok (.iadd, 1) := by decide +kernel
theorem dX6_isJump_25 : decode cX6_isJump 25 = .ok (.istore 6, 2) := by decide +kernel
theorem dX6_isJump_27 : decode cX6_isJump 27 = .ok (.aload_n 0, 1) := by decide +kernel
theorem dX6_isJump_28 : decode cX6_isJump 28 = .ok (.getfield 36, 3) := by decide +kernel
theorem dX6_isJump_31 : decode cX6_isJump 31 = .ok (.iload 5, 2) := by decide +kernel
theorem dX6_isJump_33 : decode cX6_isJump 33 = .ok (.caload, 1) := by decide +kernel
theorem dX6_isJump_34 : decode cX6_isJump 34 = .ok (.bipush 108, 2) := by decide +kernel
theorem dX6_isJump_36 : decode cX6_isJump 36 = .ok (.if_icmp .ne 15, 3) := by decide +kernel
theorem dX6_isJump_39 : decode cX6_isJump 39 = .ok (.aload_n 0, 1) := by decide +kernel
theorem dX6_isJump_40 : decode cX6_isJump 40 = .ok (.getfield 36, 3) := by decide +kernel
theorem dX6_isJump_43 : decode cX6_isJump 43 = .ok (.iload 6, 2) := by decide +kernel
theorem dX6_isJump_45 : decode cX6_isJump 45 = .ok (.caload, 1) := by decide +kernel
theorem dX6_isJump_46 : decode cX6_isJump 46 = .ok (.bipush 114, 2) := by decide +kernel
theorem dX6_isJump_48 : decode cX6_isJump 48 = .ok (.if_icmp .eq 27, 3) := by decide +kernel
theorem dX6_isJump_51 : decode cX6_isJump 51 = .ok (.aload_n 0, 1) := by decide +kernel
theorem dX6_isJump_52 : decode cX6_isJump 52 = .ok (.getfield 36, 3) := by decide +kernel
theorem dX6_isJump_55 : decode cX6_isJump 55 = .ok (.iload 5, 2) := by decide +kernel
theorem dX6_isJump_57 : decode cX6_isJump 57 = .ok (.caload, 1) := by decide +kernel
theorem dX6_isJump_58 : decode cX6_isJump 58 = .ok (.bipush 114, 2) := by decide +kernel
theorem dX6_isJump_60 : decode cX6_isJump 60 = .ok (.if_icmp .ne 19, 3) := by decide +kernel
theorem dX6_isJump_63 : decode cX6_isJump 63 = .ok (.aload_n 0, 1) := by decide +kernel
theorem dX6_isJump_64 : decode cX6_isJump 64 = .ok (.getfield 36, 3) := by decide +kernel
theorem dX6_isJump_67 : decode cX6_isJump 67 = .ok (.iload 6, 2) := by decide +kernel
theorem dX6_isJump_69 : decode cX6_isJump 69 = .ok (.caload, 1) := by decide +kernel
theorem dX6_isJump_70 : decode cX6_isJump 70 = .ok (.bipush 108, 2) := by decide +kernel
theorem dX6_isJump_72 : decode cX6_isJump 72 = .ok (.if_icmp .ne 7, 3) := by decide +kernel
theorem dX6_isJump_75 : decode cX6_isJump 75 = .ok (.iconst 1, 1) := by decide +kernel
theorem dX6_isJump_76 : decode cX6_isJump 76 = .ok (.goto 4, 3) := by decide +kernel
theorem dX6_isJump_79 : decode cX6_isJump 79 = .ok (.iconst 0, 1) := by decide +kernel
theorem dX6_isJump_80 : decode cX6_isJump 80 = .ok (.istore 7, 2) := by decide +kernel
theorem dX6_isJump_82 : decode cX6_isJump 82 = .ok (.iload_n 3, 1) := by decide +kernel
theorem dX6_isJump_83 : decode cX6_isJump 83 = .ok (.ifCond .ne 32, 3) := by decide +kernel
theorem dX6_isJump_86 : decode cX6_isJump 86 = .ok (.iload 7, 2) := by decide +kernel
theorem dX6_isJump_88 : decode cX6_isJump 88 = .ok (.ifCond .eq 31, 3) := by decide +kernel
theorem dX6_isJump_91 : decode cX6_isJump 91 = .ok (.aload_n 0, 1) := by decide +kernel
theorem dX6_isJump_92 : decode cX6_isJump 92 = .ok (.getfield 45, 3) := by decide +kernel
theorem dX6_isJump_95 : decode cX6_isJump 95 = .ok (.iload 5, 2) := by decide +kernel
theorem dX6_isJump_97 : decode cX6_isJump 97 = .ok (.caload, 1) := by decide +kernel
theorem dX6_isJump_98 : decode cX6_isJump 98 = .ok (.bipush 45, 2) := by decide +kernel
theorem dX6_isJump_100 : decode cX6_isJump 100 = .ok (.if_icmp .ne 19, 3) := by decide +kernel
theorem dX6_isJump_103 : decode cX6_isJump 103 = .ok (.aload_n 0, 1) := by decide +kernel
theorem dX6_isJump_104 : decode cX6_isJump 104 = .ok (.getfield 42, 3) := by decide +kernel
theorem dX6_isJump_107 : decode cX6_isJump 107 = .ok (.iload 6, 2) := by decide +kernel
theorem dX6_isJump_109 : decode cX6_isJump 109 = .ok (.caload, 1) := by decide +kernel
theorem dX6_isJump_110 : decode cX6_isJump 110 = .ok (.bipush 45, 2) := by decide +kernel
theorem dX6_isJump_112 : decode cX6_isJump 112 = .ok (.if_icmp .ne 7, 3) := by decide +kernel
theorem dX6_isJump_115 : decode cX6_isJump 115 = .ok (.iconst 1, 1) := by decide +kernel
theorem dX6_isJump_116 : decode cX6_isJump 116 = .ok (.goto 4, 3) := by decide +kernel
theorem dX6_isJump_119 : decode cX6_isJump 119 = .ok (.iconst 0, 1) := by decide +kernel
theorem dX6_isJump_120 : decode cX6_isJump 120 = .ok (.istore_n 3, 1) := by decide +kernel
theorem dX6_isJump_121 : decode cX6_isJump 121 = .ok (.iinc 4 1, 3) := by decide +kernel
theorem dX6_isJump_124 : decode cX6_isJump 124 = .ok (.goto (-119), 3) := by decide +kernel
theorem dX6_isJump_127 : decode cX6_isJump 127 = .ok (.iload_n 3, 1) := by decide +kernel
theorem dX6_isJump_128 : decode cX6_isJump 128 = .ok (.ireturn, 1) := by decide +kernel
theorem dX6_wrongWith_0 : decode cX6_wrongWith 0 = .ok (.aload_n 0, 1) := by decide +kernel
theorem dX6_wrongWith_1 : decode cX6_wrongWith 1 = .ok (.getfield 13, 3) := by decide +kernel
theorem dX6_wrongWith_4 : decode cX6_wrongWith 4 = .ok (.iload_n 1, 1) := by decide +kernel
theorem dX6_wrongWith_5 : decode cX6_wrongWith 5 = .ok (.caload, 1) := by decide +kernel
theorem dX6_wrongWith_6 : decode cX6_wrongWith 6 = .ok (.bipush 115, 2) := by decide +kernel
theorem dX6_wrongWith_8 : decode cX6_wrongWith 8 = .ok (.if_icmp .ne 14, 3) := by decide +kernel
theorem dX6_wrongWith_11 : decode cX6_wrongWith 11 = .ok (.aload_n 0, 1) := by decide +kernel
theorem dX6_wrongWith_12 : decode cX6_wrongWith 12 = .ok (.getfield 13, 3) := by decide +kernel
theorem dX6_wrongWith_15 : decode cX6_wrongWith 15 = .ok (.iload_n 2, 1) := by decide +kernel
theorem dX6_wrongWith_16 : decode cX6_wrongWith 16 = .ok (.caload, 1) := by decide +kernel
theorem dX6_wrongWith_17 : decode cX6_wrongWith 17 = .ok (.bipush 110, 2) := by decide +kernel
theorem dX6_wrongWith_19 : decode cX6_wrongWith 19 = .ok (.if_icmp .eq 25, 3) := by decide +kernel
theorem dX6_wrongWith_22 : decode cX6_wrongWith 22 = .ok (.aload_n 0, 1) := by decide +kernel
theorem dX6_wrongWith_23 : decode cX6_wrongWith 23 = .ok (.getfield 13, 3) := by decide +kernel
theorem dX6_wrongWith_26 : decode cX6_wrongWith 26 = .ok (.iload_n 1, 1) := by decide +kernel
theorem dX6_wrongWith_27 : decode cX6_wrongWith 27 = .ok (.caload, 1) := by decide +kernel
theorem dX6_wrongWith_28 : decode cX6_wrongWith 28 = .ok (.bipush 110, 2) := by decide +kernel
theorem dX6_wrongWith_30 : decode cX6_wrongWith 30 = .ok (.if_icmp .ne 18, 3) := by decide +kernel
theorem dX6_wrongWith_33 : decode cX6_wrongWith 33 = .ok (.aload_n 0, 1) := by decide +kernel
theorem dX6_wrongWith_34 : decode cX6_wrongWith 34 = .ok (.getfield 13, 3) := by decide +kernel
theorem dX6_wrongWith_37 : decode cX6_wrongWith 37 = .ok (.iload_n 2, 1) := by decide +kernel
theorem dX6_wrongWith_38 : decode cX6_wrongWith 38 = .ok (.caload, 1) := by decide +kernel
theorem dX6_wrongWith_39 : decode cX6_wrongWith 39 = .ok (.bipush 115, 2) := by decide +kernel
theorem dX6_wrongWith_41 : decode cX6_wrongWith 41 = .ok (.if_icmp .ne 7, 3) := by decide +kernel
theorem dX6_wrongWith_44 : decode cX6_wrongWith 44 = .ok (.iconst 1, 1) := by decide +kernel
theorem dX6_wrongWith_45 : decode cX6_wrongWith 45 = .ok (.goto 4, 3) := by decide +kernel
theorem dX6_wrongWith_48 : decode cX6_wrongWith 48 = .ok (.iconst 0, 1) := by decide +kernel
theorem dX6_wrongWith_49 : decode cX6_wrongWith 49 = .ok (.istore_n 3, 1) := by decide +kernel
theorem dX6_wrongWith_50 : decode cX6_wrongWith 50 = .ok (.iload_n 3, 1) := by decide +kernel
theorem dX6_wrongWith_51 : decode cX6_wrongWith 51 = .ok (.ifCond .eq 8, 3) := by decide +kernel
theorem dX6_wrongWith_54 : decode cX6_wrongWith 54 = .ok (.bipush 120, 2) := by decide +kernel
theorem dX6_wrongWith_56 : decode cX6_wrongWith 56 = .ok (.goto 61, 3) := by decide +kernel
theorem dX6_wrongWith_59 : decode cX6_wrongWith 59 = .ok (.aload_n 0, 1) := by decide +kernel
theorem dX6_wrongWith_60 : decode cX6_wrongWith 60 = .ok (.iload_n 1, 1) := by decide +kernel
theorem dX6_wrongWith_61 : decode cX6_wrongWith 61 = .ok (.iload_n 2, 1) := by decide +kernel
theorem dX6_wrongWith_62 : decode cX6_wrongWith 62 = .ok (.invokevirtual 167, 3) := by decide +kernel
theorem dX6_wrongWith_65 : decode cX6_wrongWith 65 = .ok (.ifCond .eq 8, 3) := by decide +kernel
theorem dX6_wrongWith_68 : decode cX6_wrongWith 68 = .ok (.bipush 106, 2) := by decide +kernel
theorem dX6_wrongWith_70 : decode cX6_wrongWith 70 = .ok (.goto 47, 3) := by decide +kernel
theorem dX6_wrongWith_73 : decode cX6_wrongWith 73 = .ok (.aload_n 0, 1) := by decide +kernel
theorem dX6_wrongWith_74 : decode cX6_wrongWith 74 = .ok (.iload_n 1, 1) := by decide +kernel
theorem dX6_wrongWith_75 : decode cX6_wrongWith 75 = .ok (.iload_n 2, 1) := by decide +kernel
theorem dX6_wrongWith_76 : decode cX6_wrongWith 76 = .ok (.invokevirtual 170, 3) := by decide +kernel
theorem dX6_wrongWith_79 : decode cX6_wrongWith 79 = .ok (.ifCond .eq 8, 3) := by decide +kernel
theorem dX6_wrongWith_82 : decode cX6_wrongWith 82 = .ok (.bipush 103, 2) := by decide +kernel
theorem dX6_wrongWith_84 : decode cX6_wrongWith 84 = .ok (.goto 33, 3) := by decide +kernel
theorem dX6_wrongWith_87 : decode cX6_wrongWith 87 = .ok (.aload_n 0, 1) := by decide +kernel
theorem dX6_wrongWith_88 : decode cX6_wrongWith 88 = .ok (.iload_n 1, 1) := by decide +kernel
theorem dX6_wrongWith_89 : decode cX6_wrongWith 89 = .ok (.iload_n 2, 1) := by decide +kernel
theorem dX6_wrongWith_90 : decode cX6_wrongWith 90 = .ok (.invokevirtual 173, 3) := by decide +kernel
theorem dX6_wrongWith_93 : decode cX6_wrongWith 93 = .ok (.ifCond .eq 8, 3) := by decide +kernel
theorem dX6_wrongWith_96 : decode cX6_wrongWith 96 = .ok (.bipush 101, 2) := by decide +kernel
theorem dX6_wrongWith_98 : decode cX6_wrongWith 98 = .ok (.goto 19, 3) := by decide +kernel
theorem dX6_wrongWith_101 : decode cX6_wrongWith 101 = .ok (.aload_n 0, 1) := by decide +kernel
theorem dX6_wrongWith_102 : decode cX6_wrongWith 102 = .ok (.iload_n 1, 1) := by decide +kernel
theorem dX6_wrongWith_103 : decode cX6_wrongWith 103 = .ok (.iload_n 2, 1) := by decide +kernel
theorem dX6_wrongWith_104 : decode cX6_wrongWith 104 = .ok (.invokevirtual 176, 3) := by decide +kernel
theorem dX6_wrongWith_107 : decode cX6_wrongWith 107 = .ok (.ifCond .eq 8, 3) := by decide +kernel
theorem dX6_wrongWith_110 : decode cX6_wrongWith 110 = .ok (.bipush 109, 2) := by decide +kernel
theorem dX6_wrongWith_112 : decode cX6_wrongWith 112 = .ok (.goto 5, 3) := by decide +kernel
theorem dX6_wrongWith_115 : decode cX6_wrongWith 115 = .ok (.bipush 45, 2) := by decide +kernel
theorem dX6_wrongWith_117 : decode cX6_wrongWith 117 = .ok (.ireturn, 1) := by decide +kernel
theorem dX6_wrong_0 : decode cX6_wrong 0 = .ok (.aload_n 0, 1) := by decide +kernel
theorem dX6_wrong_1 : decode cX6_wrong 1 = .ok (.iload_n 1, 1) := by decide +kernel
theorem dX6_wrong_2 : decode cX6_wrong 2 = .ok (.iconst 1, 1) := by decide +kernel
theorem dX6_wrong_3 : decode cX6_wrong 3 = .ok (.aload_n 0, 1) := by decide +kernel
theorem dX6_wrong_4 : decode cX6_wrong 4 = .ok (.getfield 95, 3) := by decide +kernel
theorem dX6_wrong_7 : decode cX6_wrong 7 = .ok (.iconst 1, 1) := by decide +kernel
theorem dX6_wrong_8 : decode cX6_wrong 8 = .ok (.isub, 1) := by decide +kernel
theorem dX6_wrong_9 : decode cX6_wrong 9 = .ok (.invokestatic 91, 3) := by decide +kernel
theorem dX6_wrong_12 : decode cX6_wrong 12 = .ok (.ifCond .eq 7, 3) := by decide +kernel
theorem dX6_wrong_15 : decode cX6_wrong 15 = .ok (.iconst 0, 1) := by decide +kernel
theorem dX6_wrong_16 : decode cX6_wrong 16 = .ok (.goto 4, 3) := by decide +kernel
theorem dX6_wrong_19 : decode cX6_wrong 19 = .ok (.iconst 1, 1) := by decide +kernel
theorem dX6_wrong_20 : decode cX6_wrong 20 = .ok (.invokevirtual 102, 3) := by decide +kernel
theorem dX6_wrong_23 : decode cX6_wrong 23 = .ok (.ifCond .eq 8, 3) := by decide +kernel
theorem dX6_wrong_26 : decode cX6_wrong 26 = .ok (.bipush 32, 2) := by decide +kernel
theorem dX6_wrong_28 : decode cX6_wrong 28 = .ok (.goto 21, 3) := by decide +kernel
theorem dX6_wrong_31 : decode cX6_wrong 31 = .ok (.aload_n 0, 1) := by decide +kernel
theorem dX6_wrong_32 : decode cX6_wrong 32 = .ok (.aload_n 0, 1) := by decide +kernel
theorem dX6_wrong_33 : decode cX6_wrong 33 = .ok (.getfield 7, 3) := by decide +kernel
theorem dX6_wrong_36 : decode cX6_wrong 36 = .ok (.iload_n 1, 1) := by decide +kernel
theorem dX6_wrong_37 : decode cX6_wrong 37 = .ok (.iconst 1, 1) := by decide +kernel
theorem dX6_wrong_38 : decode cX6_wrong 38 = .ok (.isub, 1) := by decide +kernel
theorem dX6_wrong_39 : decode cX6_wrong 39 = .ok (.iaload, 1) := by decide +kernel
theorem dX6_wrong_40 : decode cX6_wrong 40 = .ok (.aload_n 0, 1) := by decide +kernel
theorem dX6_wrong_41 : decode cX6_wrong 41 = .ok (.getfield 7, 3) := by decide +kernel
theorem dX6_wrong_44 : decode cX6_wrong 44 = .ok (.iload_n 1, 1) := by decide +kernel
theorem dX6_wrong_45 : decode cX6_wrong 45 = .ok (.iaload, 1) := by decide +kernel
theorem dX6_wrong_46 : decode cX6_wrong 46 = .ok (.invokevirtual 179, 3) := by decide +kernel
theorem dX6_wrong_49 : decode cX6_wrong 49 = .ok (.ireturn, 1) := by decide +kernel
theorem dX6_excuseAt_0 : decode cX6_excuseAt 0 = .ok (.aload_n 0, 1) := by decide +kernel
theorem dX6_excuseAt_1 : decode cX6_excuseAt 1 = .ok (.getfield 7, 3) := by decide +kernel
theorem dX6_excuseAt_4 : decode cX6_excuseAt 4 = .ok (.iload_n 1, 1) := by decide +kernel
theorem dX6_excuseAt_5 : decode cX6_excuseAt 5 = .ok (.iaload, 1) := by decide +kernel
theorem dX6_excuseAt_6 : decode cX6_excuseAt 6 = .ok (.istore_n 2, 1) := by decide +kernel
theorem dX6_excuseAt_7 : decode cX6_excuseAt 7 = .ok (.aload_n 0, 1) := by decide +kernel
theorem dX6_excuseAt_8 : decode cX6_excuseAt 8 = .ok (.getfield 7, 3) := by decide +kernel
theorem dX6_excuseAt_11 : decode cX6_excuseAt 11 = .ok (.iload_n 1, 1) := by decide +kernel
theorem dX6_excuseAt_12 : decode cX6_excuseAt 12 = .ok (.iconst 1, 1) := by decide +kernel
theorem dX6_excuseAt_13 : decode cX6_excuseAt 13 = .ok (.isub, 1) := by decide +kernel
theorem dX6_excuseAt_14 : decode cX6_excuseAt 14 = .ok (.iaload, 1) := by decide +kernel
theorem dX6_excuseAt_15 : decode cX6_excuseAt 15 = .ok (.istore_n 3, 1) := by decide +kernel
theorem dX6_excuseAt_16 : decode cX6_excuseAt 16 = .ok (.aload_n 0, 1) := by decide +kernel
theorem dX6_excuseAt_17 : decode cX6_excuseAt 17 = .ok (.getfield 51, 3) := by decide +kernel
theorem dX6_excuseAt_20 : decode cX6_excuseAt 20 = .ok (.iload_n 2, 1) := by decide +kernel
theorem dX6_excuseAt_21 : decode cX6_excuseAt 21 = .ok (.iaload, 1) := by decide +kernel
theorem dX6_excuseAt_22 : decode cX6_excuseAt 22 = .ok (.aload_n 0, 1) := by decide +kernel
theorem dX6_excuseAt_23 : decode cX6_excuseAt 23 = .ok (.getfield 23, 3) := by decide +kernel
theorem dX6_excuseAt_26 : decode cX6_excuseAt 26 = .ok (.iload_n 2, 1) := by decide +kernel
theorem dX6_excuseAt_27 : decode cX6_excuseAt 27 = .ok (.iaload, 1) := by decide +kernel
theorem dX6_excuseAt_28 : decode cX6_excuseAt 28 = .ok (.if_icmp .ne 32, 3) := by decide +kernel
theorem dX6_excuseAt_31 : decode cX6_excuseAt 31 = .ok (.aload_n 0, 1) := by decide +kernel
theorem dX6_excuseAt_32 : decode cX6_excuseAt 32 = .ok (.getfield 54, 3) := by decide +kernel
theorem dX6_excuseAt_35 : decode cX6_excuseAt 35 = .ok (.iload_n 2, 1) := by decide +kernel
theorem dX6_excuseAt_36 : decode cX6_excuseAt 36 = .ok (.iaload, 1) := by decide +kernel
theorem dX6_excuseAt_37 : decode cX6_excuseAt 37 = .ok (.iload_n 3, 1) := by decide +kernel
theorem dX6_excuseAt_38 : decode cX6_excuseAt 38 = .ok (.if_icmp .ne 22, 3) := by decide +kernel
theorem dX6_excuseAt_41 : decode cX6_excuseAt 41 = .ok (.aload_n 0, 1) := by decide +kernel
theorem dX6_excuseAt_42 : decode cX6_excuseAt 42 = .ok (.getfield 57, 3) := by decide +kernel
theorem dX6_excuseAt_45 : decode cX6_excuseAt 45 = .ok (.iload_n 2, 1) := by decide +kernel
theorem dX6_excuseAt_46 : decode cX6_excuseAt 46 = .ok (.iaload, 1) := by decide +kernel
theorem dX6_excuseAt_47 : decode cX6_excuseAt 47 = .ok (.aload_n 0, 1) := by decide +kernel
theorem dX6_excuseAt_48 : decode cX6_excuseAt 48 = .ok (.getfield 23, 3) := by decide +kernel
theorem dX6_excuseAt_51 : decode cX6_excuseAt 51 = .ok (.iload_n 3, 1) := by decide +kernel
theorem dX6_excuseAt_52 : decode cX6_excuseAt 52 = .ok (.iaload, 1) := by decide +kernel
theorem dX6_excuseAt_53 : decode cX6_excuseAt 53 = .ok (.if_icmp .ne 7, 3) := by decide +kernel
theorem dX6_excuseAt_56 : decode cX6_excuseAt 56 = .ok (.iconst 1, 1) := by decide +kernel
theorem dX6_excuseAt_57 : decode cX6_excuseAt 57 = .ok (.goto 4, 3) := by decide +kernel
theorem dX6_excuseAt_60 : decode cX6_excuseAt 60 = .ok (.iconst 0, 1) := by decide +kernel
theorem dX6_excuseAt_61 : decode cX6_excuseAt 61 = .ok (.istore 4, 2) := by decide +kernel
theorem dX6_excuseAt_63 : decode cX6_excuseAt 63 = .ok (.iload 4, 2) := by decide +kernel
theorem dX6_excuseAt_65 : decode cX6_excuseAt 65 = .ok (.ifCond .eq 12, 3) := by decide +kernel
theorem dX6_excuseAt_68 : decode cX6_excuseAt 68 = .ok (.aload_n 0, 1) := by decide +kernel
theorem dX6_excuseAt_69 : decode cX6_excuseAt 69 = .ok (.getfield 48, 3) := by decide +kernel
theorem dX6_excuseAt_72 : decode cX6_excuseAt 72 = .ok (.iload_n 2, 1) := by decide +kernel
theorem dX6_excuseAt_73 : decode cX6_excuseAt 73 = .ok (.caload, 1) := by decide +kernel
theorem dX6_excuseAt_74 : decode cX6_excuseAt 74 = .ok (.goto 5, 3) := by decide +kernel
theorem dX6_excuseAt_77 : decode cX6_excuseAt 77 = .ok (.bipush 45, 2) := by decide +kernel
theorem dX6_excuseAt_79 : decode cX6_excuseAt 79 = .ok (.ireturn, 1) := by decide +kernel
theorem dX6_isFault_0 : decode cX6_isFault 0 = .ok (.iload_n 0, 1) := by decide +kernel
theorem dX6_isFault_1 : decode cX6_isFault 1 = .ok (.bipush 120, 2) := by decide +kernel
theorem dX6_isFault_3 : decode cX6_isFault 3 = .ok (.if_icmp .eq 27, 3) := by decide +kernel
theorem dX6_isFault_6 : decode cX6_isFault 6 = .ok (.iload_n 0, 1) := by decide +kernel
theorem dX6_isFault_7 : decode cX6_isFault 7 = .ok (.bipush 106, 2) := by decide +kernel
theorem dX6_isFault_9 : decode cX6_isFault 9 = .ok (.if_icmp .eq 21, 3) := by decide +kernel
theorem dX6_isFault_12 : decode cX6_isFault 12 = .ok (.iload_n 0, 1) := by decide +kernel
theorem dX6_isFault_13 : decode cX6_isFault 13 = .ok (.bipush 103, 2) := by decide +kernel
theorem dX6_isFault_15 : decode cX6_isFault 15 = .ok (.if_icmp .eq 15, 3) := by decide +kernel
theorem dX6_isFault_18 : decode cX6_isFault 18 = .ok (.iload_n 0, 1) := by decide +kernel
theorem dX6_isFault_19 : decode cX6_isFault 19 = .ok (.bipush 101, 2) := by decide +kernel
theorem dX6_isFault_21 : decode cX6_isFault 21 = .ok (.if_icmp .eq 9, 3) := by decide +kernel
theorem dX6_isFault_24 : decode cX6_isFault 24 = .ok (.iload_n 0, 1) := by decide +kernel
theorem dX6_isFault_25 : decode cX6_isFault 25 = .ok (.bipush 109, 2) := by decide +kernel
theorem dX6_isFault_27 : decode cX6_isFault 27 = .ok (.if_icmp .ne 7, 3) := by decide +kernel
theorem dX6_isFault_30 : decode cX6_isFault 30 = .ok (.iconst 1, 1) := by decide +kernel
theorem dX6_isFault_31 : decode cX6_isFault 31 = .ok (.goto 4, 3) := by decide +kernel
theorem dX6_isFault_34 : decode cX6_isFault 34 = .ok (.iconst 0, 1) := by decide +kernel
theorem dX6_isFault_35 : decode cX6_isFault 35 = .ok (.ireturn, 1) := by decide +kernel
theorem dX6_excuse_0 : decode cX6_excuse 0 = .ok (.aload_n 0, 1) := by decide +kernel
theorem dX6_excuse_1 : decode cX6_excuse 1 = .ok (.iload_n 2, 1) := by decide +kernel
theorem dX6_excuse_2 : decode cX6_excuse 2 = .ok (.invokestatic 183, 3) := by decide +kernel
theorem dX6_excuse_5 : decode cX6_excuse 5 = .ok (.ifCond .ne 7, 3) := by decide +kernel
theorem dX6_excuse_8 : decode cX6_excuse 8 = .ok (.iconst 1, 1) := by decide +kernel
theorem dX6_excuse_9 : decode cX6_excuse 9 = .ok (.goto 22, 3) := by decide +kernel
theorem dX6_excuse_12 : decode cX6_excuse 12 = .ok (.iload_n 1, 1) := by decide +kernel
theorem dX6_excuse_13 : decode cX6_excuse 13 = .ok (.iconst 1, 1) := by decide +kernel
theorem dX6_excuse_14 : decode cX6_excuse 14 = .ok (.aload_n 0, 1) := by decide +kernel
theorem dX6_excuse_15 : decode cX6_excuse 15 = .ok (.getfield 95, 3) := by decide +kernel
theorem dX6_excuse_18 : decode cX6_excuse 18 = .ok (.iconst 1, 1) := by decide +kernel
theorem dX6_excuse_19 : decode cX6_excuse 19 = .ok (.isub, 1) := by decide +kernel
theorem dX6_excuse_20 : decode cX6_excuse 20 = .ok (.invokestatic 91, 3) := by decide +kernel
theorem dX6_excuse_23 : decode cX6_excuse 23 = .ok (.ifCond .eq 7, 3) := by decide +kernel
theorem dX6_excuse_26 : decode cX6_excuse 26 = .ok (.iconst 0, 1) := by decide +kernel
theorem dX6_excuse_27 : decode cX6_excuse 27 = .ok (.goto 4, 3) := by decide +kernel
theorem dX6_excuse_30 : decode cX6_excuse 30 = .ok (.iconst 2, 1) := by decide +kernel
theorem dX6_excuse_31 : decode cX6_excuse 31 = .ok (.invokevirtual 102, 3) := by decide +kernel
theorem dX6_excuse_34 : decode cX6_excuse 34 = .ok (.ifCond .eq 6, 3) := by decide +kernel
theorem dX6_excuse_37 : decode cX6_excuse 37 = .ok (.bipush 32, 2) := by decide +kernel
theorem dX6_excuse_39 : decode cX6_excuse 39 = .ok (.ireturn, 1) := by decide +kernel
theorem dX6_excuse_40 : decode cX6_excuse 40 = .ok (.aload_n 0, 1) := by decide +kernel
theorem dX6_excuse_41 : decode cX6_excuse 41 = .ok (.iload_n 1, 1) := by decide +kernel
theorem dX6_excuse_42 : decode cX6_excuse 42 = .ok (.invokevirtual 186, 3) := by decide +kernel
theorem dX6_excuse_45 : decode cX6_excuse 45 = .ok (.istore_n 3, 1) := by decide +kernel
theorem dX6_excuse_46 : decode cX6_excuse 46 = .ok (.aload_n 0, 1) := by decide +kernel
theorem dX6_excuse_47 : decode cX6_excuse 47 = .ok (.getfield 7, 3) := by decide +kernel
theorem dX6_excuse_50 : decode cX6_excuse 50 = .ok (.iload_n 1, 1) := by decide +kernel
theorem dX6_excuse_51 : decode cX6_excuse 51 = .ok (.iaload, 1) := by decide +kernel
theorem dX6_excuse_52 : decode cX6_excuse 52 = .ok (.istore 4, 2) := by decide +kernel
theorem dX6_excuse_54 : decode cX6_excuse 54 = .ok (.aload_n 0, 1) := by decide +kernel
theorem dX6_excuse_55 : decode cX6_excuse 55 = .ok (.getfield 48, 3) := by decide +kernel
theorem dX6_excuse_58 : decode cX6_excuse 58 = .ok (.iload 4, 2) := by decide +kernel
theorem dX6_excuse_60 : decode cX6_excuse 60 = .ok (.iload_n 2, 1) := by decide +kernel
theorem dX6_excuse_61 : decode cX6_excuse 61 = .ok (.castore, 1) := by decide +kernel
theorem dX6_excuse_62 : decode cX6_excuse 62 = .ok (.aload_n 0, 1) := by decide +kernel
theorem dX6_excuse_63 : decode cX6_excuse 63 = .ok (.getfield 51, 3) := by decide +kernel
theorem dX6_excuse_66 : decode cX6_excuse 66 = .ok (.iload 4, 2) := by decide +kernel
theorem dX6_excuse_68 : decode cX6_excuse 68 = .ok (.aload_n 0, 1) := by decide +kernel
theorem dX6_excuse_69 : decode cX6_excuse 69 = .ok (.getfield 23, 3) := by decide +kernel
theorem dX6_excuse_72 : decode cX6_excuse 72 = .ok (.iload 4, 2) := by decide +kernel
theorem dX6_excuse_74 : decode cX6_excuse 74 = .ok (.iaload, 1) := by decide +kernel
theorem dX6_excuse_75 : decode cX6_excuse 75 = .ok (.iastore, 1) := by decide +kernel
theorem dX6_excuse_76 : decode cX6_excuse 76 = .ok (.aload_n 0, 1) := by decide +kernel
theorem dX6_excuse_77 : decode cX6_excuse 77 = .ok (.getfield 54, 3) := by decide +kernel
theorem dX6_excuse_80 : decode cX6_excuse 80 = .ok (.iload 4, 2) := by decide +kernel
theorem dX6_excuse_82 : decode cX6_excuse 82 = .ok (.aload_n 0, 1) := by decide +kernel
theorem dX6_excuse_83 : decode cX6_excuse 83 = .ok (.getfield 7, 3) := by decide +kernel
theorem dX6_excuse_86 : decode cX6_excuse 86 = .ok (.iload_n 1, 1) := by decide +kernel
theorem dX6_excuse_87 : decode cX6_excuse 87 = .ok (.iconst 1, 1) := by decide +kernel
theorem dX6_excuse_88 : decode cX6_excuse 88 = .ok (.isub, 1) := by decide +kernel
theorem dX6_excuse_89 : decode cX6_excuse 89 = .ok (.iaload, 1) := by decide +kernel
theorem dX6_excuse_90 : decode cX6_excuse 90 = .ok (.iastore, 1) := by decide +kernel
theorem dX6_excuse_91 : decode cX6_excuse 91 = .ok (.aload_n 0, 1) := by decide +kernel
theorem dX6_excuse_92 : decode cX6_excuse 92 = .ok (.getfield 57, 3) := by decide +kernel
theorem dX6_excuse_95 : decode cX6_excuse 95 = .ok (.iload 4, 2) := by decide +kernel
theorem dX6_excuse_97 : decode cX6_excuse 97 = .ok (.aload_n 0, 1) := by decide +kernel
theorem dX6_excuse_98 : decode cX6_excuse 98 = .ok (.getfield 23, 3) := by decide +kernel
theorem dX6_excuse_101 : decode cX6_excuse 101 = .ok (.aload_n 0, 1) := by decide +kernel
theorem dX6_excuse_102 : decode cX6_excuse 102 = .ok (.getfield 7, 3) := by decide +kernel
theorem dX6_excuse_105 : decode cX6_excuse 105 = .ok (.iload_n 1, 1) := by decide +kernel
theorem dX6_excuse_106 : decode cX6_excuse 106 = .ok (.iconst 1, 1) := by decide +kernel
theorem dX6_excuse_107 : decode cX6_excuse 107 = .ok (.isub, 1) := by decide +kernel
theorem dX6_excuse_108 : decode cX6_excuse 108 = .ok (.iaload, 1) := by decide +kernel
theorem dX6_excuse_109 : decode cX6_excuse 109 = .ok (.iaload, 1) := by decide +kernel
theorem dX6_excuse_110 : decode cX6_excuse 110 = .ok (.iastore, 1) := by decide +kernel
theorem dX6_excuse_111 : decode cX6_excuse 111 = .ok (.iload_n 3, 1) := by decide +kernel
theorem dX6_excuse_112 : decode cX6_excuse 112 = .ok (.ireturn, 1) := by decide +kernel
theorem dX6_isBrokenAt_0 : decode cX6_isBrokenAt 0 = .ok (.aload_n 0, 1) := by decide +kernel
theorem dX6_isBrokenAt_1 : decode cX6_isBrokenAt 1 = .ok (.aload_n 0, 1) := by decide +kernel
theorem dX6_isBrokenAt_2 : decode cX6_isBrokenAt 2 = .ok (.getfield 7, 3) := by decide +kernel
theorem dX6_isBrokenAt_5 : decode cX6_isBrokenAt 5 = .ok (.iload_n 1, 1) := by decide +kernel
theorem dX6_isBrokenAt_6 : decode cX6_isBrokenAt 6 = .ok (.iconst 1, 1) := by decide +kernel
theorem dX6_isBrokenAt_7 : decode cX6_isBrokenAt 7 = .ok (.isub, 1) := by decide +kernel
theorem dX6_isBrokenAt_8 : decode cX6_isBrokenAt 8 = .ok (.iaload, 1) := by decide +kernel
theorem dX6_isBrokenAt_9 : decode cX6_isBrokenAt 9 = .ok (.aload_n 0, 1) := by decide +kernel
theorem dX6_isBrokenAt_10 : decode cX6_isBrokenAt 10 = .ok (.getfield 7, 3) := by decide +kernel
theorem dX6_isBrokenAt_13 : decode cX6_isBrokenAt 13 = .ok (.iload_n 1, 1) := by decide +kernel
theorem dX6_isBrokenAt_14 : decode cX6_isBrokenAt 14 = .ok (.iaload, 1) := by decide +kernel
theorem dX6_isBrokenAt_15 : decode cX6_isBrokenAt 15 = .ok (.invokevirtual 179, 3) := by decide +kernel
theorem dX6_isBrokenAt_18 : decode cX6_isBrokenAt 18 = .ok (.istore_n 2, 1) := by decide +kernel
theorem dX6_isBrokenAt_19 : decode cX6_isBrokenAt 19 = .ok (.iload_n 2, 1) := by decide +kernel
theorem dX6_isBrokenAt_20 : decode cX6_isBrokenAt 20 = .ok (.bipush 45, 2) := by decide +kernel
theorem dX6_isBrokenAt_22 : decode cX6_isBrokenAt 22 = .ok (.if_icmp .eq 16, 3) := by decide +kernel
theorem dX6_isBrokenAt_25 : decode cX6_isBrokenAt 25 = .ok (.aload_n 0, 1) := by decide +kernel
theorem dX6_isBrokenAt_26 : decode cX6_isBrokenAt 26 = .ok (.iload_n 1, 1) := by decide +kernel
theorem dX6_isBrokenAt_27 : decode cX6_isBrokenAt 27 = .ok (.invokevirtual 186, 3) := by decide +kernel
theorem dX6_isBrokenAt_30 : decode cX6_isBrokenAt 30 = .ok (.iload_n 2, 1) := by decide +kernel
theorem dX6_isBrokenAt_31 : decode cX6_isBrokenAt 31 = .ok (.if_icmp .eq 7, 3) := by decide +kernel
theorem dX6_isBrokenAt_34 : decode cX6_isBrokenAt 34 = .ok (.iconst 1, 1) := by decide +kernel
theorem dX6_isBrokenAt_35 : decode cX6_isBrokenAt 35 = .ok (.goto 4, 3) := by decide +kernel
theorem dX6_isBrokenAt_38 : decode cX6_isBrokenAt 38 = .ok (.iconst 0, 1) := by decide +kernel
theorem dX6_isBrokenAt_39 : decode cX6_isBrokenAt 39 = .ok (.ireturn, 1) := by decide +kernel
theorem dX6_isBroken_0 : decode cX6_isBroken 0 = .ok (.aload_n 0, 1) := by decide +kernel
theorem dX6_isBroken_1 : decode cX6_isBroken 1 = .ok (.iload_n 1, 1) := by decide +kernel
theorem dX6_isBroken_2 : decode cX6_isBroken 2 = .ok (.iconst 1, 1) := by decide +kernel
theorem dX6_isBroken_3 : decode cX6_isBroken 3 = .ok (.aload_n 0, 1) := by decide +kernel
theorem dX6_isBroken_4 : decode cX6_isBroken 4 = .ok (.getfield 95, 3) := by decide +kernel
theorem dX6_isBroken_7 : decode cX6_isBroken 7 = .ok (.iconst 1, 1) := by decide +kernel
theorem dX6_isBroken_8 : decode cX6_isBroken 8 = .ok (.isub, 1) := by decide +kernel
theorem dX6_isBroken_9 : decode cX6_isBroken 9 = .ok (.invokestatic 91, 3) := by decide +kernel
theorem dX6_isBroken_12 : decode cX6_isBroken 12 = .ok (.ifCond .eq 7, 3) := by decide +kernel
theorem dX6_isBroken_15 : decode cX6_isBroken 15 = .ok (.iconst 0, 1) := by decide +kernel
theorem dX6_isBroken_16 : decode cX6_isBroken 16 = .ok (.goto 4, 3) := by decide +kernel
theorem dX6_isBroken_19 : decode cX6_isBroken 19 = .ok (.iconst 1, 1) := by decide +kernel
theorem dX6_isBroken_20 : decode cX6_isBroken 20 = .ok (.invokevirtual 102, 3) := by decide +kernel
theorem dX6_isBroken_23 : decode cX6_isBroken 23 = .ok (.ifCond .ne 15, 3) := by decide +kernel
theorem dX6_isBroken_26 : decode cX6_isBroken 26 = .ok (.aload_n 0, 1) := by decide +kernel
theorem dX6_isBroken_27 : decode cX6_isBroken 27 = .ok (.iload_n 1, 1) := by decide +kernel
theorem dX6_isBroken_28 : decode cX6_isBroken 28 = .ok (.invokevirtual 189, 3) := by decide +kernel
theorem dX6_isBroken_31 : decode cX6_isBroken 31 = .ok (.ifCond .eq 7, 3) := by decide +kernel
theorem dX6_isBroken_34 : decode cX6_isBroken 34 = .ok (.iconst 1, 1) := by decide +kernel
theorem dX6_isBroken_35 : decode cX6_isBroken 35 = .ok (.goto 4, 3) := by decide +kernel
theorem dX6_isBroken_38 : decode cX6_isBroken 38 = .ok (.iconst 0, 1) := by decide +kernel
theorem dX6_isBroken_39 : decode cX6_isBroken 39 = .ok (.ireturn, 1) := by decide +kernel
theorem dX6_countBroken_0 : decode cX6_countBroken 0 = .ok (.iconst 0, 1) := by decide +kernel
theorem dX6_countBroken_1 : decode cX6_countBroken 1 = .ok (.istore_n 1, 1) := by decide +kernel
theorem dX6_countBroken_2 : decode cX6_countBroken 2 = .ok (.iconst 1, 1) := by decide +kernel
theorem dX6_countBroken_3 : decode cX6_countBroken 3 = .ok (.istore_n 2, 1) := by decide +kernel
theorem dX6_countBroken_4 : decode cX6_countBroken 4 = .ok (.iload_n 2, 1) := by decide +kernel
theorem dX6_countBroken_5 : decode cX6_countBroken 5 = .ok (.aload_n 0, 1) := by decide +kernel
theorem dX6_countBroken_6 : decode cX6_countBroken 6 = .ok (.getfield 95, 3) := by decide +kernel
theorem dX6_countBroken_9 : decode cX6_countBroken 9 = .ok (.if_icmp .ge 25, 3) := by decide +kernel
theorem dX6_countBroken_12 : decode cX6_countBroken 12 = .ok (.aload_n 0, 1) := by decide +kernel
theorem dX6_countBroken_13 : decode cX6_countBroken 13 = .ok (.iload_n 2, 1) := by decide +kernel
theorem dX6_countBroken_14 : decode cX6_countBroken 14 = .ok (.invokevirtual 189, 3) := by decide +kernel
theorem dX6_countBroken_17 : decode cX6_countBroken 17 = .ok (.ifCond .eq 9, 3) := by decide +kernel
theorem dX6_countBroken_20 : decode cX6_countBroken 20 = .ok (.iload_n 1, 1) := by decide +kernel
theorem dX6_countBroken_21 : decode cX6_countBroken 21 = .ok (.iconst 1, 1) := by decide +kernel
theorem dX6_countBroken_22 : decode cX6_countBroken 22 = .ok (.iadd, 1) := by decide +kernel
theorem dX6_countBroken_23 : decode cX6_countBroken 23 = .ok (.goto 4, 3) := by decide +kernel
theorem dX6_countBroken_26 : decode cX6_countBroken 26 = .ok (.iload_n 1, 1) := by decide +kernel
theorem dX6_countBroken_27 : decode cX6_countBroken 27 = .ok (.istore_n 1, 1) := by decide +kernel
theorem dX6_countBroken_28 : decode cX6_countBroken 28 = .ok (.iinc 2 1, 3) := by decide +kernel
theorem dX6_countBroken_31 : decode cX6_countBroken 31 = .ok (.goto (-27), 3) := by decide +kernel
theorem dX6_countBroken_34 : decode cX6_countBroken 34 = .ok (.iload_n 1, 1) := by decide +kernel
theorem dX6_countBroken_35 : decode cX6_countBroken 35 = .ok (.ireturn, 1) := by decide +kernel
theorem dX6_broken_0 : decode cX6_broken 0 = .ok (.aload_n 0, 1) := by decide +kernel
theorem dX6_broken_1 : decode cX6_broken 1 = .ok (.iconst 0, 1) := by decide +kernel
theorem dX6_broken_2 : decode cX6_broken 2 = .ok (.putfield 84, 3) := by decide +kernel
theorem dX6_broken_5 : decode cX6_broken 5 = .ok (.aload_n 0, 1) := by decide +kernel
theorem dX6_broken_6 : decode cX6_broken 6 = .ok (.invokevirtual 192, 3) := by decide +kernel
theorem dX6_broken_9 : decode cX6_broken 9 = .ok (.ireturn, 1) := by decide +kernel
theorem dX6_hand_0 : decode cX6_hand 0 = .ok (.aload_n 0, 1) := by decide +kernel
theorem dX6_hand_1 : decode cX6_hand 1 = .ok (.aload_n 0, 1) := by decide +kernel
theorem dX6_hand_2 : decode cX6_hand 2 = .ok (.iload_n 1, 1) := by decide +kernel
theorem dX6_hand_3 : decode cX6_hand 3 = .ok (.invokevirtual 118, 3) := by decide +kernel
theorem dX6_hand_6 : decode cX6_hand 6 = .ok (.ifCond .ne 7, 3) := by decide +kernel
theorem dX6_hand_9 : decode cX6_hand 9 = .ok (.iconst 1, 1) := by decide +kernel
theorem dX6_hand_10 : decode cX6_hand 10 = .ok (.goto 39, 3) := by decide +kernel
theorem dX6_hand_13 : decode cX6_hand 13 = .ok (.iload_n 2, 1) := by decide +kernel
theorem dX6_hand_14 : decode cX6_hand 14 = .ok (.iconst 0, 1) := by decide +kernel
theorem dX6_hand_15 : decode cX6_hand 15 = .ok (.iconst 3, 1) := by decide +kernel
theorem dX6_hand_16 : decode cX6_hand 16 = .ok (.invokestatic 91, 3) := by decide +kernel
theorem dX6_hand_19 : decode cX6_hand 19 = .ok (.ifCond .ne 7, 3) := by decide +kernel
theorem dX6_hand_22 : decode cX6_hand 22 = .ok (.iconst 2, 1) := by decide +kernel
theorem dX6_hand_23 : decode cX6_hand 23 = .ok (.goto 26, 3) := by decide +kernel
theorem dX6_hand_26 : decode cX6_hand 26 = .ok (.aload_n 0, 1) := by decide +kernel
theorem dX6_hand_27 : decode cX6_hand 27 = .ok (.iload_n 1, 1) := by decide +kernel
theorem dX6_hand_28 : decode cX6_hand 28 = .ok (.invokevirtual 121, 3) := by decide +kernel
theorem dX6_hand_31 : decode cX6_hand 31 = .ok (.ifCond .lt 13, 3) := by decide +kernel
theorem dX6_hand_34 : decode cX6_hand 34 = .ok (.aload_n 0, 1) := by decide +kernel
theorem dX6_hand_35 : decode cX6_hand 35 = .ok (.getfield 60, 3) := by decide +kernel
theorem dX6_hand_38 : decode cX6_hand 38 = .ok (.iload_n 1, 1) := by decide +kernel
theorem dX6_hand_39 : decode cX6_hand 39 = .ok (.iaload, 1) := by decide +kernel
theorem dX6_hand_40 : decode cX6_hand 40 = .ok (.iconst (-1), 1) := by decide +kernel
theorem dX6_hand_41 : decode cX6_hand 41 = .ok (.if_icmp .eq 7, 3) := by decide +kernel
theorem dX6_hand_44 : decode cX6_hand 44 = .ok (.iconst 3, 1) := by decide +kernel
theorem dX6_hand_45 : decode cX6_hand 45 = .ok (.goto 4, 3) := by decide +kernel
theorem dX6_hand_48 : decode cX6_hand 48 = .ok (.iconst 0, 1) := by decide +kernel
theorem dX6_hand_49 : decode cX6_hand 49 = .ok (.invokevirtual 102, 3) := by decide +kernel
theorem dX6_hand_52 : decode cX6_hand 52 = .ok (.ifCond .eq 5, 3) := by decide +kernel
theorem dX6_hand_55 : decode cX6_hand 55 = .ok (.iconst 0, 1) := by decide +kernel
theorem dX6_hand_56 : decode cX6_hand 56 = .ok (.ireturn, 1) := by decide +kernel
theorem dX6_hand_57 : decode cX6_hand 57 = .ok (.aload_n 0, 1) := by decide +kernel
theorem dX6_hand_58 : decode cX6_hand 58 = .ok (.getfield 60, 3) := by decide +kernel
theorem dX6_hand_61 : decode cX6_hand 61 = .ok (.iload_n 1, 1) := by decide +kernel
theorem dX6_hand_62 : decode cX6_hand 62 = .ok (.iload_n 2, 1) := by decide +kernel
theorem dX6_hand_63 : decode cX6_hand 63 = .ok (.iastore, 1) := by decide +kernel
theorem dX6_hand_64 : decode cX6_hand 64 = .ok (.aload_n 0, 1) := by decide +kernel
theorem dX6_hand_65 : decode cX6_hand 65 = .ok (.getfield 63, 3) := by decide +kernel
theorem dX6_hand_68 : decode cX6_hand 68 = .ok (.iload_n 1, 1) := by decide +kernel
theorem dX6_hand_69 : decode cX6_hand 69 = .ok (.aload_n 0, 1) := by decide +kernel
theorem dX6_hand_70 : decode cX6_hand 70 = .ok (.getfield 23, 3) := by decide +kernel
theorem dX6_hand_73 : decode cX6_hand 73 = .ok (.iload_n 1, 1) := by decide +kernel
theorem dX6_hand_74 : decode cX6_hand 74 = .ok (.iaload, 1) := by decide +kernel
theorem dX6_hand_75 : decode cX6_hand 75 = .ok (.iastore, 1) := by decide +kernel
theorem dX6_hand_76 : decode cX6_hand 76 = .ok (.iconst 0, 1) := by decide +kernel
theorem dX6_hand_77 : decode cX6_hand 77 = .ok (.istore_n 3, 1) := by decide +kernel
theorem dX6_hand_78 : decode cX6_hand 78 = .ok (.iconst 0, 1) := by decide +kernel
theorem dX6_hand_79 : decode cX6_hand 79 = .ok (.istore 4, 2) := by decide +kernel
theorem dX6_hand_81 : decode cX6_hand 81 = .ok (.iload 4, 2) := by decide +kernel
theorem dX6_hand_83 : decode cX6_hand 83 = .ok (.aload_n 0, 1) := by decide +kernel
theorem dX6_hand_84 : decode cX6_hand 84 = .ok (.getfield 88, 3) := by decide +kernel
theorem dX6_hand_87 : decode cX6_hand 87 = .ok (.if_icmp .ge 28, 3) := by decide +kernel
theorem dX6_hand_90 : decode cX6_hand 90 = .ok (.aload_n 0, 1) := by decide +kernel
theorem dX6_hand_91 : decode cX6_hand 91 = .ok (.getfield 60, 3) := by decide +kernel
theorem dX6_hand_94 : decode cX6_hand 94 = .ok (.iload 4, 2) := by decide +kernel
theorem dX6_hand_96 : decode cX6_hand 96 = .ok (.iaload, 1) := by decide +kernel
theorem dX6_hand_97 : decode cX6_hand 97 = .ok (.iload_n 2, 1) := by decide +kernel
theorem dX6_hand_98 : decode cX6_hand 98 = .ok (.if_icmp .ne 9, 3) := by decide +kernel
theorem dX6_hand_101 : decode cX6_hand 101 = .ok (.iload_n 3, 1) := by decide +kernel
theorem dX6_hand_102 : decode cX6_hand 102 = .ok (.iconst 1, 1) := by decide +kernel
theorem dX6_hand_103 : decode cX6_hand 103 = .ok (.iadd, 1) := by decide +kernel
theorem dX6_hand_104 : decode cX6_hand 104 = .ok (.goto 4, 3) := by decide +kernel
theorem dX6_hand_107 : decode cX6_hand 107 = .ok (.iload_n 3, 1) := by decide +kernel
theorem dX6_hand_108 : decode cX6_hand 108 = .ok (.istore_n 3, 1) := by decide +kernel
theorem dX6_hand_109 : decode cX6_hand 109 = .ok (.iinc 4 1, 3) := by decide +kernel
theorem dX6_hand_112 : decode cX6_hand 112 = .ok (.goto (-31), 3) := by decide +kernel
theorem dX6_hand_115 : decode cX6_hand 115 = .ok (.iload_n 3, 1) := by decide +kernel
theorem dX6_hand_116 : decode cX6_hand 116 = .ok (.ireturn, 1) := by decide +kernel
theorem dX6_bring_0 : decode cX6_bring 0 = .ok (.aload_n 0, 1) := by decide +kernel
theorem dX6_bring_1 : decode cX6_bring 1 = .ok (.aload_n 0, 1) := by decide +kernel
theorem dX6_bring_2 : decode cX6_bring 2 = .ok (.iload_n 1, 1) := by decide +kernel
theorem dX6_bring_3 : decode cX6_bring 3 = .ok (.invokevirtual 118, 3) := by decide +kernel
theorem dX6_bring_6 : decode cX6_bring 6 = .ok (.ifCond .ne 7, 3) := by decide +kernel
theorem dX6_bring_9 : decode cX6_bring 9 = .ok (.iconst 1, 1) := by decide +kernel
theorem dX6_bring_10 : decode cX6_bring 10 = .ok (.goto 33, 3) := by decide +kernel
theorem dX6_bring_13 : decode cX6_bring 13 = .ok (.iload_n 2, 1) := by decide +kernel
theorem dX6_bring_14 : decode cX6_bring 14 = .ok (.iconst 1, 1) := by decide +kernel
theorem dX6_bring_15 : decode cX6_bring 15 = .ok (.sipush 240, 3) := by decide +kernel
theorem dX6_bring_18 : decode cX6_bring 18 = .ok (.invokestatic 91, 3) := by decide +kernel
theorem dX6_bring_21 : decode cX6_bring 21 = .ok (.ifCond .ne 7, 3) := by decide +kernel
theorem dX6_bring_24 : decode cX6_bring 24 = .ok (.iconst 2, 1) := by decide +kernel
theorem dX6_bring_25 : decode cX6_bring 25 = .ok (.goto 18, 3) := by decide +kernel
theorem dX6_bring_28 : decode cX6_bring 28 = .ok (.aload_n 0, 1) := by decide +kernel
theorem dX6_bring_29 : decode cX6_bring 29 = .ok (.getfield 60, 3) := by decide +kernel
theorem dX6_bring_32 : decode cX6_bring 32 = .ok (.iload_n 1, 1) := by decide +kernel
theorem dX6_bring_33 : decode cX6_bring 33 = .ok (.iaload, 1) := by decide +kernel
theorem dX6_bring_34 : decode cX6_bring 34 = .ok (.iconst (-1), 1) := by decide +kernel
theorem dX6_bring_35 : decode cX6_bring 35 = .ok (.if_icmp .ne 7, 3) := by decide +kernel
theorem dX6_bring_38 : decode cX6_bring 38 = .ok (.iconst 3, 1) := by decide +kernel
theorem dX6_bring_39 : decode cX6_bring 39 = .ok (.goto 4, 3) := by decide +kernel
theorem dX6_bring_42 : decode cX6_bring 42 = .ok (.iconst 0, 1) := by decide +kernel
theorem dX6_bring_43 : decode cX6_bring 43 = .ok (.invokevirtual 102, 3) := by decide +kernel
theorem dX6_bring_46 : decode cX6_bring 46 = .ok (.ifCond .eq 5, 3) := by decide +kernel
theorem dX6_bring_49 : decode cX6_bring 49 = .ok (.iconst 0, 1) := by decide +kernel
theorem dX6_bring_50 : decode cX6_bring 50 = .ok (.ireturn, 1) := by decide +kernel
theorem dX6_bring_51 : decode cX6_bring 51 = .ok (.aload_n 0, 1) := by decide +kernel
theorem dX6_bring_52 : decode cX6_bring 52 = .ok (.getfield 63, 3) := by decide +kernel
theorem dX6_bring_55 : decode cX6_bring 55 = .ok (.iload_n 1, 1) := by decide +kernel
theorem dX6_bring_56 : decode cX6_bring 56 = .ok (.iaload, 1) := by decide +kernel
theorem dX6_bring_57 : decode cX6_bring 57 = .ok (.aload_n 0, 1) := by decide +kernel
theorem dX6_bring_58 : decode cX6_bring 58 = .ok (.getfield 23, 3) := by decide +kernel
theorem dX6_bring_61 : decode cX6_bring 61 = .ok (.iload_n 1, 1) := by decide +kernel
theorem dX6_bring_62 : decode cX6_bring 62 = .ok (.iaload, 1) := by decide +kernel
theorem dX6_bring_63 : decode cX6_bring 63 = .ok (.if_icmp .ne 7, 3) := by decide +kernel
theorem dX6_bring_66 : decode cX6_bring 66 = .ok (.iconst 1, 1) := by decide +kernel
theorem dX6_bring_67 : decode cX6_bring 67 = .ok (.goto 4, 3) := by decide +kernel
theorem dX6_bring_70 : decode cX6_bring 70 = .ok (.iconst 0, 1) := by decide +kernel
theorem dX6_bring_71 : decode cX6_bring 71 = .ok (.istore_n 3, 1) := by decide +kernel
theorem dX6_bring_72 : decode cX6_bring 72 = .ok (.aload_n 0, 1) := by decide +kernel
theorem dX6_bring_73 : decode cX6_bring 73 = .ok (.getfield 60, 3) := by decide +kernel
theorem dX6_bring_76 : decode cX6_bring 76 = .ok (.iload_n 1, 1) := by decide +kernel
theorem dX6_bring_77 : decode cX6_bring 77 = .ok (.iconst (-1), 1) := by decide +kernel
theorem dX6_bring_78 : decode cX6_bring 78 = .ok (.iastore, 1) := by decide +kernel
theorem dX6_bring_79 : decode cX6_bring 79 = .ok (.aload_n 0, 1) := by decide +kernel
theorem dX6_bring_80 : decode cX6_bring 80 = .ok (.iload_n 3, 1) := by decide +kernel
theorem dX6_bring_81 : decode cX6_bring 81 = .ok (.ifCond .eq 10, 3) := by decide +kernel
theorem dX6_bring_84 : decode cX6_bring 84 = .ok (.aload_n 0, 1) := by decide +kernel
theorem dX6_bring_85 : decode cX6_bring 85 = .ok (.getfield 196, 3) := by decide +kernel
theorem dX6_bring_88 : decode cX6_bring 88 = .ok (.goto 9, 3) := by decide +kernel
theorem dX6_bring_91 : decode cX6_bring 91 = .ok (.aload_n 0, 1) := by decide +kernel
theorem dX6_bring_92 : decode cX6_bring 92 = .ok (.getfield 196, 3) := by decide +kernel
theorem dX6_bring_95 : decode cX6_bring 95 = .ok (.iconst 1, 1) := by decide +kernel
theorem dX6_bring_96 : decode cX6_bring 96 = .ok (.iadd, 1) := by decide +kernel
theorem dX6_bring_97 : decode cX6_bring 97 = .ok (.putfield 196, 3) := by decide +kernel
theorem dX6_bring_100 : decode cX6_bring 100 = .ok (.aload_n 0, 1) := by decide +kernel
theorem dX6_bring_101 : decode cX6_bring 101 = .ok (.iload_n 1, 1) := by decide +kernel
theorem dX6_bring_102 : decode cX6_bring 102 = .ok (.iload_n 3, 1) := by decide +kernel
theorem dX6_bring_103 : decode cX6_bring 103 = .ok (.ifCond .eq 17, 3) := by decide +kernel
theorem dX6_bring_106 : decode cX6_bring 106 = .ok (.aload_n 0, 1) := by decide +kernel
theorem dX6_bring_107 : decode cX6_bring 107 = .ok (.getfield 20, 3) := by decide +kernel
theorem dX6_bring_110 : decode cX6_bring 110 = .ok (.iload_n 1, 1) := by decide +kernel
theorem dX6_bring_111 : decode cX6_bring 111 = .ok (.iaload, 1) := by decide +kernel
theorem dX6_bring_112 : decode cX6_bring 112 = .ok (.iload_n 2, 1) := by decide +kernel
theorem dX6_bring_113 : decode cX6_bring 113 = .ok (.if_icmp .eq 7, 3) := by decide +kernel
theorem dX6_bring_116 : decode cX6_bring 116 = .ok (.iconst 1, 1) := by decide +kernel
theorem dX6_bring_117 : decode cX6_bring 117 = .ok (.goto 4, 3) := by decide +kernel
theorem dX6_bring_120 : decode cX6_bring 120 = .ok (.iconst 0, 1) := by decide +kernel
theorem dX6_bring_121 : decode cX6_bring 121 = .ok (.invokevirtual 129, 3) := by decide +kernel
theorem dX6_bring_124 : decode cX6_bring 124 = .ok (.aload_n 0, 1) := by decide +kernel
theorem dX6_bring_125 : decode cX6_bring 125 = .ok (.getfield 20, 3) := by decide +kernel
theorem dX6_bring_128 : decode cX6_bring 128 = .ok (.iload_n 1, 1) := by decide +kernel
theorem dX6_bring_129 : decode cX6_bring 129 = .ok (.iload_n 3, 1) := by decide +kernel
theorem dX6_bring_130 : decode cX6_bring 130 = .ok (.ifCond .eq 7, 3) := by decide +kernel
theorem dX6_bring_133 : decode cX6_bring 133 = .ok (.iload_n 2, 1) := by decide +kernel
theorem dX6_bring_134 : decode cX6_bring 134 = .ok (.goto 9, 3) := by decide +kernel
theorem dX6_bring_137 : decode cX6_bring 137 = .ok (.aload_n 0, 1) := by decide +kernel
theorem dX6_bring_138 : decode cX6_bring 138 = .ok (.getfield 20, 3) := by decide +kernel
theorem dX6_bring_141 : decode cX6_bring 141 = .ok (.iload_n 1, 1) := by decide +kernel
theorem dX6_bring_142 : decode cX6_bring 142 = .ok (.iaload, 1) := by decide +kernel
theorem dX6_bring_143 : decode cX6_bring 143 = .ok (.iastore, 1) := by decide +kernel
theorem dX6_bring_144 : decode cX6_bring 144 = .ok (.iload_n 3, 1) := by decide +kernel
theorem dX6_bring_145 : decode cX6_bring 145 = .ok (.ireturn, 1) := by decide +kernel
theorem dX6_with_0 : decode cX6_with 0 = .ok (.aload_n 0, 1) := by decide +kernel
theorem dX6_with_1 : decode cX6_with 1 = .ok (.aload_n 0, 1) := by decide +kernel
theorem dX6_with_2 : decode cX6_with 2 = .ok (.iload_n 1, 1) := by decide +kernel
theorem dX6_with_3 : decode cX6_with 3 = .ok (.invokevirtual 118, 3) := by decide +kernel
theorem dX6_with_6 : decode cX6_with 6 = .ok (.ifCond .ne 7, 3) := by decide +kernel
theorem dX6_with_9 : decode cX6_with 9 = .ok (.iconst 1, 1) := by decide +kernel
theorem dX6_with_10 : decode cX6_with 10 = .ok (.goto 18, 3) := by decide +kernel
theorem dX6_with_13 : decode cX6_with 13 = .ok (.aload_n 0, 1) := by decide +kernel
theorem dX6_with_14 : decode cX6_with 14 = .ok (.getfield 60, 3) := by decide +kernel
theorem dX6_with_17 : decode cX6_with 17 = .ok (.iload_n 1, 1) := by decide +kernel
theorem dX6_with_18 : decode cX6_with 18 = .ok (.iaload, 1) := by decide +kernel
theorem dX6_with_19 : decode cX6_with 19 = .ok (.iconst (-1), 1) := by decide +kernel
theorem dX6_with_20 : decode cX6_with 20 = .ok (.if_icmp .ne 7, 3) := by decide +kernel
theorem dX6_with_23 : decode cX6_with 23 = .ok (.iconst 2, 1) := by decide +kernel
theorem dX6_with_24 : decode cX6_with 24 = .ok (.goto 4, 3) := by decide +kernel
theorem dX6_with_27 : decode cX6_with 27 = .ok (.iconst 0, 1) := by decide +kernel
theorem dX6_with_28 : decode cX6_with 28 = .ok (.invokevirtual 102, 3) := by decide +kernel
theorem dX6_with_31 : decode cX6_with 31 = .ok (.ifCond .eq 7, 3) := by decide +kernel
theorem dX6_with_34 : decode cX6_with 34 = .ok (.iconst 0, 1) := by decide +kernel
theorem dX6_with_35 : decode cX6_with 35 = .ok (.goto 9, 3) := by decide +kernel
theorem dX6_with_38 : decode cX6_with 38 = .ok (.aload_n 0, 1) := by decide +kernel
theorem dX6_with_39 : decode cX6_with 39 = .ok (.getfield 60, 3) := by decide +kernel
theorem dX6_with_42 : decode cX6_with 42 = .ok (.iload_n 1, 1) := by decide +kernel
theorem dX6_with_43 : decode cX6_with 43 = .ok (.iaload, 1) := by decide +kernel
theorem dX6_with_44 : decode cX6_with 44 = .ok (.ireturn, 1) := by decide +kernel
theorem dX6_conflicts_0 : decode cX6_conflicts 0 = .ok (.aload_n 0, 1) := by decide +kernel
theorem dX6_conflicts_1 : decode cX6_conflicts 1 = .ok (.iconst 0, 1) := by decide +kernel
theorem dX6_conflicts_2 : decode cX6_conflicts 2 = .ok (.putfield 84, 3) := by decide +kernel
theorem dX6_conflicts_5 : decode cX6_conflicts 5 = .ok (.aload_n 0, 1) := by decide +kernel
theorem dX6_conflicts_6 : decode cX6_conflicts 6 = .ok (.getfield 196, 3) := by decide +kernel
theorem dX6_conflicts_9 : decode cX6_conflicts 9 = .ok (.ireturn, 1) := by decide +kernel
theorem dX6_note_0 : decode cX6_note 0 = .ok (.aload_n 0, 1) := by decide +kernel
theorem dX6_note_1 : decode cX6_note 1 = .ok (.aload_n 0, 1) := by decide +kernel
theorem dX6_note_2 : decode cX6_note 2 = .ok (.iload_n 1, 1) := by decide +kernel
theorem dX6_note_3 : decode cX6_note 3 = .ok (.invokevirtual 118, 3) := by decide +kernel
theorem dX6_note_6 : decode cX6_note 6 = .ok (.ifCond .ne 7, 3) := by decide +kernel
theorem dX6_note_9 : decode cX6_note 9 = .ok (.iconst 1, 1) := by decide +kernel
theorem dX6_note_10 : decode cX6_note 10 = .ok (.goto 29, 3) := by decide +kernel
theorem dX6_note_13 : decode cX6_note 13 = .ok (.aload_n 0, 1) := by decide +kernel
theorem dX6_note_14 : decode cX6_note 14 = .ok (.iload_n 1, 1) := by decide +kernel
theorem dX6_note_15 : decode cX6_note 15 = .ok (.invokevirtual 121, 3) := by decide +kernel
theorem dX6_note_18 : decode cX6_note 18 = .ok (.ifCond .ge 7, 3) := by decide +kernel
theorem dX6_note_21 : decode cX6_note 21 = .ok (.iconst 2, 1) := by decide +kernel
theorem dX6_note_22 : decode cX6_note 22 = .ok (.goto 17, 3) := by decide +kernel
theorem dX6_note_25 : decode cX6_note 25 = .ok (.aload_n 0, 1) := by decide +kernel
theorem dX6_note_26 : decode cX6_note 26 = .ok (.getfield 199, 3) := by decide +kernel
theorem dX6_note_29 : decode cX6_note 29 = .ok (.bipush 40, 2) := by decide +kernel
theorem dX6_note_31 : decode cX6_note 31 = .ok (.if_icmp .ne 7, 3) := by decide +kernel
theorem dX6_note_34 : decode cX6_note 34 = .ok (.iconst 3, 1) := by decide +kernel
theorem dX6_note_35 : decode cX6_note 35 = .ok (.goto 4, 3) := by decide +kernel
theorem dX6_note_38 : decode cX6_note 38 = .ok (.iconst 0, 1) := by decide +kernel
theorem dX6_note_39 : decode cX6_note 39 = .ok (.invokevirtual 102, 3) := by decide +kernel
theorem dX6_note_42 : decode cX6_note 42 = .ok (.ifCond .eq 5, 3) := by decide +kernel
theorem dX6_note_45 : decode cX6_note 45 = .ok (.iconst 0, 1) := by decide +kernel
theorem dX6_note_46 : decode cX6_note 46 = .ok (.ireturn, 1) := by decide +kernel
theorem dX6_note_47 : decode cX6_note 47 = .ok (.aload_n 0, 1) := by decide +kernel
theorem dX6_note_48 : decode cX6_note 48 = .ok (.getfield 66, 3) := by decide +kernel
theorem dX6_note_51 : decode cX6_note 51 = .ok (.aload_n 0, 1) := by decide +kernel
theorem dX6_note_52 : decode cX6_note 52 = .ok (.getfield 199, 3) := by decide +kernel
theorem dX6_note_55 : decode cX6_note 55 = .ok (.iload_n 1, 1) := by decide +kernel
theorem dX6_note_56 : decode cX6_note 56 = .ok (.iastore, 1) := by decide +kernel
theorem dX6_note_57 : decode cX6_note 57 = .ok (.aload_n 0, 1) := by decide +kernel
theorem dX6_note_58 : decode cX6_note 58 = .ok (.getfield 69, 3) := by decide +kernel
theorem dX6_note_61 : decode cX6_note 61 = .ok (.aload_n 0, 1) := by decide +kernel
theorem dX6_note_62 : decode cX6_note 62 = .ok (.getfield 199, 3) := by decide +kernel
theorem dX6_note_65 : decode cX6_note 65 = .ok (.aload_n 0, 1) := by decide +kernel
theorem dX6_note_66 : decode cX6_note 66 = .ok (.getfield 23, 3) := by decide +kernel
theorem dX6_note_69 : decode cX6_note 69 = .ok (.iload_n 1, 1) := by decide +kernel
theorem dX6_note_70 : decode cX6_note 70 = .ok (.iaload, 1) := by decide +kernel
theorem dX6_note_71 : decode cX6_note 71 = .ok (.iastore, 1) := by decide +kernel
theorem dX6_note_72 : decode cX6_note 72 = .ok (.aload_n 0, 1) := by decide +kernel
theorem dX6_note_73 : decode cX6_note 73 = .ok (.getfield 72, 3) := by decide +kernel
theorem dX6_note_76 : decode cX6_note 76 = .ok (.aload_n 0, 1) := by decide +kernel
theorem dX6_note_77 : decode cX6_note 77 = .ok (.getfield 199, 3) := by decide +kernel
theorem dX6_note_80 : decode cX6_note 80 = .ok (.bipush 111, 2) := by decide +kernel
theorem dX6_note_82 : decode cX6_note 82 = .ok (.castore, 1) := by decide +kernel
theorem dX6_note_83 : decode cX6_note 83 = .ok (.aload_n 0, 1) := by decide +kernel
theorem dX6_note_84 : decode cX6_note 84 = .ok (.dup, 1) := by decide +kernel
theorem dX6_note_85 : decode cX6_note 85 = .ok (.getfield 199, 3) := by decide +kernel
theorem dX6_note_88 : decode cX6_note 88 = .ok (.iconst 1, 1) := by decide +kernel
theorem dX6_note_89 : decode cX6_note 89 = .ok (.iadd, 1) := by decide +kernel
theorem dX6_note_90 : decode cX6_note 90 = .ok (.putfield 199, 3) := by decide +kernel
theorem dX6_note_93 : decode cX6_note 93 = .ok (.aload_n 0, 1) := by decide +kernel
theorem dX6_note_94 : decode cX6_note 94 = .ok (.getfield 199, 3) := by decide +kernel
theorem dX6_note_97 : decode cX6_note 97 = .ok (.iconst 1, 1) := by decide +kernel
theorem dX6_note_98 : decode cX6_note 98 = .ok (.isub, 1) := by decide +kernel
theorem dX6_note_99 : decode cX6_note 99 = .ok (.ireturn, 1) := by decide +kernel
theorem dX6_isNow_0 : decode cX6_isNow 0 = .ok (.aload_n 0, 1) := by decide +kernel
theorem dX6_isNow_1 : decode cX6_isNow 1 = .ok (.getfield 72, 3) := by decide +kernel
theorem dX6_isNow_4 : decode cX6_isNow 4 = .ok (.iload_n 1, 1) := by decide +kernel
theorem dX6_isNow_5 : decode cX6_isNow 5 = .ok (.caload, 1) := by decide +kernel
theorem dX6_isNow_6 : decode cX6_isNow 6 = .ok (.bipush 111, 2) := by decide +kernel
theorem dX6_isNow_8 : decode cX6_isNow 8 = .ok (.if_icmp .ne 28, 3) := by decide +kernel
theorem dX6_isNow_11 : decode cX6_isNow 11 = .ok (.aload_n 0, 1) := by decide +kernel
theorem dX6_isNow_12 : decode cX6_isNow 12 = .ok (.getfield 69, 3) := by decide +kernel
theorem dX6_isNow_15 : decode cX6_isNow 15 = .ok (.iload_n 1, 1) := by decide +kernel
theorem dX6_isNow_16 : decode cX6_isNow 16 = .ok (.iaload, 1) := by decide +kernel
theorem dX6_isNow_17 : decode cX6_isNow 17 = .ok (.aload_n 0, 1) := by decide +kernel
theorem dX6_isNow_18 : decode cX6_isNow 18 = .ok (.getfield 23, 3) := by decide +kernel
theorem dX6_isNow_21 : decode cX6_isNow 21 = .ok (.aload_n 0, 1) := by decide +kernel
theorem dX6_isNow_22 : decode cX6_isNow 22 = .ok (.getfield 66, 3) := by decide +kernel
theorem dX6_isNow_25 : decode cX6_isNow 25 = .ok (.iload_n 1, 1) := by decide +kernel
theorem dX6_isNow_26 : decode cX6_isNow 26 = .ok (.iaload, 1) := by decide +kernel
theorem dX6_isNow_27 : decode cX6_isNow 27 = .ok (.iaload, 1) := by decide +kernel
theorem dX6_isNow_28 : decode cX6_isNow 28 = .ok (.if_icmp .eq 8, 3) := by decide +kernel
theorem dX6_isNow_31 : decode cX6_isNow 31 = .ok (.bipush 115, 2) := by decide +kernel
theorem dX6_isNow_33 : decode cX6_isNow 33 = .ok (.goto 9, 3) := by decide +kernel
theorem dX6_isNow_36 : decode cX6_isNow 36 = .ok (.aload_n 0, 1) := by decide +kernel
theorem dX6_isNow_37 : decode cX6_isNow 37 = .ok (.getfield 72, 3) := by decide +kernel
theorem dX6_isNow_40 : decode cX6_isNow 40 = .ok (.iload_n 1, 1) := by decide +kernel
theorem dX6_isNow_41 : decode cX6_isNow 41 = .ok (.caload, 1) := by decide +kernel
theorem dX6_isNow_42 : decode cX6_isNow 42 = .ok (.ireturn, 1) := by decide +kernel
theorem dX6_isNote_0 : decode cX6_isNote 0 = .ok (.iload_n 1, 1) := by decide +kernel
theorem dX6_isNote_1 : decode cX6_isNote 1 = .ok (.iconst 0, 1) := by decide +kernel
theorem dX6_isNote_2 : decode cX6_isNote 2 = .ok (.aload_n 0, 1) := by decide +kernel
theorem dX6_isNote_3 : decode cX6_isNote 3 = .ok (.getfield 199, 3) := by decide +kernel
theorem dX6_isNote_6 : decode cX6_isNote 6 = .ok (.iconst 1, 1) := by decide +kernel
theorem dX6_isNote_7 : decode cX6_isNote 7 = .ok (.isub, 1) := by decide +kernel
theorem dX6_isNote_8 : decode cX6_isNote 8 = .ok (.invokestatic 91, 3) := by decide +kernel
theorem dX6_isNote_11 : decode cX6_isNote 11 = .ok (.ireturn, 1) := by decide +kernel
theorem dX6_noteIs_0 : decode cX6_noteIs 0 = .ok (.aload_n 0, 1) := by decide +kernel
theorem dX6_noteIs_1 : decode cX6_noteIs 1 = .ok (.aload_n 0, 1) := by decide +kernel
theorem dX6_noteIs_2 : decode cX6_noteIs 2 = .ok (.iload_n 1, 1) := by decide +kernel
theorem dX6_noteIs_3 : decode cX6_noteIs 3 = .ok (.invokevirtual 202, 3) := by decide +kernel
theorem dX6_noteIs_6 : decode cX6_noteIs 6 = .ok (.ifCond .eq 7, 3) := by decide +kernel
theorem dX6_noteIs_9 : decode cX6_noteIs 9 = .ok (.iconst 0, 1) := by decide +kernel
theorem dX6_noteIs_10 : decode cX6_noteIs 10 = .ok (.goto 4, 3) := by decide +kernel
theorem dX6_noteIs_13 : decode cX6_noteIs 13 = .ok (.iconst 1, 1) := by decide +kernel
theorem dX6_noteIs_14 : decode cX6_noteIs 14 = .ok (.invokevirtual 102, 3) := by decide +kernel
theorem dX6_noteIs_17 : decode cX6_noteIs 17 = .ok (.ifCond .eq 8, 3) := by decide +kernel
theorem dX6_noteIs_20 : decode cX6_noteIs 20 = .ok (.bipush 32, 2) := by decide +kernel
theorem dX6_noteIs_22 : decode cX6_noteIs 22 = .ok (.goto 8, 3) := by decide +kernel
theorem dX6_noteIs_25 : decode cX6_noteIs 25 = .ok (.aload_n 0, 1) := by decide +kernel
theorem dX6_noteIs_26 : decode cX6_noteIs 26 = .ok (.iload_n 1, 1) := by decide +kernel
theorem dX6_noteIs_27 : decode cX6_noteIs 27 = .ok (.invokevirtual 205, 3) := by decide +kernel
theorem dX6_noteIs_30 : decode cX6_noteIs 30 = .ok (.ireturn, 1) := by decide +kernel
theorem dX6_close_0 : decode cX6_close 0 = .ok (.aload_n 0, 1) := by decide +kernel
theorem dX6_close_1 : decode cX6_close 1 = .ok (.aload_n 0, 1) := by decide +kernel
theorem dX6_close_2 : decode cX6_close 2 = .ok (.iload_n 1, 1) := by decide +kernel
theorem dX6_close_3 : decode cX6_close 3 = .ok (.invokevirtual 202, 3) := by decide +kernel
theorem dX6_close_6 : decode cX6_close 6 = .ok (.ifCond .ne 7, 3) := by decide +kernel
theorem dX6_close_9 : decode cX6_close 9 = .ok (.iconst 1, 1) := by decide +kernel
theorem dX6_close_10 : decode cX6_close 10 = .ok (.goto 18, 3) := by decide +kernel
theorem dX6_close_13 : decode cX6_close 13 = .ok (.aload_n 0, 1) := by decide +kernel
theorem dX6_close_14 : decode cX6_close 14 = .ok (.iload_n 1, 1) := by decide +kernel
theorem dX6_close_15 : decode cX6_close 15 = .ok (.invokevirtual 205, 3) := by decide +kernel
theorem dX6_close_18 : decode cX6_close 18 = .ok (.bipush 111, 2) := by decide +kernel
theorem dX6_close_20 : decode cX6_close 20 = .ok (.if_icmp .eq 7, 3) := by decide +kernel
theorem dX6_close_23 : decode cX6_close 23 = .ok (.iconst 2, 1) := by decide +kernel
theorem dX6_close_24 : decode cX6_close 24 = .ok (.goto 4, 3) := by decide +kernel
theorem dX6_close_27 : decode cX6_close 27 = .ok (.iconst 0, 1) := by decide +kernel
theorem dX6_close_28 : decode cX6_close 28 = .ok (.invokevirtual 102, 3) := by decide +kernel
theorem dX6_close_31 : decode cX6_close 31 = .ok (.ifCond .eq 5, 3) := by decide +kernel
theorem dX6_close_34 : decode cX6_close 34 = .ok (.iconst 0, 1) := by decide +kernel
theorem dX6_close_35 : decode cX6_close 35 = .ok (.ireturn, 1) := by decide +kernel
theorem dX6_close_36 : decode cX6_close 36 = .ok (.aload_n 0, 1) := by decide +kernel
theorem dX6_close_37 : decode cX6_close 37 = .ok (.getfield 72, 3) := by decide +kernel
theorem dX6_close_40 : decode cX6_close 40 = .ok (.iload_n 1, 1) := by decide +kernel
theorem dX6_close_41 : decode cX6_close 41 = .ok (.iload_n 2, 1) := by decide +kernel
theorem dX6_close_42 : decode cX6_close 42 = .ok (.ifCond .eq 8, 3) := by decide +kernel
theorem dX6_close_45 : decode cX6_close 45 = .ok (.bipush 100, 2) := by decide +kernel
theorem dX6_close_47 : decode cX6_close 47 = .ok (.goto 5, 3) := by decide +kernel
theorem dX6_close_50 : decode cX6_close 50 = .ok (.bipush 114, 2) := by decide +kernel
theorem dX6_close_52 : decode cX6_close 52 = .ok (.castore, 1) := by decide +kernel
theorem dX6_close_53 : decode cX6_close 53 = .ok (.iconst 1, 1) := by decide +kernel
theorem dX6_close_54 : decode cX6_close 54 = .ok (.ireturn, 1) := by decide +kernel
theorem dX6_renew_0 : decode cX6_renew 0 = .ok (.aload_n 0, 1) := by decide +kernel
theorem dX6_renew_1 : decode cX6_renew 1 = .ok (.aload_n 0, 1) := by decide +kernel
theorem dX6_renew_2 : decode cX6_renew 2 = .ok (.iload_n 1, 1) := by decide +kernel
theorem dX6_renew_3 : decode cX6_renew 3 = .ok (.invokevirtual 202, 3) := by decide +kernel
theorem dX6_renew_6 : decode cX6_renew 6 = .ok (.ifCond .ne 7, 3) := by decide +kernel
theorem dX6_renew_9 : decode cX6_renew 9 = .ok (.iconst 1, 1) := by decide +kernel
theorem dX6_renew_10 : decode cX6_renew 10 = .ok (.goto 31, 3) := by decide +kernel
theorem dX6_renew_13 : decode cX6_renew 13 = .ok (.aload_n 0, 1) := by decide +kernel
theorem dX6_renew_14 : decode cX6_renew 14 = .ok (.iload_n 1, 1) := by decide +kernel
theorem dX6_renew_15 : decode cX6_renew 15 = .ok (.invokevirtual 205, 3) := by decide +kernel
theorem dX6_renew_18 : decode cX6_renew 18 = .ok (.bipush 115, 2) := by decide +kernel
theorem dX6_renew_20 : decode cX6_renew 20 = .ok (.if_icmp .ne 16, 3) := by decide +kernel
theorem dX6_renew_23 : decode cX6_renew 23 = .ok (.aload_n 0, 1) := by decide +kernel
theorem dX6_renew_24 : decode cX6_renew 24 = .ok (.aload_n 0, 1) := by decide +kernel
theorem dX6_renew_25 : decode cX6_renew 25 = .ok (.getfield 66, 3) := by decide +kernel
theorem dX6_renew_28 : decode cX6_renew 28 = .ok (.iload_n 1, 1) := by decide +kernel
theorem dX6_renew_29 : decode cX6_renew 29 = .ok (.iaload, 1) := by decide +kernel
theorem dX6_renew_30 : decode cX6_renew 30 = .ok (.invokevirtual 121, 3) := by decide +kernel
theorem dX6_renew_33 : decode cX6_renew 33 = .ok (.ifCond .ge 7, 3) := by decide +kernel
theorem dX6_renew_36 : decode cX6_renew 36 = .ok (.iconst 2, 1) := by decide +kernel
theorem dX6_renew_37 : decode cX6_renew 37 = .ok (.goto 4, 3) := by decide +kernel
theorem dX6_renew_40 : decode cX6_renew 40 = .ok (.iconst 0, 1) := by decide +kernel
theorem dX6_renew_41 : decode cX6_renew 41 = .ok (.invokevirtual 102, 3) := by decide +kernel
theorem dX6_renew_44 : decode cX6_renew 44 = .ok (.ifCond .eq 5, 3) := by decide +kernel
theorem dX6_renew_47 : decode cX6_renew 47 = .ok (.iconst 0, 1) := by decide +kernel
theorem dX6_renew_48 : decode cX6_renew 48 = .ok (.ireturn, 1) := by decide +kernel
theorem dX6_renew_49 : decode cX6_renew 49 = .ok (.aload_n 0, 1) := by decide +kernel
theorem dX6_renew_50 : decode cX6_renew 50 = .ok (.getfield 69, 3) := by decide +kernel
theorem dX6_renew_53 : decode cX6_renew 53 = .ok (.iload_n 1, 1) := by decide +kernel
theorem dX6_renew_54 : decode cX6_renew 54 = .ok (.aload_n 0, 1) := by decide +kernel
theorem dX6_renew_55 : decode cX6_renew 55 = .ok (.getfield 23, 3) := by decide +kernel
theorem dX6_renew_58 : decode cX6_renew 58 = .ok (.aload_n 0, 1) := by decide +kernel
theorem dX6_renew_59 : decode cX6_renew 59 = .ok (.getfield 66, 3) := by decide +kernel
theorem dX6_renew_62 : decode cX6_renew 62 = .ok (.iload_n 1, 1) := by decide +kernel
theorem dX6_renew_63 : decode cX6_renew 63 = .ok (.iaload, 1) := by decide +kernel
theorem dX6_renew_64 : decode cX6_renew 64 = .ok (.iaload, 1) := by decide +kernel
theorem dX6_renew_65 : decode cX6_renew 65 = .ok (.iastore, 1) := by decide +kernel
theorem dX6_renew_66 : decode cX6_renew 66 = .ok (.aload_n 0, 1) := by decide +kernel
theorem dX6_renew_67 : decode cX6_renew 67 = .ok (.getfield 69, 3) := by decide +kernel
theorem dX6_renew_70 : decode cX6_renew 70 = .ok (.iload_n 1, 1) := by decide +kernel
theorem dX6_renew_71 : decode cX6_renew 71 = .ok (.iaload, 1) := by decide +kernel
theorem dX6_renew_72 : decode cX6_renew 72 = .ok (.ireturn, 1) := by decide +kernel
theorem dX6_notes_0 : decode cX6_notes 0 = .ok (.aload_n 0, 1) := by decide +kernel
theorem dX6_notes_1 : decode cX6_notes 1 = .ok (.iload_n 1, 1) := by decide +kernel
theorem dX6_notes_2 : decode cX6_notes 2 = .ok (.bipush 111, 2) := by decide +kernel
theorem dX6_notes_4 : decode cX6_notes 4 = .ok (.if_icmp .eq 21, 3) := by decide +kernel
theorem dX6_notes_7 : decode cX6_notes 7 = .ok (.iload_n 1, 1) := by decide +kernel
theorem dX6_notes_8 : decode cX6_notes 8 = .ok (.bipush 100, 2) := by decide +kernel
theorem dX6_notes_10 : decode cX6_notes 10 = .ok (.if_icmp .eq 15, 3) := by decide +kernel
theorem dX6_notes_13 : decode cX6_notes 13 = .ok (.iload_n 1, 1) := by decide +kernel
theorem dX6_notes_14 : decode cX6_notes 14 = .ok (.bipush 114, 2) := by decide +kernel
theorem dX6_notes_16 : decode cX6_notes 16 = .ok (.if_icmp .eq 9, 3) := by decide +kernel
theorem dX6_notes_19 : decode cX6_notes 19 = .ok (.iload_n 1, 1) := by decide +kernel
theorem dX6_notes_20 : decode cX6_notes 20 = .ok (.bipush 115, 2) := by decide +kernel
theorem dX6_notes_22 : decode cX6_notes 22 = .ok (.if_icmp .ne 7, 3) := by decide +kernel
theorem dX6_notes_25 : decode cX6_notes 25 = .ok (.iconst 0, 1) := by decide +kernel
theorem dX6_notes_26 : decode cX6_notes 26 = .ok (.goto 4, 3) := by decide +kernel
theorem dX6_notes_29 : decode cX6_notes 29 = .ok (.iconst 1, 1) := by decide +kernel
theorem dX6_notes_30 : decode cX6_notes 30 = .ok (.invokevirtual 102, 3) := by decide +kernel
theorem dX6_notes_33 : decode cX6_notes 33 = .ok (.ifCond .eq 5, 3) := by decide +kernel
theorem dX6_notes_36 : decode cX6_notes 36 = .ok (.iconst 0, 1) := by decide +kernel
theorem dX6_notes_37 : decode cX6_notes 37 = .ok (.ireturn, 1) := by decide +kernel
theorem dX6_notes_38 : decode cX6_notes 38 = .ok (.iconst 0, 1) := by decide +kernel
theorem dX6_notes_39 : decode cX6_notes 39 = .ok (.istore_n 2, 1) := by decide +kernel
theorem dX6_notes_40 : decode cX6_notes 40 = .ok (.iconst 0, 1) := by decide +kernel
theorem dX6_notes_41 : decode cX6_notes 41 = .ok (.istore_n 3, 1) := by decide +kernel
theorem dX6_notes_42 : decode cX6_notes 42 = .ok (.iload_n 3, 1) := by decide +kernel
theorem dX6_notes_43 : decode cX6_notes 43 = .ok (.aload_n 0, 1) := by decide +kernel
theorem dX6_notes_44 : decode cX6_notes 44 = .ok (.getfield 199, 3) := by decide +kernel
theorem dX6_notes_47 : decode cX6_notes 47 = .ok (.if_icmp .ge 26, 3) := by decide +kernel
theorem dX6_notes_50 : decode cX6_notes 50 = .ok (.aload_n 0, 1) := by decide +kernel
theorem dX6_notes_51 : decode cX6_notes 51 = .ok (.iload_n 3, 1) := by decide +kernel
theorem dX6_notes_52 : decode cX6_notes 52 = .ok (.invokevirtual 205, 3) := by decide +kernel
theorem dX6_notes_55 : decode cX6_notes 55 = .ok (.iload_n 1, 1) := by decide +kernel
theorem dX6_notes_56 : decode cX6_notes 56 = .ok (.if_icmp .ne 9, 3) := by decide +kernel
theorem dX6_notes_59 : decode cX6_notes 59 = .ok (.iload_n 2, 1) := by decide +kernel
theorem dX6_notes_60 : decode cX6_notes 60 = .ok (.iconst 1, 1) := by decide +kernel
theorem dX6_notes_61 : decode cX6_notes 61 = .ok (.iadd, 1) := by decide +kernel
theorem dX6_notes_62 : decode cX6_notes 62 = .ok (.goto 4, 3) := by decide +kernel
theorem dX6_notes_65 : decode cX6_notes 65 = .ok (.iload_n 2, 1) := by decide +kernel
theorem dX6_notes_66 : decode cX6_notes 66 = .ok (.istore_n 2, 1) := by decide +kernel
theorem dX6_notes_67 : decode cX6_notes 67 = .ok (.iinc 3 1, 3) := by decide +kernel
theorem dX6_notes_70 : decode cX6_notes 70 = .ok (.goto (-28), 3) := by decide +kernel
theorem dX6_notes_73 : decode cX6_notes 73 = .ok (.iload_n 2, 1) := by decide +kernel
theorem dX6_notes_74 : decode cX6_notes 74 = .ok (.ireturn, 1) := by decide +kernel
theorem dX6_dear_0 : decode cX6_dear 0 = .ok (.aload_n 0, 1) := by decide +kernel
theorem dX6_dear_1 : decode cX6_dear 1 = .ok (.aload_n 0, 1) := by decide +kernel
theorem dX6_dear_2 : decode cX6_dear 2 = .ok (.iload_n 1, 1) := by decide +kernel
theorem dX6_dear_3 : decode cX6_dear 3 = .ok (.invokevirtual 118, 3) := by decide +kernel
theorem dX6_dear_6 : decode cX6_dear 6 = .ok (.ifCond .eq 7, 3) := by decide +kernel
theorem dX6_dear_9 : decode cX6_dear 9 = .ok (.iconst 0, 1) := by decide +kernel
theorem dX6_dear_10 : decode cX6_dear 10 = .ok (.goto 4, 3) := by decide +kernel
theorem dX6_dear_13 : decode cX6_dear 13 = .ok (.iconst 1, 1) := by decide +kernel
theorem dX6_dear_14 : decode cX6_dear 14 = .ok (.invokevirtual 102, 3) := by decide +kernel
theorem dX6_dear_17 : decode cX6_dear 17 = .ok (.ifCond .eq 5, 3) := by decide +kernel
theorem dX6_dear_20 : decode cX6_dear 20 = .ok (.iconst 0, 1) := by decide +kernel
theorem dX6_dear_21 : decode cX6_dear 21 = .ok (.ireturn, 1) := by decide +kernel
theorem dX6_dear_22 : decode cX6_dear 22 = .ok (.aload_n 0, 1) := by decide +kernel
theorem dX6_dear_23 : decode cX6_dear 23 = .ok (.getfield 26, 3) := by decide +kernel
theorem dX6_dear_26 : decode cX6_dear 26 = .ok (.iload_n 1, 1) := by decide +kernel
theorem dX6_dear_27 : decode cX6_dear 27 = .ok (.baload, 1) := by decide +kernel
theorem dX6_dear_28 : decode cX6_dear 28 = .ok (.istore_n 3, 1) := by decide +kernel
theorem dX6_dear_29 : decode cX6_dear 29 = .ok (.aload_n 0, 1) := by decide +kernel
theorem dX6_dear_30 : decode cX6_dear 30 = .ok (.getfield 26, 3) := by decide +kernel
theorem dX6_dear_33 : decode cX6_dear 33 = .ok (.iload_n 1, 1) := by decide +kernel
theorem dX6_dear_34 : decode cX6_dear 34 = .ok (.iload_n 2, 1) := by decide +kernel
theorem dX6_dear_35 : decode cX6_dear 35 = .ok (.bastore, 1) := by decide +kernel
theorem dX6_dear_36 : decode cX6_dear 36 = .ok (.iload_n 3, 1) := by decide +kernel
theorem dX6_dear_37 : decode cX6_dear 37 = .ok (.ireturn, 1) := by decide +kernel
theorem dX6_countSetups_0 : decode cX6_countSetups 0 = .ok (.iconst 0, 1) := by decide +kernel
theorem dX6_countSetups_1 : decode cX6_countSetups 1 = .ok (.istore_n 2, 1) := by decide +kernel
theorem dX6_countSetups_2 : decode cX6_countSetups 2 = .ok (.iconst 0, 1) := by decide +kernel
theorem dX6_countSetups_3 : decode cX6_countSetups 3 = .ok (.istore_n 3, 1) := by decide +kernel
theorem dX6_countSetups_4 : decode cX6_countSetups 4 = .ok (.iload_n 3, 1) := by decide +kernel
theorem dX6_countSetups_5 : decode cX6_countSetups 5 = .ok (.aload_n 0, 1) := by decide +kernel
theorem dX6_countSetups_6 : decode cX6_countSetups 6 = .ok (.getfield 95, 3) := by decide +kernel
theorem dX6_countSetups_9 : decode cX6_countSetups 9 = .ok (.if_icmp .ge 169, 3) := by decide +kernel
theorem dX6_countSetups_12 : decode cX6_countSetups 12 = .ok (.iconst 1, 1) := by decide +kernel
theorem dX6_countSetups_13 : decode cX6_countSetups 13 = .ok (.istore 4, 2) := by decide +kernel
theorem dX6_countSetups_15 : decode cX6_countSetups 15 = .ok (.iconst 0, 1) := by decide +kernel
theorem dX6_countSetups_16 : decode cX6_countSetups 16 = .ok (.istore 5, 2) := by decide +kernel
theorem dX6_countSetups_18 : decode cX6_countSetups 18 = .ok (.iconst 0, 1) := by decide +kernel
theorem dX6_countSetups_19 : decode cX6_countSetups 19 = .ok (.istore 6, 2) := by decide +kernel
theorem dX6_countSetups_21 : decode cX6_countSetups 21 = .ok (.iload 6, 2) := by decide +kernel
theorem dX6_countSetups_23 : decode cX6_countSetups 23 = .ok (.aload_n 0, 1) := by decide +kernel
theorem dX6_countSetups_24 : decode cX6_countSetups 24 = .ok (.getfield 95, 3) := by decide +kernel
theorem dX6_countSetups_27 : decode cX6_countSetups 27 = .ok (.if_icmp .ge 123, 3) := by decide +kernel
theorem dX6_countSetups_30 : decode cX6_countSetups 30 = .ok (.aload_n 0, 1) := by decide +kernel
theorem dX6_countSetups_31 : decode cX6_countSetups 31 = .ok (.getfield 13, 3) := by decide +kernel
theorem dX6_countSetups_34 : decode cX6_countSetups 34 = .ok (.aload_n 0, 1) := by decide +kernel
theorem dX6_countSetups_35 : decode cX6_countSetups 35 = .ok (.getfield 7, 3) := by decide +kernel
theorem dX6_countSetups_38 : decode cX6_countSetups 38 = .ok (.iload 6, 2) := by decide +kernel
theorem dX6_countSetups_40 : decode cX6_countSetups 40 = .ok (.iaload, 1) := by decide +kernel
theorem dX6_countSetups_41 : decode cX6_countSetups 41 = .ok (.caload, 1) := by decide +kernel
theorem dX6_countSetups_42 : decode cX6_countSetups 42 = .ok (.aload_n 0, 1) := by decide +kernel
theorem dX6_countSetups_43 : decode cX6_countSetups 43 = .ok (.getfield 13, 3) := by decide +kernel
theorem dX6_countSetups_46 : decode cX6_countSetups 46 = .ok (.aload_n 0, 1) := by decide +kernel
theorem dX6_countSetups_47 : decode cX6_countSetups 47 = .ok (.getfield 7, 3) := by decide +kernel
theorem dX6_countSetups_50 : decode cX6_countSetups 50 = .ok (.iload_n 3, 1) := by decide +kernel
theorem dX6_countSetups_51 : decode cX6_countSetups 51 = .ok (.iaload, 1) := by decide +kernel
theorem dX6_countSetups_52 : decode cX6_countSetups 52 = .ok (.caload, 1) := by decide +kernel
theorem dX6_countSetups_53 : decode cX6_countSetups 53 = .ok (.if_icmp .ne 33, 3) := by decide +kernel
theorem dX6_countSetups_56 : decode cX6_countSetups 56 = .ok (.aload_n 0, 1) := by decide +kernel
theorem dX6_countSetups_57 : decode cX6_countSetups 57 = .ok (.getfield 17, 3) := by decide +kernel
theorem dX6_countSetups_60 : decode cX6_countSetups 60 = .ok (.aload_n 0, 1) := by decide +kernel
theorem dX6_countSetups_61 : decode cX6_countSetups 61 = .ok (.getfield 7, 3) := by decide +kernel
theorem dX6_countSetups_64 : decode cX6_countSetups 64 = .ok (.iload 6, 2) := by decide +kernel
theorem dX6_countSetups_66 : decode cX6_countSetups 66 = .ok (.iaload, 1) := by decide +kernel
theorem dX6_countSetups_67 : decode cX6_countSetups 67 = .ok (.iaload, 1) := by decide +kernel
theorem dX6_countSetups_68 : decode cX6_countSetups 68 = .ok (.aload_n 0, 1) := by decide +kernel
theorem dX6_countSetups_69 : decode cX6_countSetups 69 = .ok (.getfield 17, 3) := by decide +kernel
theorem dX6_countSetups_72 : decode cX6_countSetups 72 = .ok (.aload_n 0, 1) := by decide +kernel
theorem dX6_countSetups_73 : decode cX6_countSetups 73 = .ok (.getfield 7, 3) := by decide +kernel
theorem dX6_countSetups_76 : decode cX6_countSetups 76 = .ok (.iload_n 3, 1) := by decide +kernel
theorem dX6_countSetups_77 : decode cX6_countSetups 77 = .ok (.iaload, 1) := by decide +kernel
theorem dX6_countSetups_78 : decode cX6_countSetups 78 = .ok (.iaload, 1) := by decide +kernel
theorem dX6_countSetups_79 : decode cX6_countSetups 79 = .ok (.if_icmp .ne 7, 3) := by decide +kernel
theorem dX6_countSetups_82 : decode cX6_countSetups 82 = .ok (.iconst 1, 1) := by decide +kernel
theorem dX6_countSetups_83 : decode cX6_countSetups 83 = .ok (.goto 4, 3) := by decide +kernel
theorem dX6_countSetups_86 : decode cX6_countSetups 86 = .ok (.iconst 0, 1) := by decide +kernel
theorem dX6_countSetups_87 : decode cX6_countSetups 87 = .ok (.istore 7, 2) := by decide +kernel
theorem dX6_countSetups_89 : decode cX6_countSetups 89 = .ok (.iload 4, 2) := by decide +kernel
theorem dX6_countSetups_91 : decode cX6_countSetups 91 = .ok (.ifCond .eq 18, 3) := by decide +kernel
theorem dX6_countSetups_94 : decode cX6_countSetups 94 = .ok (.iload 7, 2) := by decide +kernel
theorem dX6_countSetups_96 : decode cX6_countSetups 96 = .ok (.ifCond .eq 9, 3) := by decide +kernel
theorem dX6_countSetups_99 : decode cX6_countSetups 99 = .ok (.iload 6, 2) := by decide +kernel
theorem dX6_countSetups_101 : decode cX6_countSetups 101 = .ok (.iload_n 3, 1) := by decide +kernel
theorem dX6_countSetups_102 : decode cX6_countSetups 102 = .ok (.if_icmp .lt 7, 3) := by decide +kernel
theorem dX6_countSetups_105 : decode cX6_countSetups 105 = .ok (.iconst 1, 1) := by decide +kernel
theorem dX6_countSetups_106 : decode cX6_countSetups 106 = .ok (.goto 4, 3) := by decide +kernel
theorem dX6_countSetups_109 : decode cX6_countSetups 109 = .ok (.iconst 0, 1) := by decide +kernel
theorem dX6_countSetups_110 : decode cX6_countSetups 110 = .ok (.istore 4, 2) := by decide +kernel
theorem dX6_countSetups_112 : decode cX6_countSetups 112 = .ok (.iload 5, 2) := by decide +kernel
theorem dX6_countSetups_114 : decode cX6_countSetups 114 = .ok (.ifCond .ne 23, 3) := by decide +kernel
theorem dX6_countSetups_117 : decode cX6_countSetups 117 = .ok (.iload 7, 2) := by decide +kernel
theorem dX6_countSetups_119 : decode cX6_countSetups 119 = .ok (.ifCond .eq 22, 3) := by decide +kernel
theorem dX6_countSetups_122 : decode cX6_countSetups 122 = .ok (.aload_n 0, 1) := by decide +kernel
theorem dX6_countSetups_123 : decode cX6_countSetups 123 = .ok (.getfield 26, 3) := by decide +kernel
theorem dX6_countSetups_126 : decode cX6_countSetups 126 = .ok (.aload_n 0, 1) := by decide +kernel
theorem dX6_countSetups_127 : decode cX6_countSetups 127 = .ok (.getfield 7, 3) := by decide +kernel
theorem dX6_countSetups_130 : decode cX6_countSetups 130 = .ok (.iload 6, 2) := by decide +kernel
theorem dX6_countSetups_132 : decode cX6_countSetups 132 = .ok (.iaload, 1) := by decide +kernel
theorem dX6_countSetups_133 : decode cX6_countSetups 133 = .ok (.baload, 1) := by decide +kernel
theorem dX6_countSetups_134 : decode cX6_countSetups 134 = .ok (.ifCond .eq 7, 3) := by decide +kernel
theorem dX6_countSetups_137 : decode cX6_countSetups 137 = .ok (.iconst 1, 1) := by decide +kernel
theorem dX6_countSetups_138 : decode cX6_countSetups 138 = .ok (.goto 4, 3) := by decide +kernel
theorem dX6_countSetups_141 : decode cX6_countSetups 141 = .ok (.iconst 0, 1) := by decide +kernel
theorem dX6_countSetups_142 : decode cX6_countSetups 142 = .ok (.istore 5, 2) := by decide +kernel
theorem dX6_countSetups_144 : decode cX6_countSetups 144 = .ok (.iinc 6 1, 3) := by decide +kernel
theorem dX6_countSetups_147 : decode cX6_countSetups 147 = .ok (.goto (-126), 3) := by decide +kernel
theorem dX6_countSetups_150 : decode cX6_countSetups 150 = .ok (.iload 4, 2) := by decide +kernel
theorem dX6_countSetups_152 : decode cX6_countSetups 152 = .ok (.ifCond .eq 18, 3) := by decide +kernel
theorem dX6_countSetups_155 : decode cX6_countSetups 155 = .ok (.iload 5, 2) := by decide +kernel
theorem dX6_countSetups_157 : decode cX6_countSetups 157 = .ok (.ifCond .ne 7, 3) := by decide +kernel
theorem dX6_countSetups_160 : decode cX6_countSetups 160 = .ok (.iload_n 1, 1) := by decide +kernel
theorem dX6_countSetups_161 : decode cX6_countSetups 161 = .ok (.ifCond .ne 9, 3) := by decide +kernel
theorem dX6_countSetups_164 : decode cX6_countSetups 164 = .ok (.iload_n 2, 1) := by decide +kernel
theorem dX6_countSetups_165 : decode cX6_countSetups 165 = .ok (.iconst 1, 1) := by decide +kernel
theorem dX6_countSetups_166 : decode cX6_countSetups 166 = .ok (.iadd, 1) := by decide +kernel
theorem dX6_countSetups_167 : decode cX6_countSetups 167 = .ok (.goto 4, 3) := by decide +kernel
theorem dX6_countSetups_170 : decode cX6_countSetups 170 = .ok (.iload_n 2, 1) := by decide +kernel
theorem dX6_countSetups_171 : decode cX6_countSetups 171 = .ok (.istore_n 2, 1) := by decide +kernel
theorem dX6_countSetups_172 : decode cX6_countSetups 172 = .ok (.iinc 3 1, 3) := by decide +kernel
theorem dX6_countSetups_175 : decode cX6_countSetups 175 = .ok (.goto (-171), 3) := by decide +kernel
theorem dX6_countSetups_178 : decode cX6_countSetups 178 = .ok (.iload_n 2, 1) := by decide +kernel
theorem dX6_countSetups_179 : decode cX6_countSetups 179 = .ok (.ireturn, 1) := by decide +kernel
theorem dX6_setups_0 : decode cX6_setups 0 = .ok (.aload_n 0, 1) := by decide +kernel
theorem dX6_setups_1 : decode cX6_setups 1 = .ok (.iconst 0, 1) := by decide +kernel
theorem dX6_setups_2 : decode cX6_setups 2 = .ok (.putfield 84, 3) := by decide +kernel
theorem dX6_setups_5 : decode cX6_setups 5 = .ok (.aload_n 0, 1) := by decide +kernel
theorem dX6_setups_6 : decode cX6_setups 6 = .ok (.iconst 0, 1) := by decide +kernel
theorem dX6_setups_7 : decode cX6_setups 7 = .ok (.invokevirtual 208, 3) := by decide +kernel
theorem dX6_setups_10 : decode cX6_setups 10 = .ok (.ireturn, 1) := by decide +kernel
theorem dX6_first_0 : decode cX6_first 0 = .ok (.aload_n 0, 1) := by decide +kernel
theorem dX6_first_1 : decode cX6_first 1 = .ok (.iconst 0, 1) := by decide +kernel
theorem dX6_first_2 : decode cX6_first 2 = .ok (.putfield 84, 3) := by decide +kernel
theorem dX6_first_5 : decode cX6_first 5 = .ok (.aload_n 0, 1) := by decide +kernel
theorem dX6_first_6 : decode cX6_first 6 = .ok (.iconst 1, 1) := by decide +kernel
theorem dX6_first_7 : decode cX6_first 7 = .ok (.invokevirtual 208, 3) := by decide +kernel
theorem dX6_first_10 : decode cX6_first 10 = .ok (.ireturn, 1) := by decide +kernel
theorem dX6_days_0 : decode cX6_days 0 = .ok (.aload_n 0, 1) := by decide +kernel
theorem dX6_days_1 : decode cX6_days 1 = .ok (.iconst 0, 1) := by decide +kernel
theorem dX6_days_2 : decode cX6_days 2 = .ok (.putfield 84, 3) := by decide +kernel
theorem dX6_days_5 : decode cX6_days 5 = .ok (.aload_n 0, 1) := by decide +kernel
theorem dX6_days_6 : decode cX6_days 6 = .ok (.getfield 95, 3) := by decide +kernel
theorem dX6_days_9 : decode cX6_days 9 = .ok (.bipush 19, 2) := by decide +kernel
theorem dX6_days_11 : decode cX6_days 11 = .ok (.iadd, 1) := by decide +kernel
theorem dX6_days_12 : decode cX6_days 12 = .ok (.bipush 20, 2) := by decide +kernel
theorem dX6_days_14 : decode cX6_days 14 = .ok (.idiv, 1) := by decide +kernel
theorem dX6_days_15 : decode cX6_days 15 = .ok (.istore_n 1, 1) := by decide +kernel
theorem dX6_days_16 : decode cX6_days 16 = .ok (.aload_n 0, 1) := by decide +kernel
theorem dX6_days_17 : decode cX6_days 17 = .ok (.iconst 0, 1) := by decide +kernel
theorem dX6_days_18 : decode cX6_days 18 = .ok (.invokevirtual 208, 3) := by decide +kernel
theorem dX6_days_21 : decode cX6_days 21 = .ok (.iconst 3, 1) := by decide +kernel
theorem dX6_days_22 : decode cX6_days 22 = .ok (.iadd, 1) := by decide +kernel
theorem dX6_days_23 : decode cX6_days 23 = .ok (.iconst 4, 1) := by decide +kernel
theorem dX6_days_24 : decode cX6_days 24 = .ok (.idiv, 1) := by decide +kernel
theorem dX6_days_25 : decode cX6_days 25 = .ok (.istore_n 2, 1) := by decide +kernel
theorem dX6_days_26 : decode cX6_days 26 = .ok (.iload_n 2, 1) := by decide +kernel
theorem dX6_days_27 : decode cX6_days 27 = .ok (.iload_n 1, 1) := by decide +kernel
theorem dX6_days_28 : decode cX6_days 28 = .ok (.if_icmp .le 7, 3) := by decide +kernel
theorem dX6_days_31 : decode cX6_days 31 = .ok (.iload_n 2, 1) := by decide +kernel
theorem dX6_days_32 : decode cX6_days 32 = .ok (.goto 4, 3) := by decide +kernel
theorem dX6_days_35 : decode cX6_days 35 = .ok (.iload_n 1, 1) := by decide +kernel
theorem dX6_days_36 : decode cX6_days 36 = .ok (.ireturn, 1) := by decide +kernel
theorem dX6_countWrong_0 : decode cX6_countWrong 0 = .ok (.iconst 0, 1) := by decide +kernel
theorem dX6_countWrong_1 : decode cX6_countWrong 1 = .ok (.istore_n 1, 1) := by decide +kernel
theorem dX6_countWrong_2 : decode cX6_countWrong 2 = .ok (.iconst 1, 1) := by decide +kernel
theorem dX6_countWrong_3 : decode cX6_countWrong 3 = .ok (.istore_n 2, 1) := by decide +kernel
theorem dX6_countWrong_4 : decode cX6_countWrong 4 = .ok (.iload_n 2, 1) := by decide +kernel
theorem dX6_countWrong_5 : decode cX6_countWrong 5 = .ok (.aload_n 0, 1) := by decide +kernel
theorem dX6_countWrong_6 : decode cX6_countWrong 6 = .ok (.getfield 95, 3) := by decide +kernel
theorem dX6_countWrong_9 : decode cX6_countWrong 9 = .ok (.if_icmp .ge 50, 3) := by decide +kernel
theorem dX6_countWrong_12 : decode cX6_countWrong 12 = .ok (.aload_n 0, 1) := by decide +kernel
theorem dX6_countWrong_13 : decode cX6_countWrong 13 = .ok (.aload_n 0, 1) := by decide +kernel
theorem dX6_countWrong_14 : decode cX6_countWrong 14 = .ok (.getfield 7, 3) := by decide +kernel
theorem dX6_countWrong_17 : decode cX6_countWrong 17 = .ok (.aload_n 0, 1) := by decide +kernel
theorem dX6_countWrong_18 : decode cX6_countWrong 18 = .ok (.getfield 75, 3) := by decide +kernel
theorem dX6_countWrong_21 : decode cX6_countWrong 21 = .ok (.iload_n 2, 1) := by decide +kernel
theorem dX6_countWrong_22 : decode cX6_countWrong 22 = .ok (.iconst 1, 1) := by decide +kernel
theorem dX6_countWrong_23 : decode cX6_countWrong 23 = .ok (.isub, 1) := by decide +kernel
theorem dX6_countWrong_24 : decode cX6_countWrong 24 = .ok (.iaload, 1) := by decide +kernel
theorem dX6_countWrong_25 : decode cX6_countWrong 25 = .ok (.iaload, 1) := by decide +kernel
theorem dX6_countWrong_26 : decode cX6_countWrong 26 = .ok (.aload_n 0, 1) := by decide +kernel
theorem dX6_countWrong_27 : decode cX6_countWrong 27 = .ok (.getfield 7, 3) := by decide +kernel
theorem dX6_countWrong_30 : decode cX6_countWrong 30 = .ok (.aload_n 0, 1) := by decide +kernel
theorem dX6_countWrong_31 : decode cX6_countWrong 31 = .ok (.getfield 75, 3) := by decide +kernel
theorem dX6_countWrong_34 : decode cX6_countWrong 34 = .ok (.iload_n 2, 1) := by decide +kernel
theorem dX6_countWrong_35 : decode cX6_countWrong 35 = .ok (.iaload, 1) := by decide +kernel
theorem dX6_countWrong_36 : decode cX6_countWrong 36 = .ok (.iaload, 1) := by decide +kernel
theorem dX6_countWrong_37 : decode cX6_countWrong 37 = .ok (.invokevirtual 179, 3) := by decide +kernel
theorem dX6_countWrong_40 : decode cX6_countWrong 40 = .ok (.bipush 45, 2) := by decide +kernel
theorem dX6_countWrong_42 : decode cX6_countWrong 42 = .ok (.if_icmp .eq 9, 3) := by decide +kernel
theorem dX6_countWrong_45 : decode cX6_countWrong 45 = .ok (.iload_n 1, 1) := by decide +kernel
theorem dX6_countWrong_46 : decode cX6_countWrong 46 = .ok (.iconst 1, 1) := by decide +kernel
theorem dX6_countWrong_47 : decode cX6_countWrong 47 = .ok (.iadd, 1) := by decide +kernel
theorem dX6_countWrong_48 : decode cX6_countWrong 48 = .ok (.goto 4, 3) := by decide +kernel
theorem dX6_countWrong_51 : decode cX6_countWrong 51 = .ok (.iload_n 1, 1) := by decide +kernel
theorem dX6_countWrong_52 : decode cX6_countWrong 52 = .ok (.istore_n 1, 1) := by decide +kernel
theorem dX6_countWrong_53 : decode cX6_countWrong 53 = .ok (.iinc 2 1, 3) := by decide +kernel
theorem dX6_countWrong_56 : decode cX6_countWrong 56 = .ok (.goto (-52), 3) := by decide +kernel
theorem dX6_countWrong_59 : decode cX6_countWrong 59 = .ok (.iload_n 1, 1) := by decide +kernel
theorem dX6_countWrong_60 : decode cX6_countWrong 60 = .ok (.ireturn, 1) := by decide +kernel
theorem dX6_goThrough_0 : decode cX6_goThrough 0 = .ok (.iconst 0, 1) := by decide +kernel
theorem dX6_goThrough_1 : decode cX6_goThrough 1 = .ok (.istore_n 2, 1) := by decide +kernel
theorem dX6_goThrough_2 : decode cX6_goThrough 2 = .ok (.aload_n 0, 1) := by decide +kernel
theorem dX6_goThrough_3 : decode cX6_goThrough 3 = .ok (.getfield 95, 3) := by decide +kernel
theorem dX6_goThrough_6 : decode cX6_goThrough 6 = .ok (.istore_n 3, 1) := by decide +kernel
theorem dX6_goThrough_7 : decode cX6_goThrough 7 = .ok (.iconst 0, 1) := by decide +kernel
theorem dX6_goThrough_8 : decode cX6_goThrough 8 = .ok (.istore 4, 2) := by decide +kernel
theorem dX6_goThrough_10 : decode cX6_goThrough 10 = .ok (.aload_n 0, 1) := by decide +kernel
theorem dX6_goThrough_11 : decode cX6_goThrough 11 = .ok (.getfield 78, 3) := by decide +kernel
theorem dX6_goThrough_14 : decode cX6_goThrough 14 = .ok (.iconst 0, 1) := by decide +kernel
theorem dX6_goThrough_15 : decode cX6_goThrough 15 = .ok (.iconst 0, 1) := by decide +kernel
theorem dX6_goThrough_16 : decode cX6_goThrough 16 = .ok (.iastore, 1) := by decide +kernel
theorem dX6_goThrough_17 : decode cX6_goThrough 17 = .ok (.iload 4, 2) := by decide +kernel
theorem dX6_goThrough_19 : decode cX6_goThrough 19 = .ok (.ifCond .lt 148, 3) := by decide +kernel
theorem dX6_goThrough_22 : decode cX6_goThrough 22 = .ok (.aload_n 0, 1) := by decide +kernel
theorem dX6_goThrough_23 : decode cX6_goThrough 23 = .ok (.getfield 78, 3) := by decide +kernel
theorem dX6_goThrough_26 : decode cX6_goThrough 26 = .ok (.iload 4, 2) := by decide +kernel
theorem dX6_goThrough_28 : decode cX6_goThrough 28 = .ok (.iaload, 1) := by decide +kernel
theorem dX6_goThrough_29 : decode cX6_goThrough 29 = .ok (.aload_n 0, 1) := by decide +kernel
theorem dX6_goThrough_30 : decode cX6_goThrough 30 = .ok (.getfield 95, 3) := by decide +kernel
theorem dX6_goThrough_33 : decode cX6_goThrough 33 = .ok (.if_icmp .ne 27, 3) := by decide +kernel
theorem dX6_goThrough_36 : decode cX6_goThrough 36 = .ok (.iinc 4 (-1), 3) := by decide +kernel
theorem dX6_goThrough_39 : decode cX6_goThrough 39 = .ok (.iload 4, 2) := by decide +kernel
theorem dX6_goThrough_41 : decode cX6_goThrough 41 = .ok (.ifCond .lt (-24), 3) := by decide +kernel
theorem dX6_goThrough_44 : decode cX6_goThrough 44 = .ok (.aload_n 0, 1) := by decide +kernel
theorem dX6_goThrough_45 : decode cX6_goThrough 45 = .ok (.getfield 81, 3) := by decide +kernel
theorem dX6_goThrough_48 : decode cX6_goThrough 48 = .ok (.aload_n 0, 1) := by decide +kernel
theorem dX6_goThrough_49 : decode cX6_goThrough 49 = .ok (.getfield 75, 3) := by decide +kernel
theorem dX6_goThrough_52 : decode cX6_goThrough 52 = .ok (.iload 4, 2) := by decide +kernel
theorem dX6_goThrough_54 : decode cX6_goThrough 54 = .ok (.iaload, 1) := by decide +kernel
theorem dX6_goThrough_55 : decode cX6_goThrough 55 = .ok (.iconst 0, 1) := by decide +kernel
theorem dX6_goThrough_56 : decode cX6_goThrough 56 = .ok (.bastore, 1) := by decide +kernel
theorem dX6_goThrough_57 : decode cX6_goThrough 57 = .ok (.goto (-40), 3) := by decide +kernel
theorem dX6_goThrough_60 : decode cX6_goThrough 60 = .ok (.aload_n 0, 1) := by decide +kernel
theorem dX6_goThrough_61 : decode cX6_goThrough 61 = .ok (.getfield 78, 3) := by decide +kernel
theorem dX6_goThrough_64 : decode cX6_goThrough 64 = .ok (.iload 4, 2) := by decide +kernel
theorem dX6_goThrough_66 : decode cX6_goThrough 66 = .ok (.iaload, 1) := by decide +kernel
theorem dX6_goThrough_67 : decode cX6_goThrough 67 = .ok (.istore 5, 2) := by decide +kernel
theorem dX6_goThrough_69 : decode cX6_goThrough 69 = .ok (.aload_n 0, 1) := by decide +kernel
theorem dX6_goThrough_70 : decode cX6_goThrough 70 = .ok (.getfield 78, 3) := by decide +kernel
theorem dX6_goThrough_73 : decode cX6_goThrough 73 = .ok (.iload 4, 2) := by decide +kernel
theorem dX6_goThrough_75 : decode cX6_goThrough 75 = .ok (.iload 5, 2) := by decide +kernel
theorem dX6_goThrough_77 : decode cX6_goThrough 77 = .ok (.iconst 1, 1) := by decide +kernel
theorem dX6_goThrough_78 : decode cX6_goThrough 78 = .ok (.iadd, 1) := by decide +kernel
theorem dX6_goThrough_79 : decode cX6_goThrough 79 = .ok (.iastore, 1) := by decide +kernel
theorem dX6_goThrough_80 : decode cX6_goThrough 80 = .ok (.aload_n 0, 1) := by decide +kernel
theorem dX6_goThrough_81 : decode cX6_goThrough 81 = .ok (.getfield 81, 3) := by decide +kernel
theorem dX6_goThrough_84 : decode cX6_goThrough 84 = .ok (.iload 5, 2) := by decide +kernel
theorem dX6_goThrough_86 : decode cX6_goThrough 86 = .ok (.baload, 1) := by decide +kernel
theorem dX6_goThrough_87 : decode cX6_goThrough 87 = .ok (.ifCond .ne 77, 3) := by decide +kernel
theorem dX6_goThrough_90 : decode cX6_goThrough 90 = .ok (.aload_n 0, 1) := by decide +kernel
theorem dX6_goThrough_91 : decode cX6_goThrough 91 = .ok (.getfield 75, 3) := by decide +kernel
theorem dX6_goThrough_94 : decode cX6_goThrough 94 = .ok (.iload 4, 2) := by decide +kernel
theorem dX6_goThrough_96 : decode cX6_goThrough 96 = .ok (.iload 5, 2) := by decide +kernel
theorem dX6_goThrough_98 : decode cX6_goThrough 98 = .ok (.iastore, 1) := by decide +kernel
theorem dX6_goThrough_99 : decode cX6_goThrough 99 = .ok (.iload 4, 2) := by decide +kernel
theorem dX6_goThrough_101 : decode cX6_goThrough 101 = .ok (.iconst 1, 1) := by decide +kernel
theorem dX6_goThrough_102 : decode cX6_goThrough 102 = .ok (.iadd, 1) := by decide +kernel
theorem dX6_goThrough_103 : decode cX6_goThrough 103 = .ok (.aload_n 0, 1) := by decide +kernel
theorem dX6_goThrough_104 : decode cX6_goThrough 104 = .ok (.getfield 95, 3) := by decide +kernel
theorem dX6_goThrough_107 : decode cX6_goThrough 107 = .ok (.if_icmp .ne 38, 3) := by decide +kernel
theorem dX6_goThrough_110 : decode cX6_goThrough 110 = .ok (.aload_n 0, 1) := by decide +kernel
theorem dX6_goThrough_111 : decode cX6_goThrough 111 = .ok (.invokevirtual 212, 3) := by decide +kernel
theorem dX6_goThrough_114 : decode cX6_goThrough 114 = .ok (.istore 6, 2) := by decide +kernel
theorem dX6_goThrough_116 : decode cX6_goThrough 116 = .ok (.iload 6, 2) := by decide +kernel
theorem dX6_goThrough_118 : decode cX6_goThrough 118 = .ok (.ifCond .ne 9, 3) := by decide +kernel
theorem dX6_goThrough_121 : decode cX6_goThrough 121 = .ok (.iload_n 2, 1) := by decide +kernel
theorem dX6_goThrough_122 : decode cX6_goThrough 122 = .ok (.iconst 1, 1) := by decide +kernel
theorem dX6_goThrough_123 : decode cX6_goThrough 123 = .ok (.iadd, 1) := by decide +kernel
theorem dX6_goThrough_124 : decode cX6_goThrough 124 = .ok (.goto 4, 3) := by decide +kernel
theorem dX6_goThrough_127 : decode cX6_goThrough 127 = .ok (.iload_n 2, 1) := by decide +kernel
theorem dX6_goThrough_128 : decode cX6_goThrough 128 = .ok (.istore_n 2, 1) := by decide +kernel
theorem dX6_goThrough_129 : decode cX6_goThrough 129 = .ok (.iload 6, 2) := by decide +kernel
theorem dX6_goThrough_131 : decode cX6_goThrough 131 = .ok (.iload_n 3, 1) := by decide +kernel
theorem dX6_goThrough_132 : decode cX6_goThrough 132 = .ok (.if_icmp .ge 8, 3) := by decide +kernel
theorem dX6_goThrough_135 : decode cX6_goThrough 135 = .ok (.iload 6, 2) := by decide +kernel
theorem dX6_goThrough_137 : decode cX6_goThrough 137 = .ok (.goto 4, 3) := by decide +kernel
theorem dX6_goThrough_140 : decode cX6_goThrough 140 = .ok (.iload_n 3, 1) := by decide +kernel
theorem dX6_goThrough_141 : decode cX6_goThrough 141 = .ok (.istore_n 3, 1) := by decide +kernel
theorem dX6_goThrough_142 : decode cX6_goThrough 142 = .ok (.goto 22, 3) := by decide +kernel
theorem dX6_goThrough_145 : decode cX6_goThrough 145 = .ok (.aload_n 0, 1) := by decide +kernel
theorem dX6_goThrough_146 : decode cX6_goThrough 146 = .ok (.getfield 81, 3) := by decide +kernel
theorem dX6_goThrough_149 : decode cX6_goThrough 149 = .ok (.iload 5, 2) := by decide +kernel
theorem dX6_goThrough_151 : decode cX6_goThrough 151 = .ok (.iconst 1, 1) := by decide +kernel
theorem dX6_goThrough_152 : decode cX6_goThrough 152 = .ok (.bastore, 1) := by decide +kernel
theorem dX6_goThrough_153 : decode cX6_goThrough 153 = .ok (.iinc 4 1, 3) := by decide +kernel
theorem dX6_goThrough_156 : decode cX6_goThrough 156 = .ok (.aload_n 0, 1) := by decide +kernel
theorem dX6_goThrough_157 : decode cX6_goThrough 157 = .ok (.getfield 78, 3) := by decide +kernel
theorem dX6_goThrough_160 : decode cX6_goThrough 160 = .ok (.iload 4, 2) := by decide +kernel
theorem dX6_goThrough_162 : decode cX6_goThrough 162 = .ok (.iconst 0, 1) := by decide +kernel
theorem dX6_goThrough_163 : decode cX6_goThrough 163 = .ok (.iastore, 1) := by decide +kernel
theorem dX6_goThrough_164 : decode cX6_goThrough 164 = .ok (.goto (-147), 3) := by decide +kernel
theorem dX6_goThrough_167 : decode cX6_goThrough 167 = .ok (.iload_n 1, 1) := by decide +kernel
theorem dX6_goThrough_168 : decode cX6_goThrough 168 = .ok (.ifCond .eq 7, 3) := by decide +kernel
theorem dX6_goThrough_171 : decode cX6_goThrough 171 = .ok (.iload_n 3, 1) := by decide +kernel
theorem dX6_goThrough_172 : decode cX6_goThrough 172 = .ok (.goto 4, 3) := by decide +kernel
theorem dX6_goThrough_175 : decode cX6_goThrough 175 = .ok (.iload_n 2, 1) := by decide +kernel
theorem dX6_goThrough_176 : decode cX6_goThrough 176 = .ok (.ireturn, 1) := by decide +kernel
theorem dX6_orders_0 : decode cX6_orders 0 = .ok (.aload_n 0, 1) := by decide +kernel
theorem dX6_orders_1 : decode cX6_orders 1 = .ok (.aload_n 0, 1) := by decide +kernel
theorem dX6_orders_2 : decode cX6_orders 2 = .ok (.getfield 95, 3) := by decide +kernel
theorem dX6_orders_5 : decode cX6_orders 5 = .ok (.ifCond .eq 12, 3) := by decide +kernel
theorem dX6_orders_8 : decode cX6_orders 8 = .ok (.aload_n 0, 1) := by decide +kernel
theorem dX6_orders_9 : decode cX6_orders 9 = .ok (.getfield 95, 3) := by decide +kernel
theorem dX6_orders_12 : decode cX6_orders 12 = .ok (.bipush 6, 2) := by decide +kernel
theorem dX6_orders_14 : decode cX6_orders 14 = .ok (.if_icmp .le 7, 3) := by decide +kernel
theorem dX6_orders_17 : decode cX6_orders 17 = .ok (.iconst 1, 1) := by decide +kernel
theorem dX6_orders_18 : decode cX6_orders 18 = .ok (.goto 4, 3) := by decide +kernel
theorem dX6_orders_21 : decode cX6_orders 21 = .ok (.iconst 0, 1) := by decide +kernel
theorem dX6_orders_22 : decode cX6_orders 22 = .ok (.invokevirtual 102, 3) := by decide +kernel
theorem dX6_orders_25 : decode cX6_orders 25 = .ok (.ifCond .eq 7, 3) := by decide +kernel
theorem dX6_orders_28 : decode cX6_orders 28 = .ok (.iconst 0, 1) := by decide +kernel
theorem dX6_orders_29 : decode cX6_orders 29 = .ok (.goto 8, 3) := by decide +kernel
theorem dX6_orders_32 : decode cX6_orders 32 = .ok (.aload_n 0, 1) := by decide +kernel
theorem dX6_orders_33 : decode cX6_orders 33 = .ok (.iconst 0, 1) := by decide +kernel
theorem dX6_orders_34 : decode cX6_orders 34 = .ok (.invokevirtual 215, 3) := by decide +kernel
theorem dX6_orders_37 : decode cX6_orders 37 = .ok (.ireturn, 1) := by decide +kernel
theorem dX6_best_0 : decode cX6_best 0 = .ok (.aload_n 0, 1) := by decide +kernel
theorem dX6_best_1 : decode cX6_best 1 = .ok (.aload_n 0, 1) := by decide +kernel
theorem dX6_best_2 : decode cX6_best 2 = .ok (.getfield 95, 3) := by decide +kernel
theorem dX6_best_5 : decode cX6_best 5 = .ok (.ifCond .eq 12, 3) := by decide +kernel
theorem dX6_best_8 : decode cX6_best 8 = .ok (.aload_n 0, 1) := by decide +kernel
theorem dX6_best_9 : decode cX6_best 9 = .ok (.getfield 95, 3) := by decide +kernel
theorem dX6_best_12 : decode cX6_best 12 = .ok (.bipush 6, 2) := by decide +kernel
theorem dX6_best_14 : decode cX6_best 14 = .ok (.if_icmp .le 7, 3) := by decide +kernel
theorem dX6_best_17 : decode cX6_best 17 = .ok (.iconst 1, 1) := by decide +kernel
theorem dX6_best_18 : decode cX6_best 18 = .ok (.goto 4, 3) := by decide +kernel
theorem dX6_best_21 : decode cX6_best 21 = .ok (.iconst 0, 1) := by decide +kernel
theorem dX6_best_22 : decode cX6_best 22 = .ok (.invokevirtual 102, 3) := by decide +kernel
theorem dX6_best_25 : decode cX6_best 25 = .ok (.ifCond .eq 7, 3) := by decide +kernel
theorem dX6_best_28 : decode cX6_best 28 = .ok (.iconst 0, 1) := by decide +kernel
theorem dX6_best_29 : decode cX6_best 29 = .ok (.goto 8, 3) := by decide +kernel
theorem dX6_best_32 : decode cX6_best 32 = .ok (.aload_n 0, 1) := by decide +kernel
theorem dX6_best_33 : decode cX6_best 33 = .ok (.iconst 1, 1) := by decide +kernel
theorem dX6_best_34 : decode cX6_best 34 = .ok (.invokevirtual 215, 3) := by decide +kernel
theorem dX6_best_37 : decode cX6_best 37 = .ok (.ireturn, 1) := by decide +kernel
theorem dX6_checksum_0 : decode cX6_checksum 0 = .ok (.aload_n 0, 1) := by decide +kernel
theorem dX6_checksum_1 : decode cX6_checksum 1 = .ok (.iconst 0, 1) := by decide +kernel
theorem dX6_checksum_2 : decode cX6_checksum 2 = .ok (.putfield 84, 3) := by decide +kernel
theorem dX6_checksum_5 : decode cX6_checksum 5 = .ok (.ldc2_w 218, 3) := by decide +kernel
theorem dX6_checksum_8 : decode cX6_checksum 8 = .ok (.lstore_n 1, 1) := by decide +kernel
theorem dX6_checksum_9 : decode cX6_checksum 9 = .ok (.iconst 0, 1) := by decide +kernel
theorem dX6_checksum_10 : decode cX6_checksum 10 = .ok (.istore_n 3, 1) := by decide +kernel
theorem dX6_checksum_11 : decode cX6_checksum 11 = .ok (.iload_n 3, 1) := by decide +kernel
theorem dX6_checksum_12 : decode cX6_checksum 12 = .ok (.aload_n 0, 1) := by decide +kernel
theorem dX6_checksum_13 : decode cX6_checksum 13 = .ok (.getfield 95, 3) := by decide +kernel
theorem dX6_checksum_16 : decode cX6_checksum 16 = .ok (.if_icmp .ge 57, 3) := by decide +kernel
theorem dX6_checksum_19 : decode cX6_checksum 19 = .ok (.ldc2_w 220, 3) := by decide +kernel
theorem dX6_checksum_22 : decode cX6_checksum 22 = .ok (.ldc2_w 220, 3) := by decide +kernel
theorem dX6_checksum_25 : decode cX6_checksum 25 = .ok (.ldc2_w 220, 3) := by decide +kernel
theorem dX6_checksum_28 : decode cX6_checksum 28 = .ok (.lload_n 1, 1) := by decide +kernel
theorem dX6_checksum_29 : decode cX6_checksum 29 = .ok (.lmul, 1) := by decide +kernel
theorem dX6_checksum_30 : decode cX6_checksum 30 = .ok (.aload_n 0, 1) := by decide +kernel
theorem dX6_checksum_31 : decode cX6_checksum 31 = .ok (.getfield 7, 3) := by decide +kernel
theorem dX6_checksum_34 : decode cX6_checksum 34 = .ok (.iload_n 3, 1) := by decide +kernel
theorem dX6_checksum_35 : decode cX6_checksum 35 = .ok (.iaload, 1) := by decide +kernel
theorem dX6_checksum_36 : decode cX6_checksum 36 = .ok (.i2l, 1) := by decide +kernel
theorem dX6_checksum_37 : decode cX6_checksum 37 = .ok (.ladd, 1) := by decide +kernel
theorem dX6_checksum_38 : decode cX6_checksum 38 = .ok (.lmul, 1) := by decide +kernel
theorem dX6_checksum_39 : decode cX6_checksum 39 = .ok (.aload_n 0, 1) := by decide +kernel
theorem dX6_checksum_40 : decode cX6_checksum 40 = .ok (.getfield 20, 3) := by decide +kernel
theorem dX6_checksum_43 : decode cX6_checksum 43 = .ok (.aload_n 0, 1) := by decide +kernel
theorem dX6_checksum_44 : decode cX6_checksum 44 = .ok (.getfield 7, 3) := by decide +kernel
theorem dX6_checksum_47 : decode cX6_checksum 47 = .ok (.iload_n 3, 1) := by decide +kernel
theorem dX6_checksum_48 : decode cX6_checksum 48 = .ok (.iaload, 1) := by decide +kernel
theorem dX6_checksum_49 : decode cX6_checksum 49 = .ok (.iaload, 1) := by decide +kernel
theorem dX6_checksum_50 : decode cX6_checksum 50 = .ok (.i2l, 1) := by decide +kernel
theorem dX6_checksum_51 : decode cX6_checksum 51 = .ok (.ladd, 1) := by decide +kernel
theorem dX6_checksum_52 : decode cX6_checksum 52 = .ok (.lmul, 1) := by decide +kernel
theorem dX6_checksum_53 : decode cX6_checksum 53 = .ok (.aload_n 0, 1) := by decide +kernel
theorem dX6_checksum_54 : decode cX6_checksum 54 = .ok (.getfield 23, 3) := by decide +kernel
theorem dX6_checksum_57 : decode cX6_checksum 57 = .ok (.aload_n 0, 1) := by decide +kernel
theorem dX6_checksum_58 : decode cX6_checksum 58 = .ok (.getfield 7, 3) := by decide +kernel
theorem dX6_checksum_61 : decode cX6_checksum 61 = .ok (.iload_n 3, 1) := by decide +kernel
theorem dX6_checksum_62 : decode cX6_checksum 62 = .ok (.iaload, 1) := by decide +kernel
theorem dX6_checksum_63 : decode cX6_checksum 63 = .ok (.iaload, 1) := by decide +kernel
theorem dX6_checksum_64 : decode cX6_checksum 64 = .ok (.i2l, 1) := by decide +kernel
theorem dX6_checksum_65 : decode cX6_checksum 65 = .ok (.ladd, 1) := by decide +kernel
theorem dX6_checksum_66 : decode cX6_checksum 66 = .ok (.lstore_n 1, 1) := by decide +kernel
theorem dX6_checksum_67 : decode cX6_checksum 67 = .ok (.iinc 3 1, 3) := by decide +kernel
theorem dX6_checksum_70 : decode cX6_checksum 70 = .ok (.goto (-59), 3) := by decide +kernel
theorem dX6_checksum_73 : decode cX6_checksum 73 = .ok (.iconst 0, 1) := by decide +kernel
theorem dX6_checksum_74 : decode cX6_checksum 74 = .ok (.istore_n 3, 1) := by decide +kernel
theorem dX6_checksum_75 : decode cX6_checksum 75 = .ok (.iload_n 3, 1) := by decide +kernel
theorem dX6_checksum_76 : decode cX6_checksum 76 = .ok (.aload_n 0, 1) := by decide +kernel
theorem dX6_checksum_77 : decode cX6_checksum 77 = .ok (.getfield 199, 3) := by decide +kernel
theorem dX6_checksum_80 : decode cX6_checksum 80 = .ok (.if_icmp .ge 22, 3) := by decide +kernel
theorem dX6_checksum_83 : decode cX6_checksum 83 = .ok (.ldc2_w 220, 3) := by decide +kernel
theorem dX6_checksum_86 : decode cX6_checksum 86 = .ok (.lload_n 1, 1) := by decide +kernel
theorem dX6_checksum_87 : decode cX6_checksum 87 = .ok (.lmul, 1) := by decide +kernel
theorem dX6_checksum_88 : decode cX6_checksum 88 = .ok (.aload_n 0, 1) := by decide +kernel
theorem dX6_checksum_89 : decode cX6_checksum 89 = .ok (.iload_n 3, 1) := by decide +kernel
theorem dX6_checksum_90 : decode cX6_checksum 90 = .ok (.invokevirtual 205, 3) := by decide +kernel
theorem dX6_checksum_93 : decode cX6_checksum 93 = .ok (.i2l, 1) := by decide +kernel
theorem dX6_checksum_94 : decode cX6_checksum 94 = .ok (.ladd, 1) := by decide +kernel
theorem dX6_checksum_95 : decode cX6_checksum 95 = .ok (.lstore_n 1, 1) := by decide +kernel
theorem dX6_checksum_96 : decode cX6_checksum 96 = .ok (.iinc 3 1, 3) := by decide +kernel
theorem dX6_checksum_99 : decode cX6_checksum 99 = .ok (.goto (-24), 3) := by decide +kernel
theorem dX6_checksum_102 : decode cX6_checksum 102 = .ok (.lload_n 1, 1) := by decide +kernel
theorem dX6_checksum_103 : decode cX6_checksum 103 = .ok (.lreturn, 1) := by decide +kernel
theorem dX6_brokenShare_0 : decode cX6_brokenShare 0 = .ok (.aload_n 0, 1) := by decide +kernel
theorem dX6_brokenShare_1 : decode cX6_brokenShare 1 = .ok (.aload_n 0, 1) := by decide +kernel
theorem dX6_brokenShare_2 : decode cX6_brokenShare 2 = .ok (.getfield 95, 3) := by decide +kernel
theorem dX6_brokenShare_5 : decode cX6_brokenShare 5 = .ok (.iconst 2, 1) := by decide +kernel
theorem dX6_brokenShare_6 : decode cX6_brokenShare 6 = .ok (.if_icmp .ge 7, 3) := by decide +kernel
theorem dX6_brokenShare_9 : decode cX6_brokenShare 9 = .ok (.iconst 1, 1) := by decide +kernel
theorem dX6_brokenShare_10 : decode cX6_brokenShare 10 = .ok (.goto 4, 3) := by decide +kernel
theorem dX6_brokenShare_13 : decode cX6_brokenShare 13 = .ok (.iconst 0, 1) := by decide +kernel
theorem dX6_brokenShare_14 : decode cX6_brokenShare 14 = .ok (.invokevirtual 102, 3) := by decide +kernel
theorem dX6_brokenShare_17 : decode cX6_brokenShare 17 = .ok (.ifCond .eq 7, 3) := by decide +kernel
theorem dX6_brokenShare_20 : decode cX6_brokenShare 20 = .ok (.fconst 0, 1) := by decide +kernel
theorem dX6_brokenShare_21 : decode cX6_brokenShare 21 = .ok (.goto 16, 3) := by decide +kernel
theorem dX6_brokenShare_24 : decode cX6_brokenShare 24 = .ok (.aload_n 0, 1) := by decide +kernel
theorem dX6_brokenShare_25 : decode cX6_brokenShare 25 = .ok (.invokevirtual 192, 3) := by decide +kernel
theorem dX6_brokenShare_28 : decode cX6_brokenShare 28 = .ok (.i2f, 1) := by decide +kernel
theorem dX6_brokenShare_29 : decode cX6_brokenShare 29 = .ok (.aload_n 0, 1) := by decide +kernel
theorem dX6_brokenShare_30 : decode cX6_brokenShare 30 = .ok (.getfield 95, 3) := by decide +kernel
theorem dX6_brokenShare_33 : decode cX6_brokenShare 33 = .ok (.iconst 1, 1) := by decide +kernel
theorem dX6_brokenShare_34 : decode cX6_brokenShare 34 = .ok (.isub, 1) := by decide +kernel
theorem dX6_brokenShare_35 : decode cX6_brokenShare 35 = .ok (.i2f, 1) := by decide +kernel
theorem dX6_brokenShare_36 : decode cX6_brokenShare 36 = .ok (.fdiv, 1) := by decide +kernel
theorem dX6_brokenShare_37 : decode cX6_brokenShare 37 = .ok (.freturn, 1) := by decide +kernel
theorem dX6_meanLength_0 : decode cX6_meanLength 0 = .ok (.aload_n 0, 1) := by decide +kernel
theorem dX6_meanLength_1 : decode cX6_meanLength 1 = .ok (.aload_n 0, 1) := by decide +kernel
theorem dX6_meanLength_2 : decode cX6_meanLength 2 = .ok (.getfield 95, 3) := by decide +kernel
theorem dX6_meanLength_5 : decode cX6_meanLength 5 = .ok (.ifCond .ne 7, 3) := by decide +kernel
theorem dX6_meanLength_8 : decode cX6_meanLength 8 = .ok (.iconst 1, 1) := by decide +kernel
theorem dX6_meanLength_9 : decode cX6_meanLength 9 = .ok (.goto 4, 3) := by decide +kernel
theorem dX6_meanLength_12 : decode cX6_meanLength 12 = .ok (.iconst 0, 1) := by decide +kernel
theorem dX6_meanLength_13 : decode cX6_meanLength 13 = .ok (.invokevirtual 102, 3) := by decide +kernel
theorem dX6_meanLength_16 : decode cX6_meanLength 16 = .ok (.ifCond .eq 7, 3) := by decide +kernel
theorem dX6_meanLength_19 : decode cX6_meanLength 19 = .ok (.dconst 0, 1) := by decide +kernel
theorem dX6_meanLength_20 : decode cX6_meanLength 20 = .ok (.goto 18, 3) := by decide +kernel
theorem dX6_meanLength_23 : decode cX6_meanLength 23 = .ok (.aload_n 0, 1) := by decide +kernel
theorem dX6_meanLength_24 : decode cX6_meanLength 24 = .ok (.aload_n 0, 1) := by decide +kernel
theorem dX6_meanLength_25 : decode cX6_meanLength 25 = .ok (.getfield 95, 3) := by decide +kernel
theorem dX6_meanLength_28 : decode cX6_meanLength 28 = .ok (.invokevirtual 147, 3) := by decide +kernel
theorem dX6_meanLength_31 : decode cX6_meanLength 31 = .ok (.i2d, 1) := by decide +kernel
theorem dX6_meanLength_32 : decode cX6_meanLength 32 = .ok (.aload_n 0, 1) := by decide +kernel
theorem dX6_meanLength_33 : decode cX6_meanLength 33 = .ok (.getfield 95, 3) := by decide +kernel
theorem dX6_meanLength_36 : decode cX6_meanLength 36 = .ok (.i2d, 1) := by decide +kernel
theorem dX6_meanLength_37 : decode cX6_meanLength 37 = .ok (.ddiv, 1) := by decide +kernel
theorem dX6_meanLength_38 : decode cX6_meanLength 38 = .ok (.dreturn, 1) := by decide +kernel
theorem dX6_isSound_0 : decode cX6_isSound 0 = .ok (.aload_n 0, 1) := by decide +kernel
theorem dX6_isSound_1 : decode cX6_isSound 1 = .ok (.iconst 0, 1) := by decide +kernel
theorem dX6_isSound_2 : decode cX6_isSound 2 = .ok (.putfield 84, 3) := by decide +kernel
theorem dX6_isSound_5 : decode cX6_isSound 5 = .ok (.iconst 1, 1) := by decide +kernel
theorem dX6_isSound_6 : decode cX6_isSound 6 = .ok (.ireturn, 1) := by decide +kernel
theorem dJ6_bitCount_0f7a4_0 : decode cJ6_bitCount_0f7a4 0 = .ok (.iload_n 0, 1) := by decide +kernel
theorem dJ6_bitCount_0f7a4_1 : decode cJ6_bitCount_0f7a4 1 = .ok (.iload_n 0, 1) := by decide +kernel
theorem dJ6_bitCount_0f7a4_2 : decode cJ6_bitCount_0f7a4 2 = .ok (.iconst 1, 1) := by decide +kernel
theorem dJ6_bitCount_0f7a4_3 : decode cJ6_bitCount_0f7a4 3 = .ok (.iushr, 1) := by decide +kernel
theorem dJ6_bitCount_0f7a4_4 : decode cJ6_bitCount_0f7a4 4 = .ok (.ldc_w 265, 3) := by decide +kernel
theorem dJ6_bitCount_0f7a4_7 : decode cJ6_bitCount_0f7a4 7 = .ok (.iand, 1) := by decide +kernel
theorem dJ6_bitCount_0f7a4_8 : decode cJ6_bitCount_0f7a4 8 = .ok (.isub, 1) := by decide +kernel
theorem dJ6_bitCount_0f7a4_9 : decode cJ6_bitCount_0f7a4 9 = .ok (.istore_n 0, 1) := by decide +kernel
theorem dJ6_bitCount_0f7a4_10 : decode cJ6_bitCount_0f7a4 10 = .ok (.iload_n 0, 1) := by decide +kernel
theorem dJ6_bitCount_0f7a4_11 : decode cJ6_bitCount_0f7a4 11 = .ok (.ldc_w 266, 3) := by decide +kernel
theorem dJ6_bitCount_0f7a4_14 : decode cJ6_bitCount_0f7a4 14 = .ok (.iand, 1) := by decide +kernel
theorem dJ6_bitCount_0f7a4_15 : decode cJ6_bitCount_0f7a4 15 = .ok (.iload_n 0, 1) := by decide +kernel
theorem dJ6_bitCount_0f7a4_16 : decode cJ6_bitCount_0f7a4 16 = .ok (.iconst 2, 1) := by decide +kernel
theorem dJ6_bitCount_0f7a4_17 : decode cJ6_bitCount_0f7a4 17 = .ok (.iushr, 1) := by decide +kernel
theorem dJ6_bitCount_0f7a4_18 : decode cJ6_bitCount_0f7a4 18 = .ok (.ldc_w 266, 3) := by decide +kernel
theorem dJ6_bitCount_0f7a4_21 : decode cJ6_bitCount_0f7a4 21 = .ok (.iand, 1) := by decide +kernel
theorem dJ6_bitCount_0f7a4_22 : decode cJ6_bitCount_0f7a4 22 = .ok (.iadd, 1) := by decide +kernel
theorem dJ6_bitCount_0f7a4_23 : decode cJ6_bitCount_0f7a4 23 = .ok (.istore_n 0, 1) := by decide +kernel
theorem dJ6_bitCount_0f7a4_24 : decode cJ6_bitCount_0f7a4 24 = .ok (.iload_n 0, 1) := by decide +kernel
theorem dJ6_bitCount_0f7a4_25 : decode cJ6_bitCount_0f7a4 25 = .ok (.iload_n 0, 1) := by decide +kernel
theorem dJ6_bitCount_0f7a4_26 : decode cJ6_bitCount_0f7a4 26 = .ok (.iconst 4, 1) := by decide +kernel
theorem dJ6_bitCount_0f7a4_27 : decode cJ6_bitCount_0f7a4 27 = .ok (.iushr, 1) := by decide +kernel
theorem dJ6_bitCount_0f7a4_28 : decode cJ6_bitCount_0f7a4 28 = .ok (.iadd, 1) := by decide +kernel
theorem dJ6_bitCount_0f7a4_29 : decode cJ6_bitCount_0f7a4 29 = .ok (.ldc_w 267, 3) := by decide +kernel
theorem dJ6_bitCount_0f7a4_32 : decode cJ6_bitCount_0f7a4 32 = .ok (.iand, 1) := by decide +kernel
theorem dJ6_bitCount_0f7a4_33 : decode cJ6_bitCount_0f7a4 33 = .ok (.istore_n 0, 1) := by decide +kernel
theorem dJ6_bitCount_0f7a4_34 : decode cJ6_bitCount_0f7a4 34 = .ok (.iload_n 0, 1) := by decide +kernel
theorem dJ6_bitCount_0f7a4_35 : decode cJ6_bitCount_0f7a4 35 = .ok (.iload_n 0, 1) := by decide +kernel
theorem dJ6_bitCount_0f7a4_36 : decode cJ6_bitCount_0f7a4 36 = .ok (.bipush 8, 2) := by decide +kernel
theorem dJ6_bitCount_0f7a4_38 : decode cJ6_bitCount_0f7a4 38 = .ok (.iushr, 1) := by decide +kernel
theorem dJ6_bitCount_0f7a4_39 : decode cJ6_bitCount_0f7a4 39 = .ok (.iadd, 1) := by decide +kernel
theorem dJ6_bitCount_0f7a4_40 : decode cJ6_bitCount_0f7a4 40 = .ok (.istore_n 0, 1) := by decide +kernel
theorem dJ6_bitCount_0f7a4_41 : decode cJ6_bitCount_0f7a4 41 = .ok (.iload_n 0, 1) := by decide +kernel
theorem dJ6_bitCount_0f7a4_42 : decode cJ6_bitCount_0f7a4 42 = .ok (.iload_n 0, 1) := by decide +kernel
theorem dJ6_bitCount_0f7a4_43 : decode cJ6_bitCount_0f7a4 43 = .ok (.bipush 16, 2) := by decide +kernel
theorem dJ6_bitCount_0f7a4_45 : decode cJ6_bitCount_0f7a4 45 = .ok (.iushr, 1) := by decide +kernel
theorem dJ6_bitCount_0f7a4_46 : decode cJ6_bitCount_0f7a4 46 = .ok (.iadd, 1) := by decide +kernel
theorem dJ6_bitCount_0f7a4_47 : decode cJ6_bitCount_0f7a4 47 = .ok (.istore_n 0, 1) := by decide +kernel
theorem dJ6_bitCount_0f7a4_48 : decode cJ6_bitCount_0f7a4 48 = .ok (.iload_n 0, 1) := by decide +kernel
theorem dJ6_bitCount_0f7a4_49 : decode cJ6_bitCount_0f7a4 49 = .ok (.bipush 63, 2) := by decide +kernel
theorem dJ6_bitCount_0f7a4_51 : decode cJ6_bitCount_0f7a4 51 = .ok (.iand, 1) := by decide +kernel
theorem dJ6_bitCount_0f7a4_52 : decode cJ6_bitCount_0f7a4 52 = .ok (.ireturn, 1) := by decide +kernel
theorem dJ9_max_7cf53_0 : decode cJ9_max_7cf53 0 = .ok (.iload_n 0, 1) := by decide +kernel
theorem dJ9_max_7cf53_1 : decode cJ9_max_7cf53 1 = .ok (.iload_n 1, 1) := by decide +kernel
theorem dJ9_max_7cf53_2 : decode cJ9_max_7cf53 2 = .ok (.if_icmp .lt 7, 3) := by decide +kernel
theorem dJ9_max_7cf53_5 : decode cJ9_max_7cf53 5 = .ok (.iload_n 0, 1) := by decide +kernel
theorem dJ9_max_7cf53_6 : decode cJ9_max_7cf53 6 = .ok (.goto 4, 3) := by decide +kernel
theorem dJ9_max_7cf53_9 : decode cJ9_max_7cf53 9 = .ok (.iload_n 1, 1) := by decide +kernel
theorem dJ9_max_7cf53_10 : decode cJ9_max_7cf53 10 = .ok (.ireturn, 1) := by decide +kernel
theorem dJ9_min_7cf53_0 : decode cJ9_min_7cf53 0 = .ok (.iload_n 0, 1) := by decide +kernel
theorem dJ9_min_7cf53_1 : decode cJ9_min_7cf53 1 = .ok (.iload_n 1, 1) := by decide +kernel
theorem dJ9_min_7cf53_2 : decode cJ9_min_7cf53 2 = .ok (.if_icmp .gt 7, 3) := by decide +kernel
theorem dJ9_min_7cf53_5 : decode cJ9_min_7cf53 5 = .ok (.iload_n 0, 1) := by decide +kernel
theorem dJ9_min_7cf53_6 : decode cJ9_min_7cf53 6 = .ok (.goto 4, 3) := by decide +kernel
theorem dJ9_min_7cf53_9 : decode cJ9_min_7cf53 9 = .ok (.iload_n 1, 1) := by decide +kernel
theorem dJ9_min_7cf53_10 : decode cJ9_min_7cf53 10 = .ok (.ireturn, 1) := by decide +kernel
theorem dJxa1e45_init_da8c8_0 : decode cJxa1e45_init_da8c8 0 = .ok (.aload_n 0, 1) := by decide +kernel
theorem dJxa1e45_init_da8c8_1 : decode cJxa1e45_init_da8c8 1 = .ok (.invokespecial 1, 3) := by decide +kernel
theorem dJxa1e45_init_da8c8_4 : decode cJxa1e45_init_da8c8 4 = .ok (.return_, 1) := by decide +kernel
theorem dJxc12de_init_da8c8_0 : decode cJxc12de_init_da8c8 0 = .ok (.aload_n 0, 1) := by decide +kernel
theorem dJxc12de_init_da8c8_1 : decode cJxc12de_init_da8c8 1 = .ok (.invokespecial 1, 3) := by decide +kernel
theorem dJxc12de_init_da8c8_4 : decode cJxc12de_init_da8c8 4 = .ok (.aload_n 0, 1) := by decide +kernel
theorem dJxc12de_init_da8c8_5 : decode cJxc12de_init_da8c8 5 = .ok (.iconst 0, 1) := by decide +kernel
theorem dJxc12de_init_da8c8_6 : decode cJxc12de_init_da8c8 6 = .ok (.putfield 7, 3) := by decide +kernel
theorem dJxc12de_init_da8c8_9 : decode cJxc12de_init_da8c8 9 = .ok (.return_, 1) := by decide +kernel
theorem dJx4a65c_init_da8c8_0 : decode cJx4a65c_init_da8c8 0 = .ok (.aload_n 0, 1) := by decide +kernel
theorem dJx4a65c_init_da8c8_1 : decode cJx4a65c_init_da8c8 1 = .ok (.invokespecial 1, 3) := by decide +kernel
theorem dJx4a65c_init_da8c8_4 : decode cJx4a65c_init_da8c8 4 = .ok (.aload_n 0, 1) := by decide +kernel
theorem dJx4a65c_init_da8c8_5 : decode cJx4a65c_init_da8c8 5 = .ok (.getstatic 39, 3) := by decide +kernel
theorem dJx4a65c_init_da8c8_8 : decode cJx4a65c_init_da8c8 8 = .ok (.putfield 9, 3) := by decide +kernel
theorem dJx4a65c_init_da8c8_11 : decode cJx4a65c_init_da8c8 11 = .ok (.return_, 1) := by decide +kernel
theorem dJx4a65c_grow_92f84_0 : decode cJx4a65c_grow_92f84 0 = .ok (.aload_n 0, 1) := by decide +kernel
theorem dJx4a65c_grow_92f84_1 : decode cJx4a65c_grow_92f84 1 = .ok (.getfield 9, 3) := by decide +kernel
theorem dJx4a65c_grow_92f84_4 : decode cJx4a65c_grow_92f84 4 = .ok (.arraylength, 1) := by decide +kernel
theorem dJx4a65c_grow_92f84_5 : decode cJx4a65c_grow_92f84 5 = .ok (.istore_n 2, 1) := by decide +kernel
theorem dJx4a65c_grow_92f84_6 : decode cJx4a65c_grow_92f84 6 = .ok (.iload_n 2, 1) := by decide +kernel
theorem dJx4a65c_grow_92f84_7 : decode cJx4a65c_grow_92f84 7 = .ok (.ifCond .gt 13, 3) := by decide +kernel
theorem dJx4a65c_grow_92f84_10 : decode cJx4a65c_grow_92f84 10 = .ok (.aload_n 0, 1) := by decide +kernel
theorem dJx4a65c_grow_92f84_11 : decode cJx4a65c_grow_92f84 11 = .ok (.getfield 9, 3) := by decide +kernel
theorem dJx4a65c_grow_92f84_14 : decode cJx4a65c_grow_92f84 14 = .ok (.getstatic 39, 3) := by decide +kernel
theorem dJx4a65c_grow_92f84_17 : decode cJx4a65c_grow_92f84 17 = .ok (.if_acmp .eq 28, 3) := by decide +kernel
theorem dJx4a65c_grow_92f84_20 : decode cJx4a65c_grow_92f84 20 = .ok (.iload_n 2, 1) := by decide +kernel
theorem dJx4a65c_grow_92f84_21 : decode cJx4a65c_grow_92f84 21 = .ok (.iload_n 1, 1) := by decide +kernel
theorem dJx4a65c_grow_92f84_22 : decode cJx4a65c_grow_92f84 22 = .ok (.iload_n 2, 1) := by decide +kernel
theorem dJx4a65c_grow_92f84_23 : decode cJx4a65c_grow_92f84 23 = .ok (.isub, 1) := by decide +kernel
theorem dJx4a65c_grow_92f84_24 : decode cJx4a65c_grow_92f84 24 = .ok (.iload_n 2, 1) := by decide +kernel
theorem dJx4a65c_grow_92f84_25 : decode cJx4a65c_grow_92f84 25 = .ok (.iconst 1, 1) := by decide +kernel
theorem dJx4a65c_grow_92f84_26 : decode cJx4a65c_grow_92f84 26 = .ok (.ishr, 1) := by decide +kernel
theorem dJx4a65c_grow_92f84_27 : decode cJx4a65c_grow_92f84 27 = .ok (.invokestatic 73, 3) := by decide +kernel
theorem dJx4a65c_grow_92f84_30 : decode cJx4a65c_grow_92f84 30 = .ok (.istore_n 3, 1) := by decide +kernel
theorem dJx4a65c_grow_92f84_31 : decode cJx4a65c_grow_92f84 31 = .ok (.aload_n 0, 1) := by decide +kernel
theorem dJx4a65c_grow_92f84_32 : decode cJx4a65c_grow_92f84 32 = .ok (.aload_n 0, 1) := by decide +kernel
theorem dJx4a65c_grow_92f84_33 : decode cJx4a65c_grow_92f84 33 = .ok (.getfield 9, 3) := by decide +kernel
theorem dJx4a65c_grow_92f84_36 : decode cJx4a65c_grow_92f84 36 = .ok (.iload_n 3, 1) := by decide +kernel
theorem dJx4a65c_grow_92f84_37 : decode cJx4a65c_grow_92f84 37 = .ok (.invokestatic 66, 3) := by decide +kernel
theorem dJx4a65c_grow_92f84_40 : decode cJx4a65c_grow_92f84 40 = .ok (.dup_x1, 1) := by decide +kernel
theorem dJx4a65c_grow_92f84_41 : decode cJx4a65c_grow_92f84 41 = .ok (.putfield 9, 3) := by decide +kernel
theorem dJx4a65c_grow_92f84_44 : decode cJx4a65c_grow_92f84 44 = .ok (.areturn, 1) := by decide +kernel
theorem dJx4a65c_grow_92f84_45 : decode cJx4a65c_grow_92f84 45 = .ok (.aload_n 0, 1) := by decide +kernel
theorem dJx4a65c_grow_92f84_46 : decode cJx4a65c_grow_92f84 46 = .ok (.bipush 10, 2) := by decide +kernel
theorem dJx4a65c_grow_92f84_48 : decode cJx4a65c_grow_92f84 48 = .ok (.iload_n 1, 1) := by decide +kernel
theorem dJx4a65c_grow_92f84_49 : decode cJx4a65c_grow_92f84 49 = .ok (.invokestatic 79, 3) := by decide +kernel
theorem dJx4a65c_grow_92f84_52 : decode cJx4a65c_grow_92f84 52 = .ok (.anewarray 7, 3) := by decide +kernel
theorem dJx4a65c_grow_92f84_55 : decode cJx4a65c_grow_92f84 55 = .ok (.dup_x1, 1) := by decide +kernel
theorem dJx4a65c_grow_92f84_56 : decode cJx4a65c_grow_92f84 56 = .ok (.putfield 9, 3) := by decide +kernel
theorem dJx4a65c_grow_92f84_59 : decode cJx4a65c_grow_92f84 59 = .ok (.areturn, 1) := by decide +kernel
theorem dJx4a65c_grow_d5877_0 : decode cJx4a65c_grow_d5877 0 = .ok (.aload_n 0, 1) := by decide +kernel
theorem dJx4a65c_grow_d5877_1 : decode cJx4a65c_grow_d5877 1 = .ok (.aload_n 0, 1) := by decide +kernel
theorem dJx4a65c_grow_d5877_2 : decode cJx4a65c_grow_d5877 2 = .ok (.getfield 48, 3) := by decide +kernel
theorem dJx4a65c_grow_d5877_5 : decode cJx4a65c_grow_d5877 5 = .ok (.iconst 1, 1) := by decide +kernel
theorem dJx4a65c_grow_d5877_6 : decode cJx4a65c_grow_d5877 6 = .ok (.iadd, 1) := by decide +kernel
theorem dJx4a65c_grow_d5877_7 : decode cJx4a65c_grow_d5877 7 = .ok (.invokevirtual 69, 3) := by decide +kernel
theorem dJx4a65c_grow_d5877_10 : decode cJx4a65c_grow_d5877 10 = .ok (.areturn, 1) := by decide +kernel
theorem dJx4a65c_size_8abf5_0 : decode cJx4a65c_size_8abf5 0 = .ok (.aload_n 0, 1) := by decide +kernel
theorem dJx4a65c_size_8abf5_1 : decode cJx4a65c_size_8abf5 1 = .ok (.getfield 48, 3) := by decide +kernel
theorem dJx4a65c_size_8abf5_4 : decode cJx4a65c_size_8abf5 4 = .ok (.ireturn, 1) := by decide +kernel
theorem dJx4a65c_isEmpty_aae02_0 : decode cJx4a65c_isEmpty_aae02 0 = .ok (.aload_n 0, 1) := by decide +kernel
theorem dJx4a65c_isEmpty_aae02_1 : decode cJx4a65c_isEmpty_aae02 1 = .ok (.getfield 48, 3) := by decide +kernel
theorem dJx4a65c_isEmpty_aae02_4 : decode cJx4a65c_isEmpty_aae02 4 = .ok (.ifCond .ne 7, 3) := by decide +kernel
theorem dJx4a65c_isEmpty_aae02_7 : decode cJx4a65c_isEmpty_aae02 7 = .ok (.iconst 1, 1) := by decide +kernel
theorem dJx4a65c_isEmpty_aae02_8 : decode cJx4a65c_isEmpty_aae02 8 = .ok (.goto 4, 3) := by decide +kernel
theorem dJx4a65c_isEmpty_aae02_11 : decode cJx4a65c_isEmpty_aae02 11 = .ok (.iconst 0, 1) := by decide +kernel
theorem dJx4a65c_isEmpty_aae02_12 : decode cJx4a65c_isEmpty_aae02 12 = .ok (.ireturn, 1) := by decide +kernel
theorem dJx4a65c_elementData_915e3_0 : decode cJx4a65c_elementData_915e3 0 = .ok (.aload_n 0, 1) := by decide +kernel
theorem dJx4a65c_elementData_915e3_1 : decode cJx4a65c_elementData_915e3 1 = .ok (.getfield 9, 3) := by decide +kernel
theorem dJx4a65c_elementData_915e3_4 : decode cJx4a65c_elementData_915e3 4 = .ok (.iload_n 1, 1) := by decide +kernel
theorem dJx4a65c_elementData_915e3_5 : decode cJx4a65c_elementData_915e3 5 = .ok (.aaload, 1) := by decide +kernel
theorem dJx4a65c_elementData_915e3_6 : decode cJx4a65c_elementData_915e3 6 = .ok (.areturn, 1) := by decide +kernel
theorem dJx4a65c_get_915e3_0 : decode cJx4a65c_get_915e3 0 = .ok (.iload_n 1, 1) := by decide +kernel
theorem dJx4a65c_get_915e3_1 : decode cJx4a65c_get_915e3 1 = .ok (.aload_n 0, 1) := by decide +kernel
theorem dJx4a65c_get_915e3_2 : decode cJx4a65c_get_915e3 2 = .ok (.getfield 48, 3) := by decide +kernel
theorem dJx4a65c_get_915e3_5 : decode cJx4a65c_get_915e3 5 = .ok (.invokestatic 118, 3) := by decide +kernel
theorem dJx4a65c_get_915e3_8 : decode cJx4a65c_get_915e3 8 = .ok (.pop, 1) := by decide +kernel
theorem dJx4a65c_get_915e3_9 : decode cJx4a65c_get_915e3 9 = .ok (.aload_n 0, 1) := by decide +kernel
theorem dJx4a65c_get_915e3_10 : decode cJx4a65c_get_915e3 10 = .ok (.iload_n 1, 1) := by decide +kernel
theorem dJx4a65c_get_915e3_11 : decode cJx4a65c_get_915e3 11 = .ok (.invokevirtual 123, 3) := by decide +kernel
theorem dJx4a65c_get_915e3_14 : decode cJx4a65c_get_915e3 14 = .ok (.areturn, 1) := by decide +kernel
theorem dJx4a65c_add_72be8_0 : decode cJx4a65c_add_72be8 0 = .ok (.iload_n 3, 1) := by decide +kernel
theorem dJx4a65c_add_72be8_1 : decode cJx4a65c_add_72be8 1 = .ok (.aload_n 2, 1) := by decide +kernel
theorem dJx4a65c_add_72be8_2 : decode cJx4a65c_add_72be8 2 = .ok (.arraylength, 1) := by decide +kernel
theorem dJx4a65c_add_72be8_3 : decode cJx4a65c_add_72be8 3 = .ok (.if_icmp .ne 8, 3) := by decide +kernel
theorem dJx4a65c_add_72be8_6 : decode cJx4a65c_add_72be8 6 = .ok (.aload_n 0, 1) := by decide +kernel
theorem dJx4a65c_add_72be8_7 : decode cJx4a65c_add_72be8 7 = .ok (.invokevirtual 129, 3) := by decide +kernel
theorem dJx4a65c_add_72be8_10 : decode cJx4a65c_add_72be8 10 = .ok (.astore_n 2, 1) := by decide +kernel
theorem dJx4a65c_add_72be8_11 : decode cJx4a65c_add_72be8 11 = .ok (.aload_n 2, 1) := by decide +kernel
theorem dJx4a65c_add_72be8_12 : decode cJx4a65c_add_72be8 12 = .ok (.iload_n 3, 1) := by decide +kernel
theorem dJx4a65c_add_72be8_13 : decode cJx4a65c_add_72be8 13 = .ok (.aload_n 1, 1) := by decide +kernel
theorem dJx4a65c_add_72be8_14 : decode cJx4a65c_add_72be8 14 = .ok (.aastore, 1) := by decide +kernel
theorem dJx4a65c_add_72be8_15 : decode cJx4a65c_add_72be8 15 = .ok (.aload_n 0, 1) := by decide +kernel
theorem dJx4a65c_add_72be8_16 : decode cJx4a65c_add_72be8 16 = .ok (.iload_n 3, 1) := by decide +kernel
theorem dJx4a65c_add_72be8_17 : decode cJx4a65c_add_72be8 17 = .ok (.iconst 1, 1) := by decide +kernel
theorem dJx4a65c_add_72be8_18 : decode cJx4a65c_add_72be8 18 = .ok (.iadd, 1) := by decide +kernel
theorem dJx4a65c_add_72be8_19 : decode cJx4a65c_add_72be8 19 = .ok (.putfield 48, 3) := by decide +kernel
theorem dJx4a65c_add_72be8_22 : decode cJx4a65c_add_72be8 22 = .ok (.return_, 1) := by decide +kernel
theorem dJx4a65c_add_9ea2d_0 : decode cJx4a65c_add_9ea2d 0 = .ok (.aload_n 0, 1) := by decide +kernel
theorem dJx4a65c_add_9ea2d_1 : decode cJx4a65c_add_9ea2d 1 = .ok (.dup, 1) := by decide +kernel
theorem dJx4a65c_add_9ea2d_2 : decode cJx4a65c_add_9ea2d 2 = .ok (.getfield 63, 3) := by decide +kernel
theorem dJx4a65c_add_9ea2d_5 : decode cJx4a65c_add_9ea2d 5 = .ok (.iconst 1, 1) := by decide +kernel
theorem dJx4a65c_add_9ea2d_6 : decode cJx4a65c_add_9ea2d 6 = .ok (.iadd, 1) := by decide +kernel
theorem dJx4a65c_add_9ea2d_7 : decode cJx4a65c_add_9ea2d 7 = .ok (.putfield 63, 3) := by decide +kernel
theorem dJx4a65c_add_9ea2d_10 : decode cJx4a65c_add_9ea2d 10 = .ok (.aload_n 0, 1) := by decide +kernel
theorem dJx4a65c_add_9ea2d_11 : decode cJx4a65c_add_9ea2d 11 = .ok (.aload_n 1, 1) := by decide +kernel
theorem dJx4a65c_add_9ea2d_12 : decode cJx4a65c_add_9ea2d 12 = .ok (.aload_n 0, 1) := by decide +kernel
theorem dJx4a65c_add_9ea2d_13 : decode cJx4a65c_add_9ea2d 13 = .ok (.getfield 9, 3) := by decide +kernel
theorem dJx4a65c_add_9ea2d_16 : decode cJx4a65c_add_9ea2d 16 = .ok (.aload_n 0, 1) := by decide +kernel
theorem dJx4a65c_add_9ea2d_17 : decode cJx4a65c_add_9ea2d 17 = .ok (.getfield 48, 3) := by decide +kernel
theorem dJx4a65c_add_9ea2d_20 : decode cJx4a65c_add_9ea2d 20 = .ok (.invokevirtual 131, 3) := by decide +kernel
theorem dJx4a65c_add_9ea2d_23 : decode cJx4a65c_add_9ea2d 23 = .ok (.iconst 1, 1) := by decide +kernel
theorem dJx4a65c_add_9ea2d_24 : decode cJx4a65c_add_9ea2d 24 = .ok (.ireturn, 1) := by decide +kernel
theorem dJx4a65c_add_7a177_0 : decode cJx4a65c_add_7a177 0 = .ok (.aload_n 0, 1) := by decide +kernel
theorem dJx4a65c_add_7a177_1 : decode cJx4a65c_add_7a177 1 = .ok (.iload_n 1, 1) := by decide +kernel
theorem dJx4a65c_add_7a177_2 : decode cJx4a65c_add_7a177 2 = .ok (.invokevirtual 135, 3) := by decide +kernel
theorem dJx4a65c_add_7a177_5 : decode cJx4a65c_add_7a177 5 = .ok (.aload_n 0, 1) := by decide +kernel
theorem dJx4a65c_add_7a177_6 : decode cJx4a65c_add_7a177 6 = .ok (.dup, 1) := by decide +kernel
theorem dJx4a65c_add_7a177_7 : decode cJx4a65c_add_7a177 7 = .ok (.getfield 63, 3) := by decide +kernel
theorem dJx4a65c_add_7a177_10 : decode cJx4a65c_add_7a177 10 = .ok (.iconst 1, 1) := by decide +kernel
theorem dJx4a65c_add_7a177_11 : decode cJx4a65c_add_7a177 11 = .ok (.iadd, 1) := by decide +kernel
theorem dJx4a65c_add_7a177_12 : decode cJx4a65c_add_7a177 12 = .ok (.putfield 63, 3) := by decide +kernel
theorem dJx4a65c_add_7a177_15 : decode cJx4a65c_add_7a177 15 = .ok (.aload_n 0, 1) := by decide +kernel
theorem dJx4a65c_add_7a177_16 : decode cJx4a65c_add_7a177 16 = .ok (.getfield 48, 3) := by decide +kernel
theorem dJx4a65c_add_7a177_19 : decode cJx4a65c_add_7a177 19 = .ok (.dup, 1) := by decide +kernel
theorem dJx4a65c_add_7a177_20 : decode cJx4a65c_add_7a177 20 = .ok (.istore_n 3, 1) := by decide +kernel
theorem dJx4a65c_add_7a177_21 : decode cJx4a65c_add_7a177 21 = .ok (.aload_n 0, 1) := by decide +kernel
theorem dJx4a65c_add_7a177_22 : decode cJx4a65c_add_7a177 22 = .ok (.getfield 9, 3) := by decide +kernel
theorem dJx4a65c_add_7a177_25 : decode cJx4a65c_add_7a177 25 = .ok (.dup, 1) := by decide +kernel
theorem dJx4a65c_add_7a177_26 : decode cJx4a65c_add_7a177 26 = .ok (.astore 4, 2) := by decide +kernel
theorem dJx4a65c_add_7a177_28 : decode cJx4a65c_add_7a177 28 = .ok (.arraylength, 1) := by decide +kernel
theorem dJx4a65c_add_7a177_29 : decode cJx4a65c_add_7a177 29 = .ok (.if_icmp .ne 9, 3) := by decide +kernel
theorem dJx4a65c_add_7a177_32 : decode cJx4a65c_add_7a177 32 = .ok (.aload_n 0, 1) := by decide +kernel
theorem dJx4a65c_add_7a177_33 : decode cJx4a65c_add_7a177 33 = .ok (.invokevirtual 129, 3) := by decide +kernel
theorem dJx4a65c_add_7a177_36 : decode cJx4a65c_add_7a177 36 = .ok (.astore 4, 2) := by decide +kernel
theorem dJx4a65c_add_7a177_38 : decode cJx4a65c_add_7a177 38 = .ok (.aload 4, 2) := by decide +kernel
theorem dJx4a65c_add_7a177_40 : decode cJx4a65c_add_7a177 40 = .ok (.iload_n 1, 1) := by decide +kernel
theorem dJx4a65c_add_7a177_41 : decode cJx4a65c_add_7a177 41 = .ok (.aload 4, 2) := by decide +kernel
theorem dJx4a65c_add_7a177_43 : decode cJx4a65c_add_7a177 43 = .ok (.iload_n 1, 1) := by decide +kernel
theorem dJx4a65c_add_7a177_44 : decode cJx4a65c_add_7a177 44 = .ok (.iconst 1, 1) := by decide +kernel
theorem dJx4a65c_add_7a177_45 : decode cJx4a65c_add_7a177 45 = .ok (.iadd, 1) := by decide +kernel
theorem dJx4a65c_add_7a177_46 : decode cJx4a65c_add_7a177 46 = .ok (.iload_n 3, 1) := by decide +kernel
theorem dJx4a65c_add_7a177_47 : decode cJx4a65c_add_7a177 47 = .ok (.iload_n 1, 1) := by decide +kernel
theorem dJx4a65c_add_7a177_48 : decode cJx4a65c_add_7a177 48 = .ok (.isub, 1) := by decide +kernel
theorem dJx4a65c_add_7a177_49 : decode cJx4a65c_add_7a177 49 = .ok (.invokestatic 112, 3) := by decide +kernel
theorem dJx4a65c_add_7a177_52 : decode cJx4a65c_add_7a177 52 = .ok (.aload 4, 2) := by decide +kernel
theorem dJx4a65c_add_7a177_54 : decode cJx4a65c_add_7a177 54 = .ok (.iload_n 1, 1) := by decide +kernel
theorem dJx4a65c_add_7a177_55 : decode cJx4a65c_add_7a177 55 = .ok (.aload_n 2, 1) := by decide +kernel
theorem dJx4a65c_add_7a177_56 : decode cJx4a65c_add_7a177 56 = .ok (.aastore, 1) := by decide +kernel
theorem dJx4a65c_add_7a177_57 : decode cJx4a65c_add_7a177 57 = .ok (.aload_n 0, 1) := by decide +kernel
theorem dJx4a65c_add_7a177_58 : decode cJx4a65c_add_7a177 58 = .ok (.iload_n 3, 1) := by decide +kernel
theorem dJx4a65c_add_7a177_59 : decode cJx4a65c_add_7a177 59 = .ok (.iconst 1, 1) := by decide +kernel
theorem dJx4a65c_add_7a177_60 : decode cJx4a65c_add_7a177 60 = .ok (.iadd, 1) := by decide +kernel
theorem dJx4a65c_add_7a177_61 : decode cJx4a65c_add_7a177 61 = .ok (.putfield 48, 3) := by decide +kernel
theorem dJx4a65c_add_7a177_64 : decode cJx4a65c_add_7a177 64 = .ok (.return_, 1) := by decide +kernel
theorem dJx4a65c_remove_915e3_0 : decode cJx4a65c_remove_915e3 0 = .ok (.iload_n 1, 1) := by decide +kernel
theorem dJx4a65c_remove_915e3_1 : decode cJx4a65c_remove_915e3 1 = .ok (.aload_n 0, 1) := by decide +kernel
theorem dJx4a65c_remove_915e3_2 : decode cJx4a65c_remove_915e3 2 = .ok (.getfield 48, 3) := by decide +kernel
theorem dJx4a65c_remove_915e3_5 : decode cJx4a65c_remove_915e3 5 = .ok (.invokestatic 118, 3) := by decide +kernel
theorem dJx4a65c_remove_915e3_8 : decode cJx4a65c_remove_915e3 8 = .ok (.pop, 1) := by decide +kernel
theorem dJx4a65c_remove_915e3_9 : decode cJx4a65c_remove_915e3 9 = .ok (.aload_n 0, 1) := by decide +kernel
theorem dJx4a65c_remove_915e3_10 : decode cJx4a65c_remove_915e3 10 = .ok (.getfield 9, 3) := by decide +kernel
theorem dJx4a65c_remove_915e3_13 : decode cJx4a65c_remove_915e3 13 = .ok (.astore_n 2, 1) := by decide +kernel
theorem dJx4a65c_remove_915e3_14 : decode cJx4a65c_remove_915e3 14 = .ok (.aload_n 2, 1) := by decide +kernel
theorem dJx4a65c_remove_915e3_15 : decode cJx4a65c_remove_915e3 15 = .ok (.iload_n 1, 1) := by decide +kernel
theorem dJx4a65c_remove_915e3_16 : decode cJx4a65c_remove_915e3 16 = .ok (.aaload, 1) := by decide +kernel
theorem dJx4a65c_remove_915e3_17 : decode cJx4a65c_remove_915e3 17 = .ok (.astore_n 3, 1) := by decide +kernel
theorem dJx4a65c_remove_915e3_18 : decode cJx4a65c_remove_915e3 18 = .ok (.aload_n 0, 1) := by decide +kernel
theorem dJx4a65c_remove_915e3_19 : decode cJx4a65c_remove_915e3 19 = .ok (.aload_n 2, 1) := by decide +kernel
theorem dJx4a65c_remove_915e3_20 : decode cJx4a65c_remove_915e3 20 = .ok (.iload_n 1, 1) := by decide +kernel
theorem dJx4a65c_remove_915e3_21 : decode cJx4a65c_remove_915e3 21 = .ok (.invokevirtual 144, 3) := by decide +kernel
theorem dJx4a65c_remove_915e3_24 : decode cJx4a65c_remove_915e3 24 = .ok (.aload_n 3, 1) := by decide +kernel
theorem dJx4a65c_remove_915e3_25 : decode cJx4a65c_remove_915e3 25 = .ok (.areturn, 1) := by decide +kernel
theorem dJx4a65c_fastRemove_b59b0_0 : decode cJx4a65c_fastRemove_b59b0 0 = .ok (.aload_n 0, 1) := by decide +kernel
theorem dJx4a65c_fastRemove_b59b0_1 : decode cJx4a65c_fastRemove_b59b0 1 = .ok (.dup, 1) := by decide +kernel
theorem dJx4a65c_fastRemove_b59b0_2 : decode cJx4a65c_fastRemove_b59b0 2 = .ok (.getfield 63, 3) := by decide +kernel
theorem dJx4a65c_fastRemove_b59b0_5 : decode cJx4a65c_fastRemove_b59b0 5 = .ok (.iconst 1, 1) := by decide +kernel
theorem dJx4a65c_fastRemove_b59b0_6 : decode cJx4a65c_fastRemove_b59b0 6 = .ok (.iadd, 1) := by decide +kernel
theorem dJx4a65c_fastRemove_b59b0_7 : decode cJx4a65c_fastRemove_b59b0 7 = .ok (.putfield 63, 3) := by decide +kernel
theorem dJx4a65c_fastRemove_b59b0_10 : decode cJx4a65c_fastRemove_b59b0 10 = .ok (.aload_n 0, 1) := by decide +kernel
theorem dJx4a65c_fastRemove_b59b0_11 : decode cJx4a65c_fastRemove_b59b0 11 = .ok (.getfield 48, 3) := by decide +kernel
theorem dJx4a65c_fastRemove_b59b0_14 : decode cJx4a65c_fastRemove_b59b0 14 = .ok (.iconst 1, 1) := by decide +kernel
theorem dJx4a65c_fastRemove_b59b0_15 : decode cJx4a65c_fastRemove_b59b0 15 = .ok (.isub, 1) := by decide +kernel
theorem dJx4a65c_fastRemove_b59b0_16 : decode cJx4a65c_fastRemove_b59b0 16 = .ok (.dup, 1) := by decide +kernel
theorem dJx4a65c_fastRemove_b59b0_17 : decode cJx4a65c_fastRemove_b59b0 17 = .ok (.istore_n 3, 1) := by decide +kernel
theorem dJx4a65c_fastRemove_b59b0_18 : decode cJx4a65c_fastRemove_b59b0 18 = .ok (.iload_n 2, 1) := by decide +kernel
theorem dJx4a65c_fastRemove_b59b0_19 : decode cJx4a65c_fastRemove_b59b0 19 = .ok (.if_icmp .le 15, 3) := by decide +kernel
theorem dJx4a65c_fastRemove_b59b0_22 : decode cJx4a65c_fastRemove_b59b0 22 = .ok (.aload_n 1, 1) := by decide +kernel
theorem dJx4a65c_fastRemove_b59b0_23 : decode cJx4a65c_fastRemove_b59b0 23 = .ok (.iload_n 2, 1) := by decide +kernel
theorem dJx4a65c_fastRemove_b59b0_24 : decode cJx4a65c_fastRemove_b59b0 24 = .ok (.iconst 1, 1) := by decide +kernel
theorem dJx4a65c_fastRemove_b59b0_25 : decode cJx4a65c_fastRemove_b59b0 25 = .ok (.iadd, 1) := by decide +kernel
theorem dJx4a65c_fastRemove_b59b0_26 : decode cJx4a65c_fastRemove_b59b0 26 = .ok (.aload_n 1, 1) := by decide +kernel
theorem dJx4a65c_fastRemove_b59b0_27 : decode cJx4a65c_fastRemove_b59b0 27 = .ok (.iload_n 2, 1) := by decide +kernel
theorem dJx4a65c_fastRemove_b59b0_28 : decode cJx4a65c_fastRemove_b59b0 28 = .ok (.iload_n 3, 1) := by decide +kernel
theorem dJx4a65c_fastRemove_b59b0_29 : decode cJx4a65c_fastRemove_b59b0 29 = .ok (.iload_n 2, 1) := by decide +kernel
theorem dJx4a65c_fastRemove_b59b0_30 : decode cJx4a65c_fastRemove_b59b0 30 = .ok (.isub, 1) := by decide +kernel
theorem dJx4a65c_fastRemove_b59b0_31 : decode cJx4a65c_fastRemove_b59b0 31 = .ok (.invokestatic 112, 3) := by decide +kernel
theorem dJx4a65c_fastRemove_b59b0_34 : decode cJx4a65c_fastRemove_b59b0 34 = .ok (.aload_n 1, 1) := by decide +kernel
theorem dJx4a65c_fastRemove_b59b0_35 : decode cJx4a65c_fastRemove_b59b0 35 = .ok (.aload_n 0, 1) := by decide +kernel
theorem dJx4a65c_fastRemove_b59b0_36 : decode cJx4a65c_fastRemove_b59b0 36 = .ok (.iload_n 3, 1) := by decide +kernel
theorem dJx4a65c_fastRemove_b59b0_37 : decode cJx4a65c_fastRemove_b59b0 37 = .ok (.dup_x1, 1) := by decide +kernel
theorem dJx4a65c_fastRemove_b59b0_38 : decode cJx4a65c_fastRemove_b59b0 38 = .ok (.putfield 48, 3) := by decide +kernel
theorem dJx4a65c_fastRemove_b59b0_41 : decode cJx4a65c_fastRemove_b59b0 41 = .ok (.aconst_null, 1) := by decide +kernel
theorem dJx4a65c_fastRemove_b59b0_42 : decode cJx4a65c_fastRemove_b59b0 42 = .ok (.aastore, 1) := by decide +kernel
theorem dJx4a65c_fastRemove_b59b0_43 : decode cJx4a65c_fastRemove_b59b0 43 = .ok (.return_, 1) := by decide +kernel
theorem dJx4a65c_rangeCheckForAdd_d00df_0 : decode cJx4a65c_rangeCheckForAdd_d00df 0 = .ok (.iload_n 1, 1) := by decide +kernel
theorem dJx4a65c_rangeCheckForAdd_d00df_1 : decode cJx4a65c_rangeCheckForAdd_d00df 1 = .ok (.aload_n 0, 1) := by decide +kernel
theorem dJx4a65c_rangeCheckForAdd_d00df_2 : decode cJx4a65c_rangeCheckForAdd_d00df 2 = .ok (.getfield 48, 3) := by decide +kernel
theorem dJx4a65c_rangeCheckForAdd_d00df_5 : decode cJx4a65c_rangeCheckForAdd_d00df 5 = .ok (.if_icmp .gt 7, 3) := by decide +kernel
theorem dJx4a65c_rangeCheckForAdd_d00df_8 : decode cJx4a65c_rangeCheckForAdd_d00df 8 = .ok (.iload_n 1, 1) := by decide +kernel
theorem dJx4a65c_rangeCheckForAdd_d00df_9 : decode cJx4a65c_rangeCheckForAdd_d00df 9 = .ok (.ifCond .ge 16, 3) := by decide +kernel
theorem dJx4a65c_rangeCheckForAdd_d00df_12 : decode cJx4a65c_rangeCheckForAdd_d00df 12 = .ok (.new 187, 3) := by decide +kernel
theorem dJx4a65c_rangeCheckForAdd_d00df_15 : decode cJx4a65c_rangeCheckForAdd_d00df 15 = .ok (.dup, 1) := by decide +kernel
theorem dJx4a65c_rangeCheckForAdd_d00df_16 : decode cJx4a65c_rangeCheckForAdd_d00df 16 = .ok (.aload_n 0, 1) := by decide +kernel
theorem dJx4a65c_rangeCheckForAdd_d00df_17 : decode cJx4a65c_rangeCheckForAdd_d00df 17 = .ok (.iload_n 1, 1) := by decide +kernel
theorem dJx4a65c_rangeCheckForAdd_d00df_18 : decode cJx4a65c_rangeCheckForAdd_d00df 18 = .ok (.invokevirtual 198, 3) := by decide +kernel
theorem dJx4a65c_rangeCheckForAdd_d00df_21 : decode cJx4a65c_rangeCheckForAdd_d00df 21 = .ok (.invokespecial 193, 3) := by decide +kernel
theorem dJx4a65c_rangeCheckForAdd_d00df_24 : decode cJx4a65c_rangeCheckForAdd_d00df 24 = .ok (.athrow, 1) := by decide +kernel
theorem dJx4a65c_rangeCheckForAdd_d00df_25 : decode cJx4a65c_rangeCheckForAdd_d00df 25 = .ok (.return_, 1) := by decide +kernel
theorem dJ7_copyOf_1904c_0 : decode cJ7_copyOf_1904c 0 = .ok (.aload_n 0, 1) := by decide +kernel
theorem dJ7_copyOf_1904c_1 : decode cJ7_copyOf_1904c 1 = .ok (.iload_n 1, 1) := by decide +kernel
theorem dJ7_copyOf_1904c_2 : decode cJ7_copyOf_1904c 2 = .ok (.aload_n 0, 1) := by decide +kernel
theorem dJ7_copyOf_1904c_3 : decode cJ7_copyOf_1904c 3 = .ok (.invokevirtual 86, 3) := by decide +kernel
theorem dJ7_copyOf_1904c_6 : decode cJ7_copyOf_1904c 6 = .ok (.invokestatic 300, 3) := by decide +kernel
theorem dJ7_copyOf_1904c_9 : decode cJ7_copyOf_1904c 9 = .ok (.areturn, 1) := by decide +kernel
theorem dJ7_copyOf_6403c_0 : decode cJ7_copyOf_6403c 0 = .ok (.aload_n 2, 1) := by decide +kernel
theorem dJ7_copyOf_6403c_1 : decode cJ7_copyOf_6403c 1 = .ok (.ldc 110, 2) := by decide +kernel
theorem dJ7_copyOf_6403c_3 : decode cJ7_copyOf_6403c 3 = .ok (.if_acmp .ne 10, 3) := by decide +kernel
theorem dJ7_copyOf_6403c_6 : decode cJ7_copyOf_6403c 6 = .ok (.iload_n 1, 1) := by decide +kernel
theorem dJ7_copyOf_6403c_7 : decode cJ7_copyOf_6403c 7 = .ok (.anewarray 2, 3) := by decide +kernel
theorem dJ7_copyOf_6403c_10 : decode cJ7_copyOf_6403c 10 = .ok (.goto 14, 3) := by decide +kernel
theorem dJ7_copyOf_6403c_13 : decode cJ7_copyOf_6403c 13 = .ok (.aload_n 2, 1) := by decide +kernel
theorem dJ7_copyOf_6403c_14 : decode cJ7_copyOf_6403c 14 = .ok (.invokevirtual 90, 3) := by decide +kernel
theorem dJ7_copyOf_6403c_17 : decode cJ7_copyOf_6403c 17 = .ok (.iload_n 1, 1) := by decide +kernel
theorem dJ7_copyOf_6403c_18 : decode cJ7_copyOf_6403c 18 = .ok (.invokestatic 95, 3) := by decide +kernel
theorem dJ7_copyOf_6403c_21 : decode cJ7_copyOf_6403c 21 = .ok (.checkcast 110, 3) := by decide +kernel
theorem dJ7_copyOf_6403c_24 : decode cJ7_copyOf_6403c 24 = .ok (.astore_n 3, 1) := by decide +kernel
theorem dJ7_copyOf_6403c_25 : decode cJ7_copyOf_6403c 25 = .ok (.aload_n 0, 1) := by decide +kernel
theorem dJ7_copyOf_6403c_26 : decode cJ7_copyOf_6403c 26 = .ok (.iconst 0, 1) := by decide +kernel
theorem dJ7_copyOf_6403c_27 : decode cJ7_copyOf_6403c 27 = .ok (.aload_n 3, 1) := by decide +kernel
theorem dJ7_copyOf_6403c_28 : decode cJ7_copyOf_6403c 28 = .ok (.iconst 0, 1) := by decide +kernel
theorem dJ7_copyOf_6403c_29 : decode cJ7_copyOf_6403c 29 = .ok (.aload_n 0, 1) := by decide +kernel
theorem dJ7_copyOf_6403c_30 : decode cJ7_copyOf_6403c 30 = .ok (.arraylength, 1) := by decide +kernel
theorem dJ7_copyOf_6403c_31 : decode cJ7_copyOf_6403c 31 = .ok (.iload_n 1, 1) := by decide +kernel
theorem dJ7_copyOf_6403c_32 : decode cJ7_copyOf_6403c 32 = .ok (.invokestatic 304, 3) := by decide +kernel
theorem dJ7_copyOf_6403c_35 : decode cJ7_copyOf_6403c 35 = .ok (.invokestatic 150, 3) := by decide +kernel
theorem dJ7_copyOf_6403c_38 : decode cJ7_copyOf_6403c 38 = .ok (.aload_n 3, 1) := by decide +kernel
theorem dJ7_copyOf_6403c_39 : decode cJ7_copyOf_6403c 39 = .ok (.areturn, 1) := by decide +kernel
theorem dJ15_checkIndex_7cf53_0 : decode cJ15_checkIndex_7cf53 0 = .ok (.iload_n 0, 1) := by decide +kernel
theorem dJ15_checkIndex_7cf53_1 : decode cJ15_checkIndex_7cf53 1 = .ok (.iload_n 1, 1) := by decide +kernel
theorem dJ15_checkIndex_7cf53_2 : decode cJ15_checkIndex_7cf53 2 = .ok (.aconst_null, 1) := by decide +kernel
theorem dJ15_checkIndex_7cf53_3 : decode cJ15_checkIndex_7cf53 3 = .ok (.invokestatic 105, 3) := by decide +kernel
theorem dJ15_checkIndex_7cf53_6 : decode cJ15_checkIndex_7cf53 6 = .ok (.ireturn, 1) := by decide +kernel
theorem dJ8_newLength_cabcc_0 : decode cJ8_newLength_cabcc 0 = .ok (.iload_n 0, 1) := by decide +kernel
theorem dJ8_newLength_cabcc_1 : decode cJ8_newLength_cabcc 1 = .ok (.iload_n 1, 1) := by decide +kernel
theorem dJ8_newLength_cabcc_2 : decode cJ8_newLength_cabcc 2 = .ok (.iload_n 2, 1) := by decide +kernel
theorem dJ8_newLength_cabcc_3 : decode cJ8_newLength_cabcc 3 = .ok (.invokestatic 194, 3) := by decide +kernel
theorem dJ8_newLength_cabcc_6 : decode cJ8_newLength_cabcc 6 = .ok (.iadd, 1) := by decide +kernel
theorem dJ8_newLength_cabcc_7 : decode cJ8_newLength_cabcc 7 = .ok (.istore_n 3, 1) := by decide +kernel
theorem dJ8_newLength_cabcc_8 : decode cJ8_newLength_cabcc 8 = .ok (.iconst 0, 1) := by decide +kernel
theorem dJ8_newLength_cabcc_9 : decode cJ8_newLength_cabcc 9 = .ok (.iload_n 3, 1) := by decide +kernel
theorem dJ8_newLength_cabcc_10 : decode cJ8_newLength_cabcc 10 = .ok (.if_icmp .ge 11, 3) := by decide +kernel
theorem dJ8_newLength_cabcc_13 : decode cJ8_newLength_cabcc 13 = .ok (.iload_n 3, 1) := by decide +kernel
theorem dJ8_newLength_cabcc_14 : decode cJ8_newLength_cabcc 14 = .ok (.ldc 200, 2) := by decide +kernel
theorem dJ8_newLength_cabcc_16 : decode cJ8_newLength_cabcc 16 = .ok (.if_icmp .gt 5, 3) := by decide +kernel
theorem dJ8_newLength_cabcc_19 : decode cJ8_newLength_cabcc 19 = .ok (.iload_n 3, 1) := by decide +kernel
theorem dJ8_newLength_cabcc_20 : decode cJ8_newLength_cabcc 20 = .ok (.ireturn, 1) := by decide +kernel
theorem dJ8_newLength_cabcc_21 : decode cJ8_newLength_cabcc 21 = .ok (.iload_n 0, 1) := by decide +kernel
theorem dJ8_newLength_cabcc_22 : decode cJ8_newLength_cabcc 22 = .ok (.iload_n 1, 1) := by decide +kernel
theorem dJ8_newLength_cabcc_23 : decode cJ8_newLength_cabcc 23 = .ok (.invokestatic 201, 3) := by decide +kernel
theorem dJ8_newLength_cabcc_26 : decode cJ8_newLength_cabcc 26 = .ok (.ireturn, 1) := by decide +kernel
theorem dJ3_checkIndex_8e157_0 : decode cJ3_checkIndex_8e157 0 = .ok (.iload_n 0, 1) := by decide +kernel
theorem dJ3_checkIndex_8e157_1 : decode cJ3_checkIndex_8e157 1 = .ok (.ifCond .lt 8, 3) := by decide +kernel
theorem dJ3_checkIndex_8e157_4 : decode cJ3_checkIndex_8e157 4 = .ok (.iload_n 0, 1) := by decide +kernel
theorem dJ3_checkIndex_8e157_5 : decode cJ3_checkIndex_8e157 5 = .ok (.iload_n 1, 1) := by decide +kernel
theorem dJ3_checkIndex_8e157_6 : decode cJ3_checkIndex_8e157 6 = .ok (.if_icmp .lt 10, 3) := by decide +kernel
theorem dJ3_checkIndex_8e157_9 : decode cJ3_checkIndex_8e157 9 = .ok (.aload_n 2, 1) := by decide +kernel
theorem dJ3_checkIndex_8e157_10 : decode cJ3_checkIndex_8e157 10 = .ok (.iload_n 0, 1) := by decide +kernel
theorem dJ3_checkIndex_8e157_11 : decode cJ3_checkIndex_8e157 11 = .ok (.iload_n 1, 1) := by decide +kernel
theorem dJ3_checkIndex_8e157_12 : decode cJ3_checkIndex_8e157 12 = .ok (.invokestatic 95, 3) := by decide +kernel
theorem dJ3_checkIndex_8e157_15 : decode cJ3_checkIndex_8e157 15 = .ok (.athrow, 1) := by decide +kernel
theorem dJ3_checkIndex_8e157_16 : decode cJ3_checkIndex_8e157 16 = .ok (.iload_n 0, 1) := by decide +kernel
theorem dJ3_checkIndex_8e157_17 : decode cJ3_checkIndex_8e157 17 = .ok (.ireturn, 1) := by decide +kernel
