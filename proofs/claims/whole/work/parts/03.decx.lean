theorem dX0_init_0 : decode cX0_init 0 = .ok (.aload_n 0, 1) := by decide +kernel
theorem dX0_init_1 : decode cX0_init 1 = .ok (.invokespecial 3, 3) := by decide +kernel
theorem dX0_init_4 : decode cX0_init 4 = .ok (.aload_n 0, 1) := by decide +kernel
theorem dX0_init_5 : decode cX0_init 5 = .ok (.sipush 200, 3) := by decide +kernel
theorem dX0_init_8 : decode cX0_init 8 = .ok (.bipush 14, 2) := by decide +kernel
theorem dX0_init_10 : decode cX0_init 10 = .ok (.multianewarray 9 2, 4) := by decide +kernel
theorem dX0_init_14 : decode cX0_init 14 = .ok (.putfield 11, 3) := by decide +kernel
theorem dX0_init_17 : decode cX0_init 17 = .ok (.aload_n 0, 1) := by decide +kernel
theorem dX0_init_18 : decode cX0_init 18 = .ok (.iconst 0, 1) := by decide +kernel
theorem dX0_init_19 : decode cX0_init 19 = .ok (.putfield 16, 3) := by decide +kernel
theorem dX0_init_22 : decode cX0_init 22 = .ok (.aload_n 0, 1) := by decide +kernel
theorem dX0_init_23 : decode cX0_init 23 = .ok (.sipush 200, 3) := by decide +kernel
theorem dX0_init_26 : decode cX0_init 26 = .ok (.newarray .int, 2) := by decide +kernel
theorem dX0_init_28 : decode cX0_init 28 = .ok (.putfield 20, 3) := by decide +kernel
theorem dX0_init_31 : decode cX0_init 31 = .ok (.aload_n 0, 1) := by decide +kernel
theorem dX0_init_32 : decode cX0_init 32 = .ok (.iconst 0, 1) := by decide +kernel
theorem dX0_init_33 : decode cX0_init 33 = .ok (.putfield 24, 3) := by decide +kernel
theorem dX0_init_36 : decode cX0_init 36 = .ok (.aload_n 0, 1) := by decide +kernel
theorem dX0_init_37 : decode cX0_init 37 = .ok (.sipush 400, 3) := by decide +kernel
theorem dX0_init_40 : decode cX0_init 40 = .ok (.newarray .int, 2) := by decide +kernel
theorem dX0_init_42 : decode cX0_init 42 = .ok (.putfield 27, 3) := by decide +kernel
theorem dX0_init_45 : decode cX0_init 45 = .ok (.aload_n 0, 1) := by decide +kernel
theorem dX0_init_46 : decode cX0_init 46 = .ok (.sipush 400, 3) := by decide +kernel
theorem dX0_init_49 : decode cX0_init 49 = .ok (.newarray .int, 2) := by decide +kernel
theorem dX0_init_51 : decode cX0_init 51 = .ok (.putfield 30, 3) := by decide +kernel
theorem dX0_init_54 : decode cX0_init 54 = .ok (.aload_n 0, 1) := by decide +kernel
theorem dX0_init_55 : decode cX0_init 55 = .ok (.sipush 400, 3) := by decide +kernel
theorem dX0_init_58 : decode cX0_init 58 = .ok (.newarray .int, 2) := by decide +kernel
theorem dX0_init_60 : decode cX0_init 60 = .ok (.putfield 33, 3) := by decide +kernel
theorem dX0_init_63 : decode cX0_init 63 = .ok (.aload_n 0, 1) := by decide +kernel
theorem dX0_init_64 : decode cX0_init 64 = .ok (.iconst 0, 1) := by decide +kernel
theorem dX0_init_65 : decode cX0_init 65 = .ok (.putfield 36, 3) := by decide +kernel
theorem dX0_init_68 : decode cX0_init 68 = .ok (.return_, 1) := by decide +kernel
theorem dX0_has_0 : decode cX0_has 0 = .ok (.iload_n 1, 1) := by decide +kernel
theorem dX0_has_1 : decode cX0_has 1 = .ok (.aload_n 0, 1) := by decide +kernel
theorem dX0_has_2 : decode cX0_has 2 = .ok (.getfield 16, 3) := by decide +kernel
theorem dX0_has_5 : decode cX0_has 5 = .ok (.invokestatic 39, 3) := by decide +kernel
theorem dX0_has_8 : decode cX0_has 8 = .ok (.ireturn, 1) := by decide +kernel
theorem dX0_room_0 : decode cX0_room 0 = .ok (.sipush 200, 3) := by decide +kernel
theorem dX0_room_3 : decode cX0_room 3 = .ok (.aload_n 0, 1) := by decide +kernel
theorem dX0_room_4 : decode cX0_room 4 = .ok (.getfield 16, 3) := by decide +kernel
theorem dX0_room_7 : decode cX0_room 7 = .ok (.isub, 1) := by decide +kernel
theorem dX0_room_8 : decode cX0_room 8 = .ok (.ireturn, 1) := by decide +kernel
theorem dX0_add_0 : decode cX0_add 0 = .ok (.aload_n 0, 1) := by decide +kernel
theorem dX0_add_1 : decode cX0_add 1 = .ok (.getfield 16, 3) := by decide +kernel
theorem dX0_add_4 : decode cX0_add 4 = .ok (.sipush 200, 3) := by decide +kernel
theorem dX0_add_7 : decode cX0_add 7 = .ok (.if_icmp .lt 6, 3) := by decide +kernel
theorem dX0_add_10 : decode cX0_add 10 = .ok (.bipush (-3), 2) := by decide +kernel
theorem dX0_add_12 : decode cX0_add 12 = .ok (.ireturn, 1) := by decide +kernel
theorem dX0_add_13 : decode cX0_add 13 = .ok (.aload_n 0, 1) := by decide +kernel
theorem dX0_add_14 : decode cX0_add 14 = .ok (.getfield 11, 3) := by decide +kernel
theorem dX0_add_17 : decode cX0_add 17 = .ok (.aload_n 0, 1) := by decide +kernel
theorem dX0_add_18 : decode cX0_add 18 = .ok (.getfield 16, 3) := by decide +kernel
theorem dX0_add_21 : decode cX0_add 21 = .ok (.aaload, 1) := by decide +kernel
theorem dX0_add_22 : decode cX0_add 22 = .ok (.astore 5, 2) := by decide +kernel
theorem dX0_add_24 : decode cX0_add 24 = .ok (.aload 5, 2) := by decide +kernel
theorem dX0_add_26 : decode cX0_add 26 = .ok (.iconst 0, 1) := by decide +kernel
theorem dX0_add_27 : decode cX0_add 27 = .ok (.iload_n 1, 1) := by decide +kernel
theorem dX0_add_28 : decode cX0_add 28 = .ok (.iastore, 1) := by decide +kernel
theorem dX0_add_29 : decode cX0_add 29 = .ok (.aload 5, 2) := by decide +kernel
theorem dX0_add_31 : decode cX0_add 31 = .ok (.iconst 1, 1) := by decide +kernel
theorem dX0_add_32 : decode cX0_add 32 = .ok (.iload_n 2, 1) := by decide +kernel
theorem dX0_add_33 : decode cX0_add 33 = .ok (.bipush 100, 2) := by decide +kernel
theorem dX0_add_35 : decode cX0_add 35 = .ok (.idiv, 1) := by decide +kernel
theorem dX0_add_36 : decode cX0_add 36 = .ok (.iastore, 1) := by decide +kernel
theorem dX0_add_37 : decode cX0_add 37 = .ok (.aload 5, 2) := by decide +kernel
theorem dX0_add_39 : decode cX0_add 39 = .ok (.iconst 2, 1) := by decide +kernel
theorem dX0_add_40 : decode cX0_add 40 = .ok (.iload_n 2, 1) := by decide +kernel
theorem dX0_add_41 : decode cX0_add 41 = .ok (.bipush 100, 2) := by decide +kernel
theorem dX0_add_43 : decode cX0_add 43 = .ok (.irem, 1) := by decide +kernel
theorem dX0_add_44 : decode cX0_add 44 = .ok (.iastore, 1) := by decide +kernel
theorem dX0_add_45 : decode cX0_add 45 = .ok (.aload 5, 2) := by decide +kernel
theorem dX0_add_47 : decode cX0_add 47 = .ok (.iconst 3, 1) := by decide +kernel
theorem dX0_add_48 : decode cX0_add 48 = .ok (.iload_n 3, 1) := by decide +kernel
theorem dX0_add_49 : decode cX0_add 49 = .ok (.iastore, 1) := by decide +kernel
theorem dX0_add_50 : decode cX0_add 50 = .ok (.aload 5, 2) := by decide +kernel
theorem dX0_add_52 : decode cX0_add 52 = .ok (.iconst 4, 1) := by decide +kernel
theorem dX0_add_53 : decode cX0_add 53 = .ok (.iload 4, 2) := by decide +kernel
theorem dX0_add_55 : decode cX0_add 55 = .ok (.iastore, 1) := by decide +kernel
theorem dX0_add_56 : decode cX0_add 56 = .ok (.aload 5, 2) := by decide +kernel
theorem dX0_add_58 : decode cX0_add 58 = .ok (.iconst 5, 1) := by decide +kernel
theorem dX0_add_59 : decode cX0_add 59 = .ok (.iload 4, 2) := by decide +kernel
theorem dX0_add_61 : decode cX0_add 61 = .ok (.iastore, 1) := by decide +kernel
theorem dX0_add_62 : decode cX0_add 62 = .ok (.aload 5, 2) := by decide +kernel
theorem dX0_add_64 : decode cX0_add 64 = .ok (.bipush 11, 2) := by decide +kernel
theorem dX0_add_66 : decode cX0_add 66 = .ok (.iconst (-1), 1) := by decide +kernel
theorem dX0_add_67 : decode cX0_add 67 = .ok (.iastore, 1) := by decide +kernel
theorem dX0_add_68 : decode cX0_add 68 = .ok (.aload 5, 2) := by decide +kernel
theorem dX0_add_70 : decode cX0_add 70 = .ok (.bipush 12, 2) := by decide +kernel
theorem dX0_add_72 : decode cX0_add 72 = .ok (.aload_n 0, 1) := by decide +kernel
theorem dX0_add_73 : decode cX0_add 73 = .ok (.getfield 16, 3) := by decide +kernel
theorem dX0_add_76 : decode cX0_add 76 = .ok (.iastore, 1) := by decide +kernel
theorem dX0_add_77 : decode cX0_add 77 = .ok (.aload_n 0, 1) := by decide +kernel
theorem dX0_add_78 : decode cX0_add 78 = .ok (.dup, 1) := by decide +kernel
theorem dX0_add_79 : decode cX0_add 79 = .ok (.getfield 16, 3) := by decide +kernel
theorem dX0_add_82 : decode cX0_add 82 = .ok (.iconst 1, 1) := by decide +kernel
theorem dX0_add_83 : decode cX0_add 83 = .ok (.iadd, 1) := by decide +kernel
theorem dX0_add_84 : decode cX0_add 84 = .ok (.putfield 16, 3) := by decide +kernel
theorem dX0_add_87 : decode cX0_add 87 = .ok (.aload_n 0, 1) := by decide +kernel
theorem dX0_add_88 : decode cX0_add 88 = .ok (.getfield 16, 3) := by decide +kernel
theorem dX0_add_91 : decode cX0_add 91 = .ok (.iconst 1, 1) := by decide +kernel
theorem dX0_add_92 : decode cX0_add 92 = .ok (.isub, 1) := by decide +kernel
theorem dX0_add_93 : decode cX0_add 93 = .ok (.ireturn, 1) := by decide +kernel
theorem dX0_take_0 : decode cX0_take 0 = .ok (.aload_n 0, 1) := by decide +kernel
theorem dX0_take_1 : decode cX0_take 1 = .ok (.getfield 11, 3) := by decide +kernel
theorem dX0_take_4 : decode cX0_take 4 = .ok (.iload_n 1, 1) := by decide +kernel
theorem dX0_take_5 : decode cX0_take 5 = .ok (.aaload, 1) := by decide +kernel
theorem dX0_take_6 : decode cX0_take 6 = .ok (.iconst 5, 1) := by decide +kernel
theorem dX0_take_7 : decode cX0_take 7 = .ok (.dup2, 1) := by decide +kernel
theorem dX0_take_8 : decode cX0_take 8 = .ok (.iaload, 1) := by decide +kernel
theorem dX0_take_9 : decode cX0_take 9 = .ok (.iload_n 2, 1) := by decide +kernel
theorem dX0_take_10 : decode cX0_take 10 = .ok (.isub, 1) := by decide +kernel
theorem dX0_take_11 : decode cX0_take 11 = .ok (.iastore, 1) := by decide +kernel
theorem dX0_take_12 : decode cX0_take 12 = .ok (.aload_n 0, 1) := by decide +kernel
theorem dX0_take_13 : decode cX0_take 13 = .ok (.getfield 11, 3) := by decide +kernel
theorem dX0_take_16 : decode cX0_take 16 = .ok (.iload_n 1, 1) := by decide +kernel
theorem dX0_take_17 : decode cX0_take 17 = .ok (.aaload, 1) := by decide +kernel
theorem dX0_take_18 : decode cX0_take 18 = .ok (.iload_n 3, 1) := by decide +kernel
theorem dX0_take_19 : decode cX0_take 19 = .ok (.dup2, 1) := by decide +kernel
theorem dX0_take_20 : decode cX0_take 20 = .ok (.iaload, 1) := by decide +kernel
theorem dX0_take_21 : decode cX0_take 21 = .ok (.iload_n 2, 1) := by decide +kernel
theorem dX0_take_22 : decode cX0_take 22 = .ok (.iadd, 1) := by decide +kernel
theorem dX0_take_23 : decode cX0_take 23 = .ok (.iastore, 1) := by decide +kernel
theorem dX0_take_24 : decode cX0_take 24 = .ok (.return_, 1) := by decide +kernel
theorem dX0_onShelf_0 : decode cX0_onShelf 0 = .ok (.iconst 0, 1) := by decide +kernel
theorem dX0_onShelf_1 : decode cX0_onShelf 1 = .ok (.istore_n 3, 1) := by decide +kernel
theorem dX0_onShelf_2 : decode cX0_onShelf 2 = .ok (.iconst 0, 1) := by decide +kernel
theorem dX0_onShelf_3 : decode cX0_onShelf 3 = .ok (.istore 4, 2) := by decide +kernel
theorem dX0_onShelf_5 : decode cX0_onShelf 5 = .ok (.iload 4, 2) := by decide +kernel
theorem dX0_onShelf_7 : decode cX0_onShelf 7 = .ok (.aload_n 0, 1) := by decide +kernel
theorem dX0_onShelf_8 : decode cX0_onShelf 8 = .ok (.getfield 16, 3) := by decide +kernel
theorem dX0_onShelf_11 : decode cX0_onShelf 11 = .ok (.if_icmp .ge 47, 3) := by decide +kernel
theorem dX0_onShelf_14 : decode cX0_onShelf 14 = .ok (.aload_n 0, 1) := by decide +kernel
theorem dX0_onShelf_15 : decode cX0_onShelf 15 = .ok (.getfield 11, 3) := by decide +kernel
theorem dX0_onShelf_18 : decode cX0_onShelf 18 = .ok (.iload 4, 2) := by decide +kernel
theorem dX0_onShelf_20 : decode cX0_onShelf 20 = .ok (.aaload, 1) := by decide +kernel
theorem dX0_onShelf_21 : decode cX0_onShelf 21 = .ok (.iconst 0, 1) := by decide +kernel
theorem dX0_onShelf_22 : decode cX0_onShelf 22 = .ok (.iaload, 1) := by decide +kernel
theorem dX0_onShelf_23 : decode cX0_onShelf 23 = .ok (.iload_n 1, 1) := by decide +kernel
theorem dX0_onShelf_24 : decode cX0_onShelf 24 = .ok (.if_icmp .ne 28, 3) := by decide +kernel
theorem dX0_onShelf_27 : decode cX0_onShelf 27 = .ok (.aload_n 0, 1) := by decide +kernel
theorem dX0_onShelf_28 : decode cX0_onShelf 28 = .ok (.getfield 11, 3) := by decide +kernel
theorem dX0_onShelf_31 : decode cX0_onShelf 31 = .ok (.iload 4, 2) := by decide +kernel
theorem dX0_onShelf_33 : decode cX0_onShelf 33 = .ok (.aaload, 1) := by decide +kernel
theorem dX0_onShelf_34 : decode cX0_onShelf 34 = .ok (.iconst 1, 1) := by decide +kernel
theorem dX0_onShelf_35 : decode cX0_onShelf 35 = .ok (.iaload, 1) := by decide +kernel
theorem dX0_onShelf_36 : decode cX0_onShelf 36 = .ok (.iload_n 2, 1) := by decide +kernel
theorem dX0_onShelf_37 : decode cX0_onShelf 37 = .ok (.if_icmp .ne 15, 3) := by decide +kernel
theorem dX0_onShelf_40 : decode cX0_onShelf 40 = .ok (.iload_n 3, 1) := by decide +kernel
theorem dX0_onShelf_41 : decode cX0_onShelf 41 = .ok (.aload_n 0, 1) := by decide +kernel
theorem dX0_onShelf_42 : decode cX0_onShelf 42 = .ok (.getfield 11, 3) := by decide +kernel
theorem dX0_onShelf_45 : decode cX0_onShelf 45 = .ok (.iload 4, 2) := by decide +kernel
theorem dX0_onShelf_47 : decode cX0_onShelf 47 = .ok (.aaload, 1) := by decide +kernel
theorem dX0_onShelf_48 : decode cX0_onShelf 48 = .ok (.iconst 5, 1) := by decide +kernel
theorem dX0_onShelf_49 : decode cX0_onShelf 49 = .ok (.iaload, 1) := by decide +kernel
theorem dX0_onShelf_50 : decode cX0_onShelf 50 = .ok (.iadd, 1) := by decide +kernel
theorem dX0_onShelf_51 : decode cX0_onShelf 51 = .ok (.istore_n 3, 1) := by decide +kernel
theorem dX0_onShelf_52 : decode cX0_onShelf 52 = .ok (.iinc 4 1, 3) := by decide +kernel
theorem dX0_onShelf_55 : decode cX0_onShelf 55 = .ok (.goto (-50), 3) := by decide +kernel
theorem dX0_onShelf_58 : decode cX0_onShelf 58 = .ok (.iload_n 3, 1) := by decide +kernel
theorem dX0_onShelf_59 : decode cX0_onShelf 59 = .ok (.ireturn, 1) := by decide +kernel
theorem dX0_total_0 : decode cX0_total 0 = .ok (.iconst 0, 1) := by decide +kernel
theorem dX0_total_1 : decode cX0_total 1 = .ok (.istore_n 2, 1) := by decide +kernel
theorem dX0_total_2 : decode cX0_total 2 = .ok (.iconst 0, 1) := by decide +kernel
theorem dX0_total_3 : decode cX0_total 3 = .ok (.istore_n 3, 1) := by decide +kernel
theorem dX0_total_4 : decode cX0_total 4 = .ok (.iload_n 3, 1) := by decide +kernel
theorem dX0_total_5 : decode cX0_total 5 = .ok (.aload_n 0, 1) := by decide +kernel
theorem dX0_total_6 : decode cX0_total 6 = .ok (.getfield 16, 3) := by decide +kernel
theorem dX0_total_9 : decode cX0_total 9 = .ok (.if_icmp .ge 20, 3) := by decide +kernel
theorem dX0_total_12 : decode cX0_total 12 = .ok (.iload_n 2, 1) := by decide +kernel
theorem dX0_total_13 : decode cX0_total 13 = .ok (.aload_n 0, 1) := by decide +kernel
theorem dX0_total_14 : decode cX0_total 14 = .ok (.getfield 11, 3) := by decide +kernel
theorem dX0_total_17 : decode cX0_total 17 = .ok (.iload_n 3, 1) := by decide +kernel
theorem dX0_total_18 : decode cX0_total 18 = .ok (.aaload, 1) := by decide +kernel
theorem dX0_total_19 : decode cX0_total 19 = .ok (.iload_n 1, 1) := by decide +kernel
theorem dX0_total_20 : decode cX0_total 20 = .ok (.iaload, 1) := by decide +kernel
theorem dX0_total_21 : decode cX0_total 21 = .ok (.iadd, 1) := by decide +kernel
theorem dX0_total_22 : decode cX0_total 22 = .ok (.istore_n 2, 1) := by decide +kernel
theorem dX0_total_23 : decode cX0_total 23 = .ok (.iinc 3 1, 3) := by decide +kernel
theorem dX0_total_26 : decode cX0_total 26 = .ok (.goto (-22), 3) := by decide +kernel
theorem dX0_total_29 : decode cX0_total 29 = .ok (.iload_n 2, 1) := by decide +kernel
theorem dX0_total_30 : decode cX0_total 30 = .ok (.ireturn, 1) := by decide +kernel
theorem dX0_addToLine_0 : decode cX0_addToLine 0 = .ok (.aload_n 0, 1) := by decide +kernel
theorem dX0_addToLine_1 : decode cX0_addToLine 1 = .ok (.getfield 24, 3) := by decide +kernel
theorem dX0_addToLine_4 : decode cX0_addToLine 4 = .ok (.sipush 200, 3) := by decide +kernel
theorem dX0_addToLine_7 : decode cX0_addToLine 7 = .ok (.if_icmp .lt 4, 3) := by decide +kernel
theorem dX0_addToLine_10 : decode cX0_addToLine 10 = .ok (.return_, 1) := by decide +kernel
theorem dX0_addToLine_11 : decode cX0_addToLine 11 = .ok (.aload_n 0, 1) := by decide +kernel
theorem dX0_addToLine_12 : decode cX0_addToLine 12 = .ok (.getfield 24, 3) := by decide +kernel
theorem dX0_addToLine_15 : decode cX0_addToLine 15 = .ok (.istore_n 2, 1) := by decide +kernel
theorem dX0_addToLine_16 : decode cX0_addToLine 16 = .ok (.iload_n 2, 1) := by decide +kernel
theorem dX0_addToLine_17 : decode cX0_addToLine 17 = .ok (.ifCond .le 49, 3) := by decide +kernel
theorem dX0_addToLine_20 : decode cX0_addToLine 20 = .ok (.aload_n 0, 1) := by decide +kernel
theorem dX0_addToLine_21 : decode cX0_addToLine 21 = .ok (.getfield 11, 3) := by decide +kernel
theorem dX0_addToLine_24 : decode cX0_addToLine 24 = .ok (.aload_n 0, 1) := by decide +kernel
theorem dX0_addToLine_25 : decode cX0_addToLine 25 = .ok (.getfield 20, 3) := by decide +kernel
theorem dX0_addToLine_28 : decode cX0_addToLine 28 = .ok (.iload_n 2, 1) := by decide +kernel
theorem dX0_addToLine_29 : decode cX0_addToLine 29 = .ok (.iconst 1, 1) := by decide +kernel
theorem dX0_addToLine_30 : decode cX0_addToLine 30 = .ok (.isub, 1) := by decide +kernel
theorem dX0_addToLine_31 : decode cX0_addToLine 31 = .ok (.iaload, 1) := by decide +kernel
theorem dX0_addToLine_32 : decode cX0_addToLine 32 = .ok (.aaload, 1) := by decide +kernel
theorem dX0_addToLine_33 : decode cX0_addToLine 33 = .ok (.iconst 3, 1) := by decide +kernel
theorem dX0_addToLine_34 : decode cX0_addToLine 34 = .ok (.iaload, 1) := by decide +kernel
theorem dX0_addToLine_35 : decode cX0_addToLine 35 = .ok (.aload_n 0, 1) := by decide +kernel
theorem dX0_addToLine_36 : decode cX0_addToLine 36 = .ok (.getfield 11, 3) := by decide +kernel
theorem dX0_addToLine_39 : decode cX0_addToLine 39 = .ok (.iload_n 1, 1) := by decide +kernel
theorem dX0_addToLine_40 : decode cX0_addToLine 40 = .ok (.aaload, 1) := by decide +kernel
theorem dX0_addToLine_41 : decode cX0_addToLine 41 = .ok (.iconst 3, 1) := by decide +kernel
theorem dX0_addToLine_42 : decode cX0_addToLine 42 = .ok (.iaload, 1) := by decide +kernel
theorem dX0_addToLine_43 : decode cX0_addToLine 43 = .ok (.if_icmp .le 23, 3) := by decide +kernel
theorem dX0_addToLine_46 : decode cX0_addToLine 46 = .ok (.aload_n 0, 1) := by decide +kernel
theorem dX0_addToLine_47 : decode cX0_addToLine 47 = .ok (.getfield 20, 3) := by decide +kernel
theorem dX0_addToLine_50 : decode cX0_addToLine 50 = .ok (.iload_n 2, 1) := by decide +kernel
theorem dX0_addToLine_51 : decode cX0_addToLine 51 = .ok (.aload_n 0, 1) := by decide +kernel
theorem dX0_addToLine_52 : decode cX0_addToLine 52 = .ok (.getfield 20, 3) := by decide +kernel
theorem dX0_addToLine_55 : decode cX0_addToLine 55 = .ok (.iload_n 2, 1) := by decide +kernel
theorem dX0_addToLine_56 : decode cX0_addToLine 56 = .ok (.iconst 1, 1) := by decide +kernel
theorem dX0_addToLine_57 : decode cX0_addToLine 57 = .ok (.isub, 1) := by decide +kernel
theorem dX0_addToLine_58 : decode cX0_addToLine 58 = .ok (.iaload, 1) := by decide +kernel
theorem dX0_addToLine_59 : decode cX0_addToLine 59 = .ok (.iastore, 1) := by decide +kernel
theorem dX0_addToLine_60 : decode cX0_addToLine 60 = .ok (.iinc 2 (-1), 3) := by decide +kernel
theorem dX0_addToLine_63 : decode cX0_addToLine 63 = .ok (.goto (-47), 3) := by decide +kernel
theorem dX0_addToLine_66 : decode cX0_addToLine 66 = .ok (.aload_n 0, 1) := by decide +kernel
theorem dX0_addToLine_67 : decode cX0_addToLine 67 = .ok (.getfield 20, 3) := by decide +kernel
theorem dX0_addToLine_70 : decode cX0_addToLine 70 = .ok (.iload_n 2, 1) := by decide +kernel
theorem dX0_addToLine_71 : decode cX0_addToLine 71 = .ok (.iload_n 1, 1) := by decide +kernel
theorem dX0_addToLine_72 : decode cX0_addToLine 72 = .ok (.iastore, 1) := by decide +kernel
theorem dX0_addToLine_73 : decode cX0_addToLine 73 = .ok (.aload_n 0, 1) := by decide +kernel
theorem dX0_addToLine_74 : decode cX0_addToLine 74 = .ok (.dup, 1) := by decide +kernel
theorem dX0_addToLine_75 : decode cX0_addToLine 75 = .ok (.getfield 24, 3) := by decide +kernel
theorem dX0_addToLine_78 : decode cX0_addToLine 78 = .ok (.iconst 1, 1) := by decide +kernel
theorem dX0_addToLine_79 : decode cX0_addToLine 79 = .ok (.iadd, 1) := by decide +kernel
theorem dX0_addToLine_80 : decode cX0_addToLine 80 = .ok (.putfield 24, 3) := by decide +kernel
theorem dX0_addToLine_83 : decode cX0_addToLine 83 = .ok (.return_, 1) := by decide +kernel
theorem dX0_takeFromLine_0 : decode cX0_takeFromLine 0 = .ok (.iconst 0, 1) := by decide +kernel
theorem dX0_takeFromLine_1 : decode cX0_takeFromLine 1 = .ok (.istore_n 3, 1) := by decide +kernel
theorem dX0_takeFromLine_2 : decode cX0_takeFromLine 2 = .ok (.iconst 0, 1) := by decide +kernel
theorem dX0_takeFromLine_3 : decode cX0_takeFromLine 3 = .ok (.istore 4, 2) := by decide +kernel
theorem dX0_takeFromLine_5 : decode cX0_takeFromLine 5 = .ok (.iload 4, 2) := by decide +kernel
theorem dX0_takeFromLine_7 : decode cX0_takeFromLine 7 = .ok (.aload_n 0, 1) := by decide +kernel
theorem dX0_takeFromLine_8 : decode cX0_takeFromLine 8 = .ok (.getfield 24, 3) := by decide +kernel
theorem dX0_takeFromLine_11 : decode cX0_takeFromLine 11 = .ok (.if_icmp .ge 55, 3) := by decide +kernel
theorem dX0_takeFromLine_14 : decode cX0_takeFromLine 14 = .ok (.iload_n 3, 1) := by decide +kernel
theorem dX0_takeFromLine_15 : decode cX0_takeFromLine 15 = .ok (.iload_n 1, 1) := by decide +kernel
theorem dX0_takeFromLine_16 : decode cX0_takeFromLine 16 = .ok (.if_icmp .ge 50, 3) := by decide +kernel
theorem dX0_takeFromLine_19 : decode cX0_takeFromLine 19 = .ok (.iload_n 1, 1) := by decide +kernel
theorem dX0_takeFromLine_20 : decode cX0_takeFromLine 20 = .ok (.iload_n 3, 1) := by decide +kernel
theorem dX0_takeFromLine_21 : decode cX0_takeFromLine 21 = .ok (.isub, 1) := by decide +kernel
theorem dX0_takeFromLine_22 : decode cX0_takeFromLine 22 = .ok (.aload_n 0, 1) := by decide +kernel
theorem dX0_takeFromLine_23 : decode cX0_takeFromLine 23 = .ok (.getfield 11, 3) := by decide +kernel
theorem dX0_takeFromLine_26 : decode cX0_takeFromLine 26 = .ok (.aload_n 0, 1) := by decide +kernel
theorem dX0_takeFromLine_27 : decode cX0_takeFromLine 27 = .ok (.getfield 20, 3) := by decide +kernel
theorem dX0_takeFromLine_30 : decode cX0_takeFromLine 30 = .ok (.iload 4, 2) := by decide +kernel
theorem dX0_takeFromLine_32 : decode cX0_takeFromLine 32 = .ok (.iaload, 1) := by decide +kernel
theorem dX0_takeFromLine_33 : decode cX0_takeFromLine 33 = .ok (.aaload, 1) := by decide +kernel
theorem dX0_takeFromLine_34 : decode cX0_takeFromLine 34 = .ok (.iconst 5, 1) := by decide +kernel
theorem dX0_takeFromLine_35 : decode cX0_takeFromLine 35 = .ok (.iaload, 1) := by decide +kernel
theorem dX0_takeFromLine_36 : decode cX0_takeFromLine 36 = .ok (.invokestatic 43, 3) := by decide +kernel
theorem dX0_takeFromLine_39 : decode cX0_takeFromLine 39 = .ok (.istore 5, 2) := by decide +kernel
theorem dX0_takeFromLine_41 : decode cX0_takeFromLine 41 = .ok (.aload_n 0, 1) := by decide +kernel
theorem dX0_takeFromLine_42 : decode cX0_takeFromLine 42 = .ok (.aload_n 0, 1) := by decide +kernel
theorem dX0_takeFromLine_43 : decode cX0_takeFromLine 43 = .ok (.getfield 20, 3) := by decide +kernel
theorem dX0_takeFromLine_46 : decode cX0_takeFromLine 46 = .ok (.iload 4, 2) := by decide +kernel
theorem dX0_takeFromLine_48 : decode cX0_takeFromLine 48 = .ok (.iaload, 1) := by decide +kernel
theorem dX0_takeFromLine_49 : decode cX0_takeFromLine 49 = .ok (.iload 5, 2) := by decide +kernel
theorem dX0_takeFromLine_51 : decode cX0_takeFromLine 51 = .ok (.iload_n 2, 1) := by decide +kernel
theorem dX0_takeFromLine_52 : decode cX0_takeFromLine 52 = .ok (.invokevirtual 49, 3) := by decide +kernel
theorem dX0_takeFromLine_55 : decode cX0_takeFromLine 55 = .ok (.iload_n 3, 1) := by decide +kernel
theorem dX0_takeFromLine_56 : decode cX0_takeFromLine 56 = .ok (.iload 5, 2) := by decide +kernel
theorem dX0_takeFromLine_58 : decode cX0_takeFromLine 58 = .ok (.iadd, 1) := by decide +kernel
theorem dX0_takeFromLine_59 : decode cX0_takeFromLine 59 = .ok (.istore_n 3, 1) := by decide +kernel
theorem dX0_takeFromLine_60 : decode cX0_takeFromLine 60 = .ok (.iinc 4 1, 3) := by decide +kernel
theorem dX0_takeFromLine_63 : decode cX0_takeFromLine 63 = .ok (.goto (-58), 3) := by decide +kernel
theorem dX0_takeFromLine_66 : decode cX0_takeFromLine 66 = .ok (.iload_n 3, 1) := by decide +kernel
theorem dX0_takeFromLine_67 : decode cX0_takeFromLine 67 = .ok (.ireturn, 1) := by decide +kernel
theorem dX0_touchedBy_0 : decode cX0_touchedBy 0 = .ok (.iconst 0, 1) := by decide +kernel
theorem dX0_touchedBy_1 : decode cX0_touchedBy 1 = .ok (.istore_n 2, 1) := by decide +kernel
theorem dX0_touchedBy_2 : decode cX0_touchedBy 2 = .ok (.iconst 0, 1) := by decide +kernel
theorem dX0_touchedBy_3 : decode cX0_touchedBy 3 = .ok (.istore_n 3, 1) := by decide +kernel
theorem dX0_touchedBy_4 : decode cX0_touchedBy 4 = .ok (.iload_n 2, 1) := by decide +kernel
theorem dX0_touchedBy_5 : decode cX0_touchedBy 5 = .ok (.aload_n 0, 1) := by decide +kernel
theorem dX0_touchedBy_6 : decode cX0_touchedBy 6 = .ok (.getfield 24, 3) := by decide +kernel
theorem dX0_touchedBy_9 : decode cX0_touchedBy 9 = .ok (.if_icmp .ge 30, 3) := by decide +kernel
theorem dX0_touchedBy_12 : decode cX0_touchedBy 12 = .ok (.iload_n 3, 1) := by decide +kernel
theorem dX0_touchedBy_13 : decode cX0_touchedBy 13 = .ok (.iload_n 1, 1) := by decide +kernel
theorem dX0_touchedBy_14 : decode cX0_touchedBy 14 = .ok (.if_icmp .ge 25, 3) := by decide +kernel
theorem dX0_touchedBy_17 : decode cX0_touchedBy 17 = .ok (.iload_n 3, 1) := by decide +kernel
theorem dX0_touchedBy_18 : decode cX0_touchedBy 18 = .ok (.aload_n 0, 1) := by decide +kernel
theorem dX0_touchedBy_19 : decode cX0_touchedBy 19 = .ok (.getfield 11, 3) := by decide +kernel
theorem dX0_touchedBy_22 : decode cX0_touchedBy 22 = .ok (.aload_n 0, 1) := by decide +kernel
theorem dX0_touchedBy_23 : decode cX0_touchedBy 23 = .ok (.getfield 20, 3) := by decide +kernel
theorem dX0_touchedBy_26 : decode cX0_touchedBy 26 = .ok (.iload_n 2, 1) := by decide +kernel
theorem dX0_touchedBy_27 : decode cX0_touchedBy 27 = .ok (.iaload, 1) := by decide +kernel
theorem dX0_touchedBy_28 : decode cX0_touchedBy 28 = .ok (.aaload, 1) := by decide +kernel
theorem dX0_touchedBy_29 : decode cX0_touchedBy 29 = .ok (.iconst 5, 1) := by decide +kernel
theorem dX0_touchedBy_30 : decode cX0_touchedBy 30 = .ok (.iaload, 1) := by decide +kernel
theorem dX0_touchedBy_31 : decode cX0_touchedBy 31 = .ok (.iadd, 1) := by decide +kernel
theorem dX0_touchedBy_32 : decode cX0_touchedBy 32 = .ok (.istore_n 3, 1) := by decide +kernel
theorem dX0_touchedBy_33 : decode cX0_touchedBy 33 = .ok (.iinc 2 1, 3) := by decide +kernel
theorem dX0_touchedBy_36 : decode cX0_touchedBy 36 = .ok (.goto (-32), 3) := by decide +kernel
theorem dX0_touchedBy_39 : decode cX0_touchedBy 39 = .ok (.iload_n 2, 1) := by decide +kernel
theorem dX0_touchedBy_40 : decode cX0_touchedBy 40 = .ok (.ireturn, 1) := by decide +kernel
theorem dX0_moveFromLine_0 : decode cX0_moveFromLine 0 = .ok (.iconst 0, 1) := by decide +kernel
theorem dX0_moveFromLine_1 : decode cX0_moveFromLine 1 = .ok (.istore_n 3, 1) := by decide +kernel
theorem dX0_moveFromLine_2 : decode cX0_moveFromLine 2 = .ok (.iconst 0, 1) := by decide +kernel
theorem dX0_moveFromLine_3 : decode cX0_moveFromLine 3 = .ok (.istore 4, 2) := by decide +kernel
theorem dX0_moveFromLine_5 : decode cX0_moveFromLine 5 = .ok (.iload 4, 2) := by decide +kernel
theorem dX0_moveFromLine_7 : decode cX0_moveFromLine 7 = .ok (.aload_n 0, 1) := by decide +kernel
theorem dX0_moveFromLine_8 : decode cX0_moveFromLine 8 = .ok (.getfield 24, 3) := by decide +kernel
theorem dX0_moveFromLine_11 : decode cX0_moveFromLine 11 = .ok (.if_icmp .ge 124, 3) := by decide +kernel
theorem dX0_moveFromLine_14 : decode cX0_moveFromLine 14 = .ok (.iload_n 3, 1) := by decide +kernel
theorem dX0_moveFromLine_15 : decode cX0_moveFromLine 15 = .ok (.iload_n 1, 1) := by decide +kernel
theorem dX0_moveFromLine_16 : decode cX0_moveFromLine 16 = .ok (.if_icmp .ge 119, 3) := by decide +kernel
theorem dX0_moveFromLine_19 : decode cX0_moveFromLine 19 = .ok (.aload_n 0, 1) := by decide +kernel
theorem dX0_moveFromLine_20 : decode cX0_moveFromLine 20 = .ok (.getfield 11, 3) := by decide +kernel
theorem dX0_moveFromLine_23 : decode cX0_moveFromLine 23 = .ok (.aload_n 0, 1) := by decide +kernel
theorem dX0_moveFromLine_24 : decode cX0_moveFromLine 24 = .ok (.getfield 20, 3) := by decide +kernel
theorem dX0_moveFromLine_27 : decode cX0_moveFromLine 27 = .ok (.iload 4, 2) := by decide +kernel
theorem dX0_moveFromLine_29 : decode cX0_moveFromLine 29 = .ok (.iaload, 1) := by decide +kernel
theorem dX0_moveFromLine_30 : decode cX0_moveFromLine 30 = .ok (.aaload, 1) := by decide +kernel
theorem dX0_moveFromLine_31 : decode cX0_moveFromLine 31 = .ok (.astore 5, 2) := by decide +kernel
theorem dX0_moveFromLine_33 : decode cX0_moveFromLine 33 = .ok (.iload_n 1, 1) := by decide +kernel
theorem dX0_moveFromLine_34 : decode cX0_moveFromLine 34 = .ok (.iload_n 3, 1) := by decide +kernel
theorem dX0_moveFromLine_35 : decode cX0_moveFromLine 35 = .ok (.isub, 1) := by decide +kernel
theorem dX0_moveFromLine_36 : decode cX0_moveFromLine 36 = .ok (.aload 5, 2) := by decide +kernel
theorem dX0_moveFromLine_38 : decode cX0_moveFromLine 38 = .ok (.iconst 5, 1) := by decide +kernel
theorem dX0_moveFromLine_39 : decode cX0_moveFromLine 39 = .ok (.iaload, 1) := by decide +kernel
theorem dX0_moveFromLine_40 : decode cX0_moveFromLine 40 = .ok (.invokestatic 43, 3) := by decide +kernel
theorem dX0_moveFromLine_43 : decode cX0_moveFromLine 43 = .ok (.istore 6, 2) := by decide +kernel
theorem dX0_moveFromLine_45 : decode cX0_moveFromLine 45 = .ok (.aload_n 0, 1) := by decide +kernel
theorem dX0_moveFromLine_46 : decode cX0_moveFromLine 46 = .ok (.iload_n 2, 1) := by decide +kernel
theorem dX0_moveFromLine_47 : decode cX0_moveFromLine 47 = .ok (.aload 5, 2) := by decide +kernel
theorem dX0_moveFromLine_49 : decode cX0_moveFromLine 49 = .ok (.iconst 1, 1) := by decide +kernel
theorem dX0_moveFromLine_50 : decode cX0_moveFromLine 50 = .ok (.iaload, 1) := by decide +kernel
theorem dX0_moveFromLine_51 : decode cX0_moveFromLine 51 = .ok (.bipush 100, 2) := by decide +kernel
theorem dX0_moveFromLine_53 : decode cX0_moveFromLine 53 = .ok (.imul, 1) := by decide +kernel
theorem dX0_moveFromLine_54 : decode cX0_moveFromLine 54 = .ok (.aload 5, 2) := by decide +kernel
theorem dX0_moveFromLine_56 : decode cX0_moveFromLine 56 = .ok (.iconst 2, 1) := by decide +kernel
theorem dX0_moveFromLine_57 : decode cX0_moveFromLine 57 = .ok (.iaload, 1) := by decide +kernel
theorem dX0_moveFromLine_58 : decode cX0_moveFromLine 58 = .ok (.iadd, 1) := by decide +kernel
theorem dX0_moveFromLine_59 : decode cX0_moveFromLine 59 = .ok (.aload 5, 2) := by decide +kernel
theorem dX0_moveFromLine_61 : decode cX0_moveFromLine 61 = .ok (.iconst 3, 1) := by decide +kernel
theorem dX0_moveFromLine_62 : decode cX0_moveFromLine 62 = .ok (.iaload, 1) := by decide +kernel
theorem dX0_moveFromLine_63 : decode cX0_moveFromLine 63 = .ok (.iload 6, 2) := by decide +kernel
theorem dX0_moveFromLine_65 : decode cX0_moveFromLine 65 = .ok (.invokevirtual 53, 3) := by decide +kernel
theorem dX0_moveFromLine_68 : decode cX0_moveFromLine 68 = .ok (.istore 7, 2) := by decide +kernel
theorem dX0_moveFromLine_70 : decode cX0_moveFromLine 70 = .ok (.iload 7, 2) := by decide +kernel
theorem dX0_moveFromLine_72 : decode cX0_moveFromLine 72 = .ok (.ifCond .ge 5, 3) := by decide +kernel
theorem dX0_moveFromLine_75 : decode cX0_moveFromLine 75 = .ok (.iload_n 3, 1) := by decide +kernel
theorem dX0_moveFromLine_76 : decode cX0_moveFromLine 76 = .ok (.ireturn, 1) := by decide +kernel
theorem dX0_moveFromLine_77 : decode cX0_moveFromLine 77 = .ok (.aload_n 0, 1) := by decide +kernel
theorem dX0_moveFromLine_78 : decode cX0_moveFromLine 78 = .ok (.getfield 11, 3) := by decide +kernel
theorem dX0_moveFromLine_81 : decode cX0_moveFromLine 81 = .ok (.iload 7, 2) := by decide +kernel
theorem dX0_moveFromLine_83 : decode cX0_moveFromLine 83 = .ok (.aaload, 1) := by decide +kernel
theorem dX0_moveFromLine_84 : decode cX0_moveFromLine 84 = .ok (.bipush 11, 2) := by decide +kernel
theorem dX0_moveFromLine_86 : decode cX0_moveFromLine 86 = .ok (.aload_n 0, 1) := by decide +kernel
theorem dX0_moveFromLine_87 : decode cX0_moveFromLine 87 = .ok (.getfield 20, 3) := by decide +kernel
theorem dX0_moveFromLine_90 : decode cX0_moveFromLine 90 = .ok (.iload 4, 2) := by decide +kernel
theorem dX0_moveFromLine_92 : decode cX0_moveFromLine 92 = .ok (.iaload, 1) := by decide +kernel
theorem dX0_moveFromLine_93 : decode cX0_moveFromLine 93 = .ok (.iastore, 1) := by decide +kernel
theorem dX0_moveFromLine_94 : decode cX0_moveFromLine 94 = .ok (.aload_n 0, 1) := by decide +kernel
theorem dX0_moveFromLine_95 : decode cX0_moveFromLine 95 = .ok (.getfield 11, 3) := by decide +kernel
theorem dX0_moveFromLine_98 : decode cX0_moveFromLine 98 = .ok (.iload 7, 2) := by decide +kernel
theorem dX0_moveFromLine_100 : decode cX0_moveFromLine 100 = .ok (.aaload, 1) := by decide +kernel
theorem dX0_moveFromLine_101 : decode cX0_moveFromLine 101 = .ok (.bipush 12, 2) := by decide +kernel
theorem dX0_moveFromLine_103 : decode cX0_moveFromLine 103 = .ok (.aload 5, 2) := by decide +kernel
theorem dX0_moveFromLine_105 : decode cX0_moveFromLine 105 = .ok (.bipush 12, 2) := by decide +kernel
theorem dX0_moveFromLine_107 : decode cX0_moveFromLine 107 = .ok (.iaload, 1) := by decide +kernel
theorem dX0_moveFromLine_108 : decode cX0_moveFromLine 108 = .ok (.iastore, 1) := by decide +kernel
theorem dX0_moveFromLine_109 : decode cX0_moveFromLine 109 = .ok (.aload_n 0, 1) := by decide +kernel
theorem dX0_moveFromLine_110 : decode cX0_moveFromLine 110 = .ok (.aload_n 0, 1) := by decide +kernel
theorem dX0_moveFromLine_111 : decode cX0_moveFromLine 111 = .ok (.getfield 20, 3) := by decide +kernel
theorem dX0_moveFromLine_114 : decode cX0_moveFromLine 114 = .ok (.iload 4, 2) := by decide +kernel
theorem dX0_moveFromLine_116 : decode cX0_moveFromLine 116 = .ok (.iaload, 1) := by decide +kernel
theorem dX0_moveFromLine_117 : decode cX0_moveFromLine 117 = .ok (.iload 6, 2) := by decide +kernel
theorem dX0_moveFromLine_119 : decode cX0_moveFromLine 119 = .ok (.bipush 7, 2) := by decide +kernel
theorem dX0_moveFromLine_121 : decode cX0_moveFromLine 121 = .ok (.invokevirtual 49, 3) := by decide +kernel
theorem dX0_moveFromLine_124 : decode cX0_moveFromLine 124 = .ok (.iload_n 3, 1) := by decide +kernel
theorem dX0_moveFromLine_125 : decode cX0_moveFromLine 125 = .ok (.iload 6, 2) := by decide +kernel
theorem dX0_moveFromLine_127 : decode cX0_moveFromLine 127 = .ok (.iadd, 1) := by decide +kernel
theorem dX0_moveFromLine_128 : decode cX0_moveFromLine 128 = .ok (.istore_n 3, 1) := by decide +kernel
theorem dX0_moveFromLine_129 : decode cX0_moveFromLine 129 = .ok (.iinc 4 1, 3) := by decide +kernel
theorem dX0_moveFromLine_132 : decode cX0_moveFromLine 132 = .ok (.goto (-127), 3) := by decide +kernel
theorem dX0_moveFromLine_135 : decode cX0_moveFromLine 135 = .ok (.iload_n 3, 1) := by decide +kernel
theorem dX0_moveFromLine_136 : decode cX0_moveFromLine 136 = .ok (.ireturn, 1) := by decide +kernel
theorem dX0_noteSpoiled_0 : decode cX0_noteSpoiled 0 = .ok (.aload_n 0, 1) := by decide +kernel
theorem dX0_noteSpoiled_1 : decode cX0_noteSpoiled 1 = .ok (.getfield 36, 3) := by decide +kernel
theorem dX0_noteSpoiled_4 : decode cX0_noteSpoiled 4 = .ok (.sipush 400, 3) := by decide +kernel
theorem dX0_noteSpoiled_7 : decode cX0_noteSpoiled 7 = .ok (.if_icmp .lt 4, 3) := by decide +kernel
theorem dX0_noteSpoiled_10 : decode cX0_noteSpoiled 10 = .ok (.return_, 1) := by decide +kernel
theorem dX0_noteSpoiled_11 : decode cX0_noteSpoiled 11 = .ok (.aload_n 0, 1) := by decide +kernel
theorem dX0_noteSpoiled_12 : decode cX0_noteSpoiled 12 = .ok (.getfield 11, 3) := by decide +kernel
theorem dX0_noteSpoiled_15 : decode cX0_noteSpoiled 15 = .ok (.iload_n 1, 1) := by decide +kernel
theorem dX0_noteSpoiled_16 : decode cX0_noteSpoiled 16 = .ok (.aaload, 1) := by decide +kernel
theorem dX0_noteSpoiled_17 : decode cX0_noteSpoiled 17 = .ok (.bipush 10, 2) := by decide +kernel
theorem dX0_noteSpoiled_19 : decode cX0_noteSpoiled 19 = .ok (.dup2, 1) := by decide +kernel
theorem dX0_noteSpoiled_20 : decode cX0_noteSpoiled 20 = .ok (.iaload, 1) := by decide +kernel
theorem dX0_noteSpoiled_21 : decode cX0_noteSpoiled 21 = .ok (.iload_n 2, 1) := by decide +kernel
theorem dX0_noteSpoiled_22 : decode cX0_noteSpoiled 22 = .ok (.iadd, 1) := by decide +kernel
theorem dX0_noteSpoiled_23 : decode cX0_noteSpoiled 23 = .ok (.iastore, 1) := by decide +kernel
theorem dX0_noteSpoiled_24 : decode cX0_noteSpoiled 24 = .ok (.aload_n 0, 1) := by decide +kernel
theorem dX0_noteSpoiled_25 : decode cX0_noteSpoiled 25 = .ok (.getfield 27, 3) := by decide +kernel
theorem dX0_noteSpoiled_28 : decode cX0_noteSpoiled 28 = .ok (.aload_n 0, 1) := by decide +kernel
theorem dX0_noteSpoiled_29 : decode cX0_noteSpoiled 29 = .ok (.getfield 36, 3) := by decide +kernel
theorem dX0_noteSpoiled_32 : decode cX0_noteSpoiled 32 = .ok (.aload_n 0, 1) := by decide +kernel
theorem dX0_noteSpoiled_33 : decode cX0_noteSpoiled 33 = .ok (.getfield 11, 3) := by decide +kernel
theorem dX0_noteSpoiled_36 : decode cX0_noteSpoiled 36 = .ok (.iload_n 1, 1) := by decide +kernel
theorem dX0_noteSpoiled_37 : decode cX0_noteSpoiled 37 = .ok (.aaload, 1) := by decide +kernel
theorem dX0_noteSpoiled_38 : decode cX0_noteSpoiled 38 = .ok (.iconst 1, 1) := by decide +kernel
theorem dX0_noteSpoiled_39 : decode cX0_noteSpoiled 39 = .ok (.iaload, 1) := by decide +kernel
theorem dX0_noteSpoiled_40 : decode cX0_noteSpoiled 40 = .ok (.bipush 100, 2) := by decide +kernel
theorem dX0_noteSpoiled_42 : decode cX0_noteSpoiled 42 = .ok (.imul, 1) := by decide +kernel
theorem dX0_noteSpoiled_43 : decode cX0_noteSpoiled 43 = .ok (.aload_n 0, 1) := by decide +kernel
theorem dX0_noteSpoiled_44 : decode cX0_noteSpoiled 44 = .ok (.getfield 11, 3) := by decide +kernel
theorem dX0_noteSpoiled_47 : decode cX0_noteSpoiled 47 = .ok (.iload_n 1, 1) := by decide +kernel
theorem dX0_noteSpoiled_48 : decode cX0_noteSpoiled 48 = .ok (.aaload, 1) := by decide +kernel
theorem dX0_noteSpoiled_49 : decode cX0_noteSpoiled 49 = .ok (.iconst 2, 1) := by decide +kernel
theorem dX0_noteSpoiled_50 : decode cX0_noteSpoiled 50 = .ok (.iaload, 1) := by decide +kernel
theorem dX0_noteSpoiled_51 : decode cX0_noteSpoiled 51 = .ok (.iadd, 1) := by decide +kernel
theorem dX0_noteSpoiled_52 : decode cX0_noteSpoiled 52 = .ok (.iastore, 1) := by decide +kernel
theorem dX0_noteSpoiled_53 : decode cX0_noteSpoiled 53 = .ok (.aload_n 0, 1) := by decide +kernel
theorem dX0_noteSpoiled_54 : decode cX0_noteSpoiled 54 = .ok (.getfield 30, 3) := by decide +kernel
theorem dX0_noteSpoiled_57 : decode cX0_noteSpoiled 57 = .ok (.aload_n 0, 1) := by decide +kernel
theorem dX0_noteSpoiled_58 : decode cX0_noteSpoiled 58 = .ok (.getfield 36, 3) := by decide +kernel
theorem dX0_noteSpoiled_61 : decode cX0_noteSpoiled 61 = .ok (.iload_n 2, 1) := by decide +kernel
theorem dX0_noteSpoiled_62 : decode cX0_noteSpoiled 62 = .ok (.iastore, 1) := by decide +kernel
theorem dX0_noteSpoiled_63 : decode cX0_noteSpoiled 63 = .ok (.aload_n 0, 1) := by decide +kernel
theorem dX0_noteSpoiled_64 : decode cX0_noteSpoiled 64 = .ok (.getfield 33, 3) := by decide +kernel
theorem dX0_noteSpoiled_67 : decode cX0_noteSpoiled 67 = .ok (.aload_n 0, 1) := by decide +kernel
theorem dX0_noteSpoiled_68 : decode cX0_noteSpoiled 68 = .ok (.getfield 36, 3) := by decide +kernel
theorem dX0_noteSpoiled_71 : decode cX0_noteSpoiled 71 = .ok (.iload_n 3, 1) := by decide +kernel
theorem dX0_noteSpoiled_72 : decode cX0_noteSpoiled 72 = .ok (.iastore, 1) := by decide +kernel
theorem dX0_noteSpoiled_73 : decode cX0_noteSpoiled 73 = .ok (.aload_n 0, 1) := by decide +kernel
theorem dX0_noteSpoiled_74 : decode cX0_noteSpoiled 74 = .ok (.dup, 1) := by decide +kernel
theorem dX0_noteSpoiled_75 : decode cX0_noteSpoiled 75 = .ok (.getfield 36, 3) := by decide +kernel
theorem dX0_noteSpoiled_78 : decode cX0_noteSpoiled 78 = .ok (.iconst 1, 1) := by decide +kernel
theorem dX0_noteSpoiled_79 : decode cX0_noteSpoiled 79 = .ok (.iadd, 1) := by decide +kernel
theorem dX0_noteSpoiled_80 : decode cX0_noteSpoiled 80 = .ok (.putfield 36, 3) := by decide +kernel
theorem dX0_noteSpoiled_83 : decode cX0_noteSpoiled 83 = .ok (.return_, 1) := by decide +kernel
theorem dX0_cameBy_0 : decode cX0_cameBy 0 = .ok (.iconst 0, 1) := by decide +kernel
theorem dX0_cameBy_1 : decode cX0_cameBy 1 = .ok (.istore_n 3, 1) := by decide +kernel
theorem dX0_cameBy_2 : decode cX0_cameBy 2 = .ok (.iconst 0, 1) := by decide +kernel
theorem dX0_cameBy_3 : decode cX0_cameBy 3 = .ok (.istore 4, 2) := by decide +kernel
theorem dX0_cameBy_5 : decode cX0_cameBy 5 = .ok (.iload 4, 2) := by decide +kernel
theorem dX0_cameBy_7 : decode cX0_cameBy 7 = .ok (.aload_n 0, 1) := by decide +kernel
theorem dX0_cameBy_8 : decode cX0_cameBy 8 = .ok (.getfield 16, 3) := by decide +kernel
theorem dX0_cameBy_11 : decode cX0_cameBy 11 = .ok (.if_icmp .ge 70, 3) := by decide +kernel
theorem dX0_cameBy_14 : decode cX0_cameBy 14 = .ok (.aload_n 0, 1) := by decide +kernel
theorem dX0_cameBy_15 : decode cX0_cameBy 15 = .ok (.getfield 11, 3) := by decide +kernel
theorem dX0_cameBy_18 : decode cX0_cameBy 18 = .ok (.iload 4, 2) := by decide +kernel
theorem dX0_cameBy_20 : decode cX0_cameBy 20 = .ok (.aaload, 1) := by decide +kernel
theorem dX0_cameBy_21 : decode cX0_cameBy 21 = .ok (.astore 5, 2) := by decide +kernel
theorem dX0_cameBy_23 : decode cX0_cameBy 23 = .ok (.aload 5, 2) := by decide +kernel
theorem dX0_cameBy_25 : decode cX0_cameBy 25 = .ok (.bipush 11, 2) := by decide +kernel
theorem dX0_cameBy_27 : decode cX0_cameBy 27 = .ok (.iaload, 1) := by decide +kernel
theorem dX0_cameBy_28 : decode cX0_cameBy 28 = .ok (.ifCond .ge 16, 3) := by decide +kernel
theorem dX0_cameBy_31 : decode cX0_cameBy 31 = .ok (.aload 5, 2) := by decide +kernel
theorem dX0_cameBy_33 : decode cX0_cameBy 33 = .ok (.bipush 13, 2) := by decide +kernel
theorem dX0_cameBy_35 : decode cX0_cameBy 35 = .ok (.iaload, 1) := by decide +kernel
theorem dX0_cameBy_36 : decode cX0_cameBy 36 = .ok (.iload_n 2, 1) := by decide +kernel
theorem dX0_cameBy_37 : decode cX0_cameBy 37 = .ok (.if_icmp .gt 7, 3) := by decide +kernel
theorem dX0_cameBy_40 : decode cX0_cameBy 40 = .ok (.iconst 1, 1) := by decide +kernel
theorem dX0_cameBy_41 : decode cX0_cameBy 41 = .ok (.goto 4, 3) := by decide +kernel
theorem dX0_cameBy_44 : decode cX0_cameBy 44 = .ok (.iconst 0, 1) := by decide +kernel
theorem dX0_cameBy_45 : decode cX0_cameBy 45 = .ok (.istore 6, 2) := by decide +kernel
theorem dX0_cameBy_47 : decode cX0_cameBy 47 = .ok (.iload 6, 2) := by decide +kernel
theorem dX0_cameBy_49 : decode cX0_cameBy 49 = .ok (.ifCond .eq 26, 3) := by decide +kernel
theorem dX0_cameBy_52 : decode cX0_cameBy 52 = .ok (.aload 5, 2) := by decide +kernel
theorem dX0_cameBy_54 : decode cX0_cameBy 54 = .ok (.iconst 1, 1) := by decide +kernel
theorem dX0_cameBy_55 : decode cX0_cameBy 55 = .ok (.iaload, 1) := by decide +kernel
theorem dX0_cameBy_56 : decode cX0_cameBy 56 = .ok (.bipush 100, 2) := by decide +kernel
theorem dX0_cameBy_58 : decode cX0_cameBy 58 = .ok (.imul, 1) := by decide +kernel
theorem dX0_cameBy_59 : decode cX0_cameBy 59 = .ok (.aload 5, 2) := by decide +kernel
theorem dX0_cameBy_61 : decode cX0_cameBy 61 = .ok (.iconst 2, 1) := by decide +kernel
theorem dX0_cameBy_62 : decode cX0_cameBy 62 = .ok (.iaload, 1) := by decide +kernel
theorem dX0_cameBy_63 : decode cX0_cameBy 63 = .ok (.iadd, 1) := by decide +kernel
theorem dX0_cameBy_64 : decode cX0_cameBy 64 = .ok (.iload_n 1, 1) := by decide +kernel
theorem dX0_cameBy_65 : decode cX0_cameBy 65 = .ok (.if_icmp .ne 10, 3) := by decide +kernel
theorem dX0_cameBy_68 : decode cX0_cameBy 68 = .ok (.iload_n 3, 1) := by decide +kernel
theorem dX0_cameBy_69 : decode cX0_cameBy 69 = .ok (.aload 5, 2) := by decide +kernel
theorem dX0_cameBy_71 : decode cX0_cameBy 71 = .ok (.iconst 4, 1) := by decide +kernel
theorem dX0_cameBy_72 : decode cX0_cameBy 72 = .ok (.iaload, 1) := by decide +kernel
theorem dX0_cameBy_73 : decode cX0_cameBy 73 = .ok (.iadd, 1) := by decide +kernel
theorem dX0_cameBy_74 : decode cX0_cameBy 74 = .ok (.istore_n 3, 1) := by decide +kernel
theorem dX0_cameBy_75 : decode cX0_cameBy 75 = .ok (.iinc 4 1, 3) := by decide +kernel
theorem dX0_cameBy_78 : decode cX0_cameBy 78 = .ok (.goto (-73), 3) := by decide +kernel
theorem dX0_cameBy_81 : decode cX0_cameBy 81 = .ok (.iload_n 3, 1) := by decide +kernel
theorem dX0_cameBy_82 : decode cX0_cameBy 82 = .ok (.ireturn, 1) := by decide +kernel
theorem dX0_spoiledBy_0 : decode cX0_spoiledBy 0 = .ok (.iconst 0, 1) := by decide +kernel
theorem dX0_spoiledBy_1 : decode cX0_spoiledBy 1 = .ok (.istore_n 3, 1) := by decide +kernel
theorem dX0_spoiledBy_2 : decode cX0_spoiledBy 2 = .ok (.iconst 0, 1) := by decide +kernel
theorem dX0_spoiledBy_3 : decode cX0_spoiledBy 3 = .ok (.istore 4, 2) := by decide +kernel
theorem dX0_spoiledBy_5 : decode cX0_spoiledBy 5 = .ok (.iload 4, 2) := by decide +kernel
theorem dX0_spoiledBy_7 : decode cX0_spoiledBy 7 = .ok (.aload_n 0, 1) := by decide +kernel
theorem dX0_spoiledBy_8 : decode cX0_spoiledBy 8 = .ok (.getfield 36, 3) := by decide +kernel
theorem dX0_spoiledBy_11 : decode cX0_spoiledBy 11 = .ok (.if_icmp .ge 41, 3) := by decide +kernel
theorem dX0_spoiledBy_14 : decode cX0_spoiledBy 14 = .ok (.aload_n 0, 1) := by decide +kernel
theorem dX0_spoiledBy_15 : decode cX0_spoiledBy 15 = .ok (.getfield 27, 3) := by decide +kernel
theorem dX0_spoiledBy_18 : decode cX0_spoiledBy 18 = .ok (.iload 4, 2) := by decide +kernel
theorem dX0_spoiledBy_20 : decode cX0_spoiledBy 20 = .ok (.iaload, 1) := by decide +kernel
theorem dX0_spoiledBy_21 : decode cX0_spoiledBy 21 = .ok (.iload_n 1, 1) := by decide +kernel
theorem dX0_spoiledBy_22 : decode cX0_spoiledBy 22 = .ok (.if_icmp .ne 24, 3) := by decide +kernel
theorem dX0_spoiledBy_25 : decode cX0_spoiledBy 25 = .ok (.aload_n 0, 1) := by decide +kernel
theorem dX0_spoiledBy_26 : decode cX0_spoiledBy 26 = .ok (.getfield 33, 3) := by decide +kernel
theorem dX0_spoiledBy_29 : decode cX0_spoiledBy 29 = .ok (.iload 4, 2) := by decide +kernel
theorem dX0_spoiledBy_31 : decode cX0_spoiledBy 31 = .ok (.iaload, 1) := by decide +kernel
theorem dX0_spoiledBy_32 : decode cX0_spoiledBy 32 = .ok (.iload_n 2, 1) := by decide +kernel
theorem dX0_spoiledBy_33 : decode cX0_spoiledBy 33 = .ok (.if_icmp .gt 13, 3) := by decide +kernel
theorem dX0_spoiledBy_36 : decode cX0_spoiledBy 36 = .ok (.iload_n 3, 1) := by decide +kernel
theorem dX0_spoiledBy_37 : decode cX0_spoiledBy 37 = .ok (.aload_n 0, 1) := by decide +kernel
theorem dX0_spoiledBy_38 : decode cX0_spoiledBy 38 = .ok (.getfield 30, 3) := by decide +kernel
theorem dX0_spoiledBy_41 : decode cX0_spoiledBy 41 = .ok (.iload 4, 2) := by decide +kernel
theorem dX0_spoiledBy_43 : decode cX0_spoiledBy 43 = .ok (.iaload, 1) := by decide +kernel
theorem dX0_spoiledBy_44 : decode cX0_spoiledBy 44 = .ok (.iadd, 1) := by decide +kernel
theorem dX0_spoiledBy_45 : decode cX0_spoiledBy 45 = .ok (.istore_n 3, 1) := by decide +kernel
theorem dX0_spoiledBy_46 : decode cX0_spoiledBy 46 = .ok (.iinc 4 1, 3) := by decide +kernel
theorem dX0_spoiledBy_49 : decode cX0_spoiledBy 49 = .ok (.goto (-44), 3) := by decide +kernel
theorem dX0_spoiledBy_52 : decode cX0_spoiledBy 52 = .ok (.iload_n 3, 1) := by decide +kernel
theorem dX0_spoiledBy_53 : decode cX0_spoiledBy 53 = .ok (.ireturn, 1) := by decide +kernel
theorem dX0_isBadLot_0 : decode cX0_isBadLot 0 = .ok (.aload_n 0, 1) := by decide +kernel
theorem dX0_isBadLot_1 : decode cX0_isBadLot 1 = .ok (.iload_n 1, 1) := by decide +kernel
theorem dX0_isBadLot_2 : decode cX0_isBadLot 2 = .ok (.iload_n 2, 1) := by decide +kernel
theorem dX0_isBadLot_3 : decode cX0_isBadLot 3 = .ok (.invokevirtual 57, 3) := by decide +kernel
theorem dX0_isBadLot_6 : decode cX0_isBadLot 6 = .ok (.istore_n 3, 1) := by decide +kernel
theorem dX0_isBadLot_7 : decode cX0_isBadLot 7 = .ok (.iload_n 3, 1) := by decide +kernel
theorem dX0_isBadLot_8 : decode cX0_isBadLot 8 = .ok (.iconst 3, 1) := by decide +kernel
theorem dX0_isBadLot_9 : decode cX0_isBadLot 9 = .ok (.if_icmp .lt 20, 3) := by decide +kernel
theorem dX0_isBadLot_12 : decode cX0_isBadLot 12 = .ok (.iload_n 3, 1) := by decide +kernel
theorem dX0_isBadLot_13 : decode cX0_isBadLot 13 = .ok (.bipush 10, 2) := by decide +kernel
theorem dX0_isBadLot_15 : decode cX0_isBadLot 15 = .ok (.imul, 1) := by decide +kernel
theorem dX0_isBadLot_16 : decode cX0_isBadLot 16 = .ok (.aload_n 0, 1) := by decide +kernel
theorem dX0_isBadLot_17 : decode cX0_isBadLot 17 = .ok (.iload_n 1, 1) := by decide +kernel
theorem dX0_isBadLot_18 : decode cX0_isBadLot 18 = .ok (.iload_n 2, 1) := by decide +kernel
theorem dX0_isBadLot_19 : decode cX0_isBadLot 19 = .ok (.invokevirtual 60, 3) := by decide +kernel
theorem dX0_isBadLot_22 : decode cX0_isBadLot 22 = .ok (.if_icmp .le 7, 3) := by decide +kernel
theorem dX0_isBadLot_25 : decode cX0_isBadLot 25 = .ok (.iconst 1, 1) := by decide +kernel
theorem dX0_isBadLot_26 : decode cX0_isBadLot 26 = .ok (.goto 4, 3) := by decide +kernel
theorem dX0_isBadLot_29 : decode cX0_isBadLot 29 = .ok (.iconst 0, 1) := by decide +kernel
theorem dX0_isBadLot_30 : decode cX0_isBadLot 30 = .ok (.ireturn, 1) := by decide +kernel
theorem dX0_badSince_0 : decode cX0_badSince 0 = .ok (.iconst (-1), 1) := by decide +kernel
theorem dX0_badSince_1 : decode cX0_badSince 1 = .ok (.istore_n 2, 1) := by decide +kernel
theorem dX0_badSince_2 : decode cX0_badSince 2 = .ok (.iconst 0, 1) := by decide +kernel
theorem dX0_badSince_3 : decode cX0_badSince 3 = .ok (.istore_n 3, 1) := by decide +kernel
theorem dX0_badSince_4 : decode cX0_badSince 4 = .ok (.iload_n 3, 1) := by decide +kernel
theorem dX0_badSince_5 : decode cX0_badSince 5 = .ok (.aload_n 0, 1) := by decide +kernel
theorem dX0_badSince_6 : decode cX0_badSince 6 = .ok (.getfield 36, 3) := by decide +kernel
theorem dX0_badSince_9 : decode cX0_badSince 9 = .ok (.if_icmp .ge 47, 3) := by decide +kernel
theorem dX0_badSince_12 : decode cX0_badSince 12 = .ok (.aload_n 0, 1) := by decide +kernel
theorem dX0_badSince_13 : decode cX0_badSince 13 = .ok (.getfield 27, 3) := by decide +kernel
theorem dX0_badSince_16 : decode cX0_badSince 16 = .ok (.iload_n 3, 1) := by decide +kernel
theorem dX0_badSince_17 : decode cX0_badSince 17 = .ok (.iaload, 1) := by decide +kernel
theorem dX0_badSince_18 : decode cX0_badSince 18 = .ok (.iload_n 1, 1) := by decide +kernel
theorem dX0_badSince_19 : decode cX0_badSince 19 = .ok (.if_icmp .ne 31, 3) := by decide +kernel
theorem dX0_badSince_22 : decode cX0_badSince 22 = .ok (.aload_n 0, 1) := by decide +kernel
theorem dX0_badSince_23 : decode cX0_badSince 23 = .ok (.getfield 33, 3) := by decide +kernel
theorem dX0_badSince_26 : decode cX0_badSince 26 = .ok (.iload_n 3, 1) := by decide +kernel
theorem dX0_badSince_27 : decode cX0_badSince 27 = .ok (.iaload, 1) := by decide +kernel
theorem dX0_badSince_28 : decode cX0_badSince 28 = .ok (.iload_n 2, 1) := by decide +kernel
theorem dX0_badSince_29 : decode cX0_badSince 29 = .ok (.if_icmp .le 21, 3) := by decide +kernel
theorem dX0_badSince_32 : decode cX0_badSince 32 = .ok (.aload_n 0, 1) := by decide +kernel
theorem dX0_badSince_33 : decode cX0_badSince 33 = .ok (.getfield 33, 3) := by decide +kernel
theorem dX0_badSince_36 : decode cX0_badSince 36 = .ok (.iload_n 3, 1) := by decide +kernel
theorem dX0_badSince_37 : decode cX0_badSince 37 = .ok (.iaload, 1) := by decide +kernel
theorem dX0_badSince_38 : decode cX0_badSince 38 = .ok (.istore_n 2, 1) := by decide +kernel
theorem dX0_badSince_39 : decode cX0_badSince 39 = .ok (.aload_n 0, 1) := by decide +kernel
theorem dX0_badSince_40 : decode cX0_badSince 40 = .ok (.iload_n 1, 1) := by decide +kernel
theorem dX0_badSince_41 : decode cX0_badSince 41 = .ok (.iload_n 2, 1) := by decide +kernel
theorem dX0_badSince_42 : decode cX0_badSince 42 = .ok (.invokevirtual 63, 3) := by decide +kernel
theorem dX0_badSince_45 : decode cX0_badSince 45 = .ok (.ifCond .eq 5, 3) := by decide +kernel
theorem dX0_badSince_48 : decode cX0_badSince 48 = .ok (.iload_n 2, 1) := by decide +kernel
theorem dX0_badSince_49 : decode cX0_badSince 49 = .ok (.ireturn, 1) := by decide +kernel
theorem dX0_badSince_50 : decode cX0_badSince 50 = .ok (.iinc 3 1, 3) := by decide +kernel
theorem dX0_badSince_53 : decode cX0_badSince 53 = .ok (.goto (-49), 3) := by decide +kernel
theorem dX0_badSince_56 : decode cX0_badSince 56 = .ok (.bipush (-2), 2) := by decide +kernel
theorem dX0_badSince_58 : decode cX0_badSince 58 = .ok (.ireturn, 1) := by decide +kernel
theorem dX1_init_0 : decode cX1_init 0 = .ok (.aload_n 0, 1) := by decide +kernel
theorem dX1_init_1 : decode cX1_init 1 = .ok (.invokespecial 3, 3) := by decide +kernel
theorem dX1_init_4 : decode cX1_init 4 = .ok (.aload_n 0, 1) := by decide +kernel
theorem dX1_init_5 : decode cX1_init 5 = .ok (.bipush 12, 2) := by decide +kernel
theorem dX1_init_7 : decode cX1_init 7 = .ok (.newarray .int, 2) := by decide +kernel
theorem dX1_init_9 : decode cX1_init 9 = .ok (.putfield 9, 3) := by decide +kernel
theorem dX1_init_12 : decode cX1_init 12 = .ok (.aload_n 0, 1) := by decide +kernel
theorem dX1_init_13 : decode cX1_init 13 = .ok (.bipush 12, 2) := by decide +kernel
theorem dX1_init_15 : decode cX1_init 15 = .ok (.newarray .int, 2) := by decide +kernel
theorem dX1_init_17 : decode cX1_init 17 = .ok (.putfield 15, 3) := by decide +kernel
theorem dX1_init_20 : decode cX1_init 20 = .ok (.aload_n 0, 1) := by decide +kernel
theorem dX1_init_21 : decode cX1_init 21 = .ok (.bipush 6, 2) := by decide +kernel
theorem dX1_init_23 : decode cX1_init 23 = .ok (.newarray .int, 2) := by decide +kernel
theorem dX1_init_25 : decode cX1_init 25 = .ok (.putfield 18, 3) := by decide +kernel
theorem dX1_init_28 : decode cX1_init 28 = .ok (.aload_n 0, 1) := by decide +kernel
theorem dX1_init_29 : decode cX1_init 29 = .ok (.bipush 6, 2) := by decide +kernel
theorem dX1_init_31 : decode cX1_init 31 = .ok (.newarray .int, 2) := by decide +kernel
theorem dX1_init_33 : decode cX1_init 33 = .ok (.putfield 21, 3) := by decide +kernel
theorem dX1_init_36 : decode cX1_init 36 = .ok (.aload_n 0, 1) := by decide +kernel
theorem dX1_init_37 : decode cX1_init 37 = .ok (.bipush 64, 2) := by decide +kernel
theorem dX1_init_39 : decode cX1_init 39 = .ok (.newarray .long, 2) := by decide +kernel
theorem dX1_init_41 : decode cX1_init 41 = .ok (.putfield 24, 3) := by decide +kernel
theorem dX1_init_44 : decode cX1_init 44 = .ok (.aload_n 0, 1) := by decide +kernel
theorem dX1_init_45 : decode cX1_init 45 = .ok (.iconst 0, 1) := by decide +kernel
theorem dX1_init_46 : decode cX1_init 46 = .ok (.putfield 28, 3) := by decide +kernel
theorem dX1_init_49 : decode cX1_init 49 = .ok (.return_, 1) := by decide +kernel
theorem dX1_allNeed_0 : decode cX1_allNeed 0 = .ok (.iconst 0, 1) := by decide +kernel
theorem dX1_allNeed_1 : decode cX1_allNeed 1 = .ok (.istore_n 1, 1) := by decide +kernel
theorem dX1_allNeed_2 : decode cX1_allNeed 2 = .ok (.iconst 0, 1) := by decide +kernel
theorem dX1_allNeed_3 : decode cX1_allNeed 3 = .ok (.istore_n 2, 1) := by decide +kernel
theorem dX1_allNeed_4 : decode cX1_allNeed 4 = .ok (.iload_n 2, 1) := by decide +kernel
theorem dX1_allNeed_5 : decode cX1_allNeed 5 = .ok (.bipush 12, 2) := by decide +kernel
theorem dX1_allNeed_7 : decode cX1_allNeed 7 = .ok (.if_icmp .ge 18, 3) := by decide +kernel
theorem dX1_allNeed_10 : decode cX1_allNeed 10 = .ok (.iload_n 1, 1) := by decide +kernel
theorem dX1_allNeed_11 : decode cX1_allNeed 11 = .ok (.aload_n 0, 1) := by decide +kernel
theorem dX1_allNeed_12 : decode cX1_allNeed 12 = .ok (.getfield 15, 3) := by decide +kernel
theorem dX1_allNeed_15 : decode cX1_allNeed 15 = .ok (.iload_n 2, 1) := by decide +kernel
theorem dX1_allNeed_16 : decode cX1_allNeed 16 = .ok (.iaload, 1) := by decide +kernel
theorem dX1_allNeed_17 : decode cX1_allNeed 17 = .ok (.iadd, 1) := by decide +kernel
theorem dX1_allNeed_18 : decode cX1_allNeed 18 = .ok (.istore_n 1, 1) := by decide +kernel
theorem dX1_allNeed_19 : decode cX1_allNeed 19 = .ok (.iinc 2 1, 3) := by decide +kernel
theorem dX1_allNeed_22 : decode cX1_allNeed 22 = .ok (.goto (-18), 3) := by decide +kernel
theorem dX1_allNeed_25 : decode cX1_allNeed 25 = .ok (.iload_n 1, 1) := by decide +kernel
theorem dX1_allNeed_26 : decode cX1_allNeed 26 = .ok (.ireturn, 1) := by decide +kernel
theorem dX1_search_0 : decode cX1_search 0 = .ok (.aload_n 0, 1) := by decide +kernel
theorem dX1_search_1 : decode cX1_search 1 = .ok (.invokevirtual 32, 3) := by decide +kernel
theorem dX1_search_4 : decode cX1_search 4 = .ok (.aload_n 0, 1) := by decide +kernel
theorem dX1_search_5 : decode cX1_search 5 = .ok (.getfield 24, 3) := by decide +kernel
theorem dX1_search_8 : decode cX1_search 8 = .ok (.ldc2_w 35, 3) := by decide +kernel
theorem dX1_search_11 : decode cX1_search 11 = .ok (.invokestatic 37, 3) := by decide +kernel
theorem dX1_search_14 : decode cX1_search 14 = .ok (.aload_n 0, 1) := by decide +kernel
theorem dX1_search_15 : decode cX1_search 15 = .ok (.getfield 24, 3) := by decide +kernel
theorem dX1_search_18 : decode cX1_search 18 = .ok (.iconst 0, 1) := by decide +kernel
theorem dX1_search_19 : decode cX1_search 19 = .ok (.lconst 0, 1) := by decide +kernel
theorem dX1_search_20 : decode cX1_search 20 = .ok (.lastore, 1) := by decide +kernel
theorem dX1_search_21 : decode cX1_search 21 = .ok (.iconst 0, 1) := by decide +kernel
theorem dX1_search_22 : decode cX1_search 22 = .ok (.istore_n 2, 1) := by decide +kernel
theorem dX1_search_23 : decode cX1_search 23 = .ok (.iload_n 2, 1) := by decide +kernel
theorem dX1_search_24 : decode cX1_search 24 = .ok (.aload_n 1, 1) := by decide +kernel
theorem dX1_search_25 : decode cX1_search 25 = .ok (.getfield 43, 3) := by decide +kernel
theorem dX1_search_28 : decode cX1_search 28 = .ok (.if_icmp .ge 33, 3) := by decide +kernel
theorem dX1_search_31 : decode cX1_search 31 = .ok (.iconst 0, 1) := by decide +kernel
theorem dX1_search_32 : decode cX1_search 32 = .ok (.istore_n 3, 1) := by decide +kernel
theorem dX1_search_33 : decode cX1_search 33 = .ok (.iload_n 3, 1) := by decide +kernel
theorem dX1_search_34 : decode cX1_search 34 = .ok (.aload_n 0, 1) := by decide +kernel
theorem dX1_search_35 : decode cX1_search 35 = .ok (.getfield 9, 3) := by decide +kernel
theorem dX1_search_38 : decode cX1_search 38 = .ok (.iload_n 2, 1) := by decide +kernel
theorem dX1_search_39 : decode cX1_search 39 = .ok (.iaload, 1) := by decide +kernel
theorem dX1_search_40 : decode cX1_search 40 = .ok (.if_icmp .ge 15, 3) := by decide +kernel
theorem dX1_search_43 : decode cX1_search 43 = .ok (.aload_n 0, 1) := by decide +kernel
theorem dX1_search_44 : decode cX1_search 44 = .ok (.iload_n 2, 1) := by decide +kernel
theorem dX1_search_45 : decode cX1_search 45 = .ok (.aload_n 1, 1) := by decide +kernel
theorem dX1_search_46 : decode cX1_search 46 = .ok (.invokevirtual 46, 3) := by decide +kernel
theorem dX1_search_49 : decode cX1_search 49 = .ok (.iinc 3 1, 3) := by decide +kernel
theorem dX1_search_52 : decode cX1_search 52 = .ok (.goto (-19), 3) := by decide +kernel
theorem dX1_search_55 : decode cX1_search 55 = .ok (.iinc 2 1, 3) := by decide +kernel
theorem dX1_search_58 : decode cX1_search 58 = .ok (.goto (-35), 3) := by decide +kernel
theorem dX1_search_61 : decode cX1_search 61 = .ok (.aload_n 0, 1) := by decide +kernel
theorem dX1_search_62 : decode cX1_search 62 = .ok (.invokevirtual 50, 3) := by decide +kernel
theorem dX1_search_65 : decode cX1_search 65 = .ok (.lstore_n 2, 1) := by decide +kernel
theorem dX1_search_66 : decode cX1_search 66 = .ok (.iconst 0, 1) := by decide +kernel
theorem dX1_search_67 : decode cX1_search 67 = .ok (.istore 4, 2) := by decide +kernel
theorem dX1_search_69 : decode cX1_search 69 = .ok (.iload 4, 2) := by decide +kernel
theorem dX1_search_71 : decode cX1_search 71 = .ok (.aload_n 0, 1) := by decide +kernel
theorem dX1_search_72 : decode cX1_search 72 = .ok (.getfield 28, 3) := by decide +kernel
theorem dX1_search_75 : decode cX1_search 75 = .ok (.if_icmp .ge 27, 3) := by decide +kernel
theorem dX1_search_78 : decode cX1_search 78 = .ok (.aload_n 0, 1) := by decide +kernel
theorem dX1_search_79 : decode cX1_search 79 = .ok (.getfield 21, 3) := by decide +kernel
theorem dX1_search_82 : decode cX1_search 82 = .ok (.iload 4, 2) := by decide +kernel
theorem dX1_search_84 : decode cX1_search 84 = .ok (.lload_n 2, 1) := by decide +kernel
theorem dX1_search_85 : decode cX1_search 85 = .ok (.iload 4, 2) := by decide +kernel
theorem dX1_search_87 : decode cX1_search 87 = .ok (.invokestatic 54, 3) := by decide +kernel
theorem dX1_search_90 : decode cX1_search 90 = .ok (.lshr, 1) := by decide +kernel
theorem dX1_search_91 : decode cX1_search 91 = .ok (.l2i, 1) := by decide +kernel
theorem dX1_search_92 : decode cX1_search 92 = .ok (.bipush 15, 2) := by decide +kernel
theorem dX1_search_94 : decode cX1_search 94 = .ok (.iand, 1) := by decide +kernel
theorem dX1_search_95 : decode cX1_search 95 = .ok (.iastore, 1) := by decide +kernel
theorem dX1_search_96 : decode cX1_search 96 = .ok (.iinc 4 1, 3) := by decide +kernel
theorem dX1_search_99 : decode cX1_search 99 = .ok (.goto (-30), 3) := by decide +kernel
theorem dX1_search_102 : decode cX1_search 102 = .ok (.lload_n 2, 1) := by decide +kernel
theorem dX1_search_103 : decode cX1_search 103 = .ok (.bipush 24, 2) := by decide +kernel
theorem dX1_search_105 : decode cX1_search 105 = .ok (.lshr, 1) := by decide +kernel
theorem dX1_search_106 : decode cX1_search 106 = .ok (.l2i, 1) := by decide +kernel
theorem dX1_search_107 : decode cX1_search 107 = .ok (.sipush 2047, 3) := by decide +kernel
theorem dX1_search_110 : decode cX1_search 110 = .ok (.iand, 1) := by decide +kernel
theorem dX1_search_111 : decode cX1_search 111 = .ok (.ireturn, 1) := by decide +kernel
theorem dX1_listGoals_0 : decode cX1_listGoals 0 = .ok (.aload_n 0, 1) := by decide +kernel
theorem dX1_listGoals_1 : decode cX1_listGoals 1 = .ok (.iconst 0, 1) := by decide +kernel
theorem dX1_listGoals_2 : decode cX1_listGoals 2 = .ok (.putfield 28, 3) := by decide +kernel
theorem dX1_listGoals_5 : decode cX1_listGoals 5 = .ok (.iconst 0, 1) := by decide +kernel
theorem dX1_listGoals_6 : decode cX1_listGoals 6 = .ok (.istore_n 1, 1) := by decide +kernel
theorem dX1_listGoals_7 : decode cX1_listGoals 7 = .ok (.iload_n 1, 1) := by decide +kernel
theorem dX1_listGoals_8 : decode cX1_listGoals 8 = .ok (.bipush 12, 2) := by decide +kernel
theorem dX1_listGoals_10 : decode cX1_listGoals 10 = .ok (.if_icmp .ge 56, 3) := by decide +kernel
theorem dX1_listGoals_13 : decode cX1_listGoals 13 = .ok (.iconst 0, 1) := by decide +kernel
theorem dX1_listGoals_14 : decode cX1_listGoals 14 = .ok (.istore_n 2, 1) := by decide +kernel
theorem dX1_listGoals_15 : decode cX1_listGoals 15 = .ok (.iload_n 2, 1) := by decide +kernel
theorem dX1_listGoals_16 : decode cX1_listGoals 16 = .ok (.aload_n 0, 1) := by decide +kernel
theorem dX1_listGoals_17 : decode cX1_listGoals 17 = .ok (.getfield 15, 3) := by decide +kernel
theorem dX1_listGoals_20 : decode cX1_listGoals 20 = .ok (.iload_n 1, 1) := by decide +kernel
theorem dX1_listGoals_21 : decode cX1_listGoals 21 = .ok (.iaload, 1) := by decide +kernel
theorem dX1_listGoals_22 : decode cX1_listGoals 22 = .ok (.if_icmp .ge 38, 3) := by decide +kernel
theorem dX1_listGoals_25 : decode cX1_listGoals 25 = .ok (.aload_n 0, 1) := by decide +kernel
theorem dX1_listGoals_26 : decode cX1_listGoals 26 = .ok (.getfield 28, 3) := by decide +kernel
theorem dX1_listGoals_29 : decode cX1_listGoals 29 = .ok (.bipush 6, 2) := by decide +kernel
theorem dX1_listGoals_31 : decode cX1_listGoals 31 = .ok (.if_icmp .ge 29, 3) := by decide +kernel
theorem dX1_listGoals_34 : decode cX1_listGoals 34 = .ok (.aload_n 0, 1) := by decide +kernel
theorem dX1_listGoals_35 : decode cX1_listGoals 35 = .ok (.getfield 18, 3) := by decide +kernel
theorem dX1_listGoals_38 : decode cX1_listGoals 38 = .ok (.aload_n 0, 1) := by decide +kernel
theorem dX1_listGoals_39 : decode cX1_listGoals 39 = .ok (.getfield 28, 3) := by decide +kernel
theorem dX1_listGoals_42 : decode cX1_listGoals 42 = .ok (.iload_n 1, 1) := by decide +kernel
theorem dX1_listGoals_43 : decode cX1_listGoals 43 = .ok (.iastore, 1) := by decide +kernel
theorem dX1_listGoals_44 : decode cX1_listGoals 44 = .ok (.aload_n 0, 1) := by decide +kernel
theorem dX1_listGoals_45 : decode cX1_listGoals 45 = .ok (.dup, 1) := by decide +kernel
theorem dX1_listGoals_46 : decode cX1_listGoals 46 = .ok (.getfield 28, 3) := by decide +kernel
theorem dX1_listGoals_49 : decode cX1_listGoals 49 = .ok (.iconst 1, 1) := by decide +kernel
theorem dX1_listGoals_50 : decode cX1_listGoals 50 = .ok (.iadd, 1) := by decide +kernel
theorem dX1_listGoals_51 : decode cX1_listGoals 51 = .ok (.putfield 28, 3) := by decide +kernel
theorem dX1_listGoals_54 : decode cX1_listGoals 54 = .ok (.iinc 2 1, 3) := by decide +kernel
theorem dX1_listGoals_57 : decode cX1_listGoals 57 = .ok (.goto (-42), 3) := by decide +kernel
theorem dX1_listGoals_60 : decode cX1_listGoals 60 = .ok (.iinc 1 1, 3) := by decide +kernel
theorem dX1_listGoals_63 : decode cX1_listGoals 63 = .ok (.goto (-56), 3) := by decide +kernel
theorem dX1_listGoals_66 : decode cX1_listGoals 66 = .ok (.return_, 1) := by decide +kernel
theorem dX1_shiftOf_0 : decode cX1_shiftOf 0 = .ok (.iconst 4, 1) := by decide +kernel
theorem dX1_shiftOf_1 : decode cX1_shiftOf 1 = .ok (.iconst 5, 1) := by decide +kernel
theorem dX1_shiftOf_2 : decode cX1_shiftOf 2 = .ok (.iload_n 0, 1) := by decide +kernel
theorem dX1_shiftOf_3 : decode cX1_shiftOf 3 = .ok (.isub, 1) := by decide +kernel
theorem dX1_shiftOf_4 : decode cX1_shiftOf 4 = .ok (.imul, 1) := by decide +kernel
theorem dX1_shiftOf_5 : decode cX1_shiftOf 5 = .ok (.ireturn, 1) := by decide +kernel
theorem dX1_sendOne_0 : decode cX1_sendOne 0 = .ok (.iconst 1, 1) := by decide +kernel
theorem dX1_sendOne_1 : decode cX1_sendOne 1 = .ok (.aload_n 0, 1) := by decide +kernel
theorem dX1_sendOne_2 : decode cX1_sendOne 2 = .ok (.getfield 28, 3) := by decide +kernel
theorem dX1_sendOne_5 : decode cX1_sendOne 5 = .ok (.ishl, 1) := by decide +kernel
theorem dX1_sendOne_6 : decode cX1_sendOne 6 = .ok (.iconst 1, 1) := by decide +kernel
theorem dX1_sendOne_7 : decode cX1_sendOne 7 = .ok (.isub, 1) := by decide +kernel
theorem dX1_sendOne_8 : decode cX1_sendOne 8 = .ok (.istore_n 3, 1) := by decide +kernel
theorem dX1_sendOne_9 : decode cX1_sendOne 9 = .ok (.iload_n 3, 1) := by decide +kernel
theorem dX1_sendOne_10 : decode cX1_sendOne 10 = .ok (.ifCond .le 109, 3) := by decide +kernel
theorem dX1_sendOne_13 : decode cX1_sendOne 13 = .ok (.iconst 0, 1) := by decide +kernel
theorem dX1_sendOne_14 : decode cX1_sendOne 14 = .ok (.istore 4, 2) := by decide +kernel
theorem dX1_sendOne_16 : decode cX1_sendOne 16 = .ok (.iload 4, 2) := by decide +kernel
theorem dX1_sendOne_18 : decode cX1_sendOne 18 = .ok (.aload_n 0, 1) := by decide +kernel
theorem dX1_sendOne_19 : decode cX1_sendOne 19 = .ok (.getfield 28, 3) := by decide +kernel
theorem dX1_sendOne_22 : decode cX1_sendOne 22 = .ok (.if_icmp .ge 91, 3) := by decide +kernel
theorem dX1_sendOne_25 : decode cX1_sendOne 25 = .ok (.iload_n 3, 1) := by decide +kernel
theorem dX1_sendOne_26 : decode cX1_sendOne 26 = .ok (.iload 4, 2) := by decide +kernel
theorem dX1_sendOne_28 : decode cX1_sendOne 28 = .ok (.ishr, 1) := by decide +kernel
theorem dX1_sendOne_29 : decode cX1_sendOne 29 = .ok (.iconst 1, 1) := by decide +kernel
theorem dX1_sendOne_30 : decode cX1_sendOne 30 = .ok (.iand, 1) := by decide +kernel
theorem dX1_sendOne_31 : decode cX1_sendOne 31 = .ok (.iconst 1, 1) := by decide +kernel
theorem dX1_sendOne_32 : decode cX1_sendOne 32 = .ok (.if_icmp .ne 75, 3) := by decide +kernel
theorem dX1_sendOne_35 : decode cX1_sendOne 35 = .ok (.aload_n 0, 1) := by decide +kernel
theorem dX1_sendOne_36 : decode cX1_sendOne 36 = .ok (.getfield 18, 3) := by decide +kernel
theorem dX1_sendOne_39 : decode cX1_sendOne 39 = .ok (.iload 4, 2) := by decide +kernel
theorem dX1_sendOne_41 : decode cX1_sendOne 41 = .ok (.iaload, 1) := by decide +kernel
theorem dX1_sendOne_42 : decode cX1_sendOne 42 = .ok (.iload_n 1, 1) := by decide +kernel
theorem dX1_sendOne_43 : decode cX1_sendOne 43 = .ok (.if_icmp .eq 64, 3) := by decide +kernel
theorem dX1_sendOne_46 : decode cX1_sendOne 46 = .ok (.aload_n 2, 1) := by decide +kernel
theorem dX1_sendOne_47 : decode cX1_sendOne 47 = .ok (.iload_n 1, 1) := by decide +kernel
theorem dX1_sendOne_48 : decode cX1_sendOne 48 = .ok (.aload_n 2, 1) := by decide +kernel
theorem dX1_sendOne_49 : decode cX1_sendOne 49 = .ok (.aload_n 0, 1) := by decide +kernel
theorem dX1_sendOne_50 : decode cX1_sendOne 50 = .ok (.getfield 18, 3) := by decide +kernel
theorem dX1_sendOne_53 : decode cX1_sendOne 53 = .ok (.iload 4, 2) := by decide +kernel
theorem dX1_sendOne_55 : decode cX1_sendOne 55 = .ok (.iaload, 1) := by decide +kernel
theorem dX1_sendOne_56 : decode cX1_sendOne 56 = .ok (.invokevirtual 58, 3) := by decide +kernel
theorem dX1_sendOne_59 : decode cX1_sendOne 59 = .ok (.i2l, 1) := by decide +kernel
theorem dX1_sendOne_60 : decode cX1_sendOne 60 = .ok (.lstore 5, 2) := by decide +kernel
theorem dX1_sendOne_62 : decode cX1_sendOne 62 = .ok (.lload 5, 2) := by decide +kernel
theorem dX1_sendOne_64 : decode cX1_sendOne 64 = .ok (.bipush 24, 2) := by decide +kernel
theorem dX1_sendOne_66 : decode cX1_sendOne 66 = .ok (.lshl, 1) := by decide +kernel
theorem dX1_sendOne_67 : decode cX1_sendOne 67 = .ok (.iload_n 1, 1) := by decide +kernel
theorem dX1_sendOne_68 : decode cX1_sendOne 68 = .ok (.i2l, 1) := by decide +kernel
theorem dX1_sendOne_69 : decode cX1_sendOne 69 = .ok (.iload 4, 2) := by decide +kernel
theorem dX1_sendOne_71 : decode cX1_sendOne 71 = .ok (.invokestatic 54, 3) := by decide +kernel
theorem dX1_sendOne_74 : decode cX1_sendOne 74 = .ok (.lshl, 1) := by decide +kernel
theorem dX1_sendOne_75 : decode cX1_sendOne 75 = .ok (.ladd, 1) := by decide +kernel
theorem dX1_sendOne_76 : decode cX1_sendOne 76 = .ok (.lstore 7, 2) := by decide +kernel
theorem dX1_sendOne_78 : decode cX1_sendOne 78 = .ok (.aload_n 0, 1) := by decide +kernel
theorem dX1_sendOne_79 : decode cX1_sendOne 79 = .ok (.getfield 24, 3) := by decide +kernel
theorem dX1_sendOne_82 : decode cX1_sendOne 82 = .ok (.iload_n 3, 1) := by decide +kernel
theorem dX1_sendOne_83 : decode cX1_sendOne 83 = .ok (.aload_n 0, 1) := by decide +kernel
theorem dX1_sendOne_84 : decode cX1_sendOne 84 = .ok (.getfield 24, 3) := by decide +kernel
theorem dX1_sendOne_87 : decode cX1_sendOne 87 = .ok (.iload_n 3, 1) := by decide +kernel
theorem dX1_sendOne_88 : decode cX1_sendOne 88 = .ok (.laload, 1) := by decide +kernel
theorem dX1_sendOne_89 : decode cX1_sendOne 89 = .ok (.aload_n 0, 1) := by decide +kernel
theorem dX1_sendOne_90 : decode cX1_sendOne 90 = .ok (.getfield 24, 3) := by decide +kernel
theorem dX1_sendOne_93 : decode cX1_sendOne 93 = .ok (.iload_n 3, 1) := by decide +kernel
theorem dX1_sendOne_94 : decode cX1_sendOne 94 = .ok (.iconst 1, 1) := by decide +kernel
theorem dX1_sendOne_95 : decode cX1_sendOne 95 = .ok (.iload 4, 2) := by decide +kernel
theorem dX1_sendOne_97 : decode cX1_sendOne 97 = .ok (.ishl, 1) := by decide +kernel
theorem dX1_sendOne_98 : decode cX1_sendOne 98 = .ok (.ixor, 1) := by decide +kernel
theorem dX1_sendOne_99 : decode cX1_sendOne 99 = .ok (.laload, 1) := by decide +kernel
theorem dX1_sendOne_100 : decode cX1_sendOne 100 = .ok (.lload 7, 2) := by decide +kernel
theorem dX1_sendOne_102 : decode cX1_sendOne 102 = .ok (.ladd, 1) := by decide +kernel
theorem dX1_sendOne_103 : decode cX1_sendOne 103 = .ok (.invokestatic 62, 3) := by decide +kernel
theorem dX1_sendOne_106 : decode cX1_sendOne 106 = .ok (.lastore, 1) := by decide +kernel
theorem dX1_sendOne_107 : decode cX1_sendOne 107 = .ok (.iinc 4 1, 3) := by decide +kernel
theorem dX1_sendOne_110 : decode cX1_sendOne 110 = .ok (.goto (-94), 3) := by decide +kernel
theorem dX1_sendOne_113 : decode cX1_sendOne 113 = .ok (.iinc 3 (-1), 3) := by decide +kernel
theorem dX1_sendOne_116 : decode cX1_sendOne 116 = .ok (.goto (-107), 3) := by decide +kernel
theorem dX1_sendOne_119 : decode cX1_sendOne 119 = .ok (.return_, 1) := by decide +kernel
theorem dX1_bestOfAll_0 : decode cX1_bestOfAll 0 = .ok (.ldc2_w 35, 3) := by decide +kernel
theorem dX1_bestOfAll_3 : decode cX1_bestOfAll 3 = .ok (.lstore_n 1, 1) := by decide +kernel
theorem dX1_bestOfAll_4 : decode cX1_bestOfAll 4 = .ok (.iconst 0, 1) := by decide +kernel
theorem dX1_bestOfAll_5 : decode cX1_bestOfAll 5 = .ok (.istore_n 3, 1) := by decide +kernel
theorem dX1_bestOfAll_6 : decode cX1_bestOfAll 6 = .ok (.iload_n 3, 1) := by decide +kernel
theorem dX1_bestOfAll_7 : decode cX1_bestOfAll 7 = .ok (.iconst 1, 1) := by decide +kernel
theorem dX1_bestOfAll_8 : decode cX1_bestOfAll 8 = .ok (.aload_n 0, 1) := by decide +kernel
theorem dX1_bestOfAll_9 : decode cX1_bestOfAll 9 = .ok (.getfield 28, 3) := by decide +kernel
theorem dX1_bestOfAll_12 : decode cX1_bestOfAll 12 = .ok (.ishl, 1) := by decide +kernel
theorem dX1_bestOfAll_13 : decode cX1_bestOfAll 13 = .ok (.if_icmp .ge 69, 3) := by decide +kernel
theorem dX1_bestOfAll_16 : decode cX1_bestOfAll 16 = .ok (.aload_n 0, 1) := by decide +kernel
theorem dX1_bestOfAll_17 : decode cX1_bestOfAll 17 = .ok (.getfield 24, 3) := by decide +kernel
theorem dX1_bestOfAll_20 : decode cX1_bestOfAll 20 = .ok (.iload_n 3, 1) := by decide +kernel
theorem dX1_bestOfAll_21 : decode cX1_bestOfAll 21 = .ok (.laload, 1) := by decide +kernel
theorem dX1_bestOfAll_22 : decode cX1_bestOfAll 22 = .ok (.lstore 4, 2) := by decide +kernel
theorem dX1_bestOfAll_24 : decode cX1_bestOfAll 24 = .ok (.iconst 0, 1) := by decide +kernel
theorem dX1_bestOfAll_25 : decode cX1_bestOfAll 25 = .ok (.istore 6, 2) := by decide +kernel
theorem dX1_bestOfAll_27 : decode cX1_bestOfAll 27 = .ok (.iload 6, 2) := by decide +kernel
theorem dX1_bestOfAll_29 : decode cX1_bestOfAll 29 = .ok (.aload_n 0, 1) := by decide +kernel
theorem dX1_bestOfAll_30 : decode cX1_bestOfAll 30 = .ok (.getfield 28, 3) := by decide +kernel
theorem dX1_bestOfAll_33 : decode cX1_bestOfAll 33 = .ok (.if_icmp .ge 36, 3) := by decide +kernel
theorem dX1_bestOfAll_36 : decode cX1_bestOfAll 36 = .ok (.iload_n 3, 1) := by decide +kernel
theorem dX1_bestOfAll_37 : decode cX1_bestOfAll 37 = .ok (.iload 6, 2) := by decide +kernel
theorem dX1_bestOfAll_39 : decode cX1_bestOfAll 39 = .ok (.ishr, 1) := by decide +kernel
theorem dX1_bestOfAll_40 : decode cX1_bestOfAll 40 = .ok (.iconst 1, 1) := by decide +kernel
theorem dX1_bestOfAll_41 : decode cX1_bestOfAll 41 = .ok (.iand, 1) := by decide +kernel
theorem dX1_bestOfAll_42 : decode cX1_bestOfAll 42 = .ok (.ifCond .ne 21, 3) := by decide +kernel
theorem dX1_bestOfAll_45 : decode cX1_bestOfAll 45 = .ok (.lload 4, 2) := by decide +kernel
theorem dX1_bestOfAll_47 : decode cX1_bestOfAll 47 = .ok (.ldc2_w 68, 3) := by decide +kernel
theorem dX1_bestOfAll_50 : decode cX1_bestOfAll 50 = .ok (.ldc2_w 70, 3) := by decide +kernel
theorem dX1_bestOfAll_53 : decode cX1_bestOfAll 53 = .ok (.iload 6, 2) := by decide +kernel
theorem dX1_bestOfAll_55 : decode cX1_bestOfAll 55 = .ok (.invokestatic 54, 3) := by decide +kernel
theorem dX1_bestOfAll_58 : decode cX1_bestOfAll 58 = .ok (.lshl, 1) := by decide +kernel
theorem dX1_bestOfAll_59 : decode cX1_bestOfAll 59 = .ok (.ladd, 1) := by decide +kernel
theorem dX1_bestOfAll_60 : decode cX1_bestOfAll 60 = .ok (.ladd, 1) := by decide +kernel
theorem dX1_bestOfAll_61 : decode cX1_bestOfAll 61 = .ok (.lstore 4, 2) := by decide +kernel
theorem dX1_bestOfAll_63 : decode cX1_bestOfAll 63 = .ok (.iinc 6 1, 3) := by decide +kernel
theorem dX1_bestOfAll_66 : decode cX1_bestOfAll 66 = .ok (.goto (-39), 3) := by decide +kernel
theorem dX1_bestOfAll_69 : decode cX1_bestOfAll 69 = .ok (.lload_n 1, 1) := by decide +kernel
theorem dX1_bestOfAll_70 : decode cX1_bestOfAll 70 = .ok (.lload 4, 2) := by decide +kernel
theorem dX1_bestOfAll_72 : decode cX1_bestOfAll 72 = .ok (.invokestatic 62, 3) := by decide +kernel
theorem dX1_bestOfAll_75 : decode cX1_bestOfAll 75 = .ok (.lstore_n 1, 1) := by decide +kernel
theorem dX1_bestOfAll_76 : decode cX1_bestOfAll 76 = .ok (.iinc 3 1, 3) := by decide +kernel
theorem dX1_bestOfAll_79 : decode cX1_bestOfAll 79 = .ok (.goto (-73), 3) := by decide +kernel
theorem dX1_bestOfAll_82 : decode cX1_bestOfAll 82 = .ok (.lload_n 1, 1) := by decide +kernel
theorem dX1_bestOfAll_83 : decode cX1_bestOfAll 83 = .ok (.lreturn, 1) := by decide +kernel
theorem dX2_init_0 : decode cX2_init 0 = .ok (.aload_n 0, 1) := by decide +kernel
theorem dX2_init_1 : decode cX2_init 1 = .ok (.invokespecial 3, 3) := by decide +kernel
theorem dX2_init_4 : decode cX2_init 4 = .ok (.aload_n 0, 1) := by decide +kernel
theorem dX2_init_5 : decode cX2_init 5 = .ok (.bipush 14, 2) := by decide +kernel
theorem dX2_init_7 : decode cX2_init 7 = .ok (.iconst 4, 1) := by decide +kernel
theorem dX2_init_8 : decode cX2_init 8 = .ok (.multianewarray 9 2, 4) := by decide +kernel
theorem dX2_init_12 : decode cX2_init 12 = .ok (.putfield 11, 3) := by decide +kernel
theorem dX2_init_15 : decode cX2_init 15 = .ok (.aload_n 0, 1) := by decide +kernel
theorem dX2_init_16 : decode cX2_init 16 = .ok (.iconst 4, 1) := by decide +kernel
theorem dX2_init_17 : decode cX2_init 17 = .ok (.newarray .int, 2) := by decide +kernel
theorem dX2_init_19 : decode cX2_init 19 = .ok (.putfield 16, 3) := by decide +kernel
theorem dX2_init_22 : decode cX2_init 22 = .ok (.aload_n 0, 1) := by decide +kernel
theorem dX2_init_23 : decode cX2_init 23 = .ok (.bipush 14, 2) := by decide +kernel
theorem dX2_init_25 : decode cX2_init 25 = .ok (.newarray .int, 2) := by decide +kernel
theorem dX2_init_27 : decode cX2_init 27 = .ok (.putfield 20, 3) := by decide +kernel
theorem dX2_init_30 : decode cX2_init 30 = .ok (.aload_n 0, 1) := by decide +kernel
theorem dX2_init_31 : decode cX2_init 31 = .ok (.bipush 14, 2) := by decide +kernel
theorem dX2_init_33 : decode cX2_init 33 = .ok (.newarray .int, 2) := by decide +kernel
theorem dX2_init_35 : decode cX2_init 35 = .ok (.putfield 23, 3) := by decide +kernel
theorem dX2_init_38 : decode cX2_init 38 = .ok (.aload_n 0, 1) := by decide +kernel
theorem dX2_init_39 : decode cX2_init 39 = .ok (.iconst 0, 1) := by decide +kernel
theorem dX2_init_40 : decode cX2_init 40 = .ok (.putfield 26, 3) := by decide +kernel
theorem dX2_init_43 : decode cX2_init 43 = .ok (.aload_n 0, 1) := by decide +kernel
theorem dX2_init_44 : decode cX2_init 44 = .ok (.iconst 0, 1) := by decide +kernel
theorem dX2_init_45 : decode cX2_init 45 = .ok (.putfield 30, 3) := by decide +kernel
theorem dX2_init_48 : decode cX2_init 48 = .ok (.aload_n 0, 1) := by decide +kernel
theorem dX2_init_49 : decode cX2_init 49 = .ok (.iconst 0, 1) := by decide +kernel
theorem dX2_init_50 : decode cX2_init 50 = .ok (.putfield 34, 3) := by decide +kernel
theorem dX2_init_53 : decode cX2_init 53 = .ok (.return_, 1) := by decide +kernel
theorem dX2_search_0 : decode cX2_search 0 = .ok (.iconst 0, 1) := by decide +kernel
theorem dX2_search_1 : decode cX2_search 1 = .ok (.iload_n 1, 1) := by decide +kernel
theorem dX2_search_2 : decode cX2_search 2 = .ok (.bipush 6, 2) := by decide +kernel
theorem dX2_search_4 : decode cX2_search 4 = .ok (.isub, 1) := by decide +kernel
theorem dX2_search_5 : decode cX2_search 5 = .ok (.invokestatic 37, 3) := by decide +kernel
theorem dX2_search_8 : decode cX2_search 8 = .ok (.istore 5, 2) := by decide +kernel
theorem dX2_search_10 : decode cX2_search 10 = .ok (.lconst 0, 1) := by decide +kernel
theorem dX2_search_11 : decode cX2_search 11 = .ok (.lstore 6, 2) := by decide +kernel
theorem dX2_search_13 : decode cX2_search 13 = .ok (.aload_n 0, 1) := by decide +kernel
theorem dX2_search_14 : decode cX2_search 14 = .ok (.iconst 0, 1) := by decide +kernel
theorem dX2_search_15 : decode cX2_search 15 = .ok (.putfield 26, 3) := by decide +kernel
theorem dX2_search_18 : decode cX2_search 18 = .ok (.aload_n 0, 1) := by decide +kernel
theorem dX2_search_19 : decode cX2_search 19 = .ok (.iload_n 1, 1) := by decide +kernel
theorem dX2_search_20 : decode cX2_search 20 = .ok (.putfield 30, 3) := by decide +kernel
theorem dX2_search_23 : decode cX2_search 23 = .ok (.aload_n 0, 1) := by decide +kernel
theorem dX2_search_24 : decode cX2_search 24 = .ok (.getfield 20, 3) := by decide +kernel
theorem dX2_search_27 : decode cX2_search 27 = .ok (.iload_n 2, 1) := by decide +kernel
theorem dX2_search_28 : decode cX2_search 28 = .ok (.invokestatic 43, 3) := by decide +kernel
theorem dX2_search_31 : decode cX2_search 31 = .ok (.iconst 0, 1) := by decide +kernel
theorem dX2_search_32 : decode cX2_search 32 = .ok (.istore 8, 2) := by decide +kernel
theorem dX2_search_34 : decode cX2_search 34 = .ok (.iload 8, 2) := by decide +kernel
theorem dX2_search_36 : decode cX2_search 36 = .ok (.sipush 680, 3) := by decide +kernel
theorem dX2_search_39 : decode cX2_search 39 = .ok (.if_icmp .ge 92, 3) := by decide +kernel
theorem dX2_search_42 : decode cX2_search 42 = .ok (.aload_n 0, 1) := by decide +kernel
theorem dX2_search_43 : decode cX2_search 43 = .ok (.iload 5, 2) := by decide +kernel
theorem dX2_search_45 : decode cX2_search 45 = .ok (.iload_n 3, 1) := by decide +kernel
theorem dX2_search_46 : decode cX2_search 46 = .ok (.invokevirtual 49, 3) := by decide +kernel
theorem dX2_search_49 : decode cX2_search 49 = .ok (.istore 9, 2) := by decide +kernel
theorem dX2_search_51 : decode cX2_search 51 = .ok (.aload_n 0, 1) := by decide +kernel
theorem dX2_search_52 : decode cX2_search 52 = .ok (.iload 5, 2) := by decide +kernel
theorem dX2_search_54 : decode cX2_search 54 = .ok (.iload_n 3, 1) := by decide +kernel
theorem dX2_search_55 : decode cX2_search 55 = .ok (.invokevirtual 52, 3) := by decide +kernel
theorem dX2_search_58 : decode cX2_search 58 = .ok (.iload 9, 2) := by decide +kernel
theorem dX2_search_60 : decode cX2_search 60 = .ok (.i2l, 1) := by decide +kernel
theorem dX2_search_61 : decode cX2_search 61 = .ok (.iload 4, 2) := by decide +kernel
theorem dX2_search_63 : decode cX2_search 63 = .ok (.i2l, 1) := by decide +kernel
theorem dX2_search_64 : decode cX2_search 64 = .ok (.lmul, 1) := by decide +kernel
theorem dX2_search_65 : decode cX2_search 65 = .ok (.lsub, 1) := by decide +kernel
theorem dX2_search_66 : decode cX2_search 66 = .ok (.lstore 10, 2) := by decide +kernel
theorem dX2_search_68 : decode cX2_search 68 = .ok (.aload_n 0, 1) := by decide +kernel
theorem dX2_search_69 : decode cX2_search 69 = .ok (.getfield 26, 3) := by decide +kernel
theorem dX2_search_72 : decode cX2_search 72 = .ok (.ifCond .eq 11, 3) := by decide +kernel
theorem dX2_search_75 : decode cX2_search 75 = .ok (.lload 10, 2) := by decide +kernel
theorem dX2_search_77 : decode cX2_search 77 = .ok (.lload 6, 2) := by decide +kernel
theorem dX2_search_79 : decode cX2_search 79 = .ok (.lcmp, 1) := by decide +kernel
theorem dX2_search_80 : decode cX2_search 80 = .ok (.ifCond .le 33, 3) := by decide +kernel
theorem dX2_search_83 : decode cX2_search 83 = .ok (.aload_n 0, 1) := by decide +kernel
theorem dX2_search_84 : decode cX2_search 84 = .ok (.iconst 1, 1) := by decide +kernel
theorem dX2_search_85 : decode cX2_search 85 = .ok (.putfield 26, 3) := by decide +kernel
theorem dX2_search_88 : decode cX2_search 88 = .ok (.lload 10, 2) := by decide +kernel
theorem dX2_search_90 : decode cX2_search 90 = .ok (.lstore 6, 2) := by decide +kernel
theorem dX2_search_92 : decode cX2_search 92 = .ok (.aload_n 0, 1) := by decide +kernel
theorem dX2_search_93 : decode cX2_search 93 = .ok (.iload 9, 2) := by decide +kernel
theorem dX2_search_95 : decode cX2_search 95 = .ok (.putfield 34, 3) := by decide +kernel
theorem dX2_search_98 : decode cX2_search 98 = .ok (.aload_n 0, 1) := by decide +kernel
theorem dX2_search_99 : decode cX2_search 99 = .ok (.getfield 20, 3) := by decide +kernel
theorem dX2_search_102 : decode cX2_search 102 = .ok (.iconst 0, 1) := by decide +kernel
theorem dX2_search_103 : decode cX2_search 103 = .ok (.aload_n 0, 1) := by decide +kernel
theorem dX2_search_104 : decode cX2_search 104 = .ok (.getfield 23, 3) := by decide +kernel
theorem dX2_search_107 : decode cX2_search 107 = .ok (.iconst 0, 1) := by decide +kernel
theorem dX2_search_108 : decode cX2_search 108 = .ok (.bipush 14, 2) := by decide +kernel
theorem dX2_search_110 : decode cX2_search 110 = .ok (.invokestatic 56, 3) := by decide +kernel
theorem dX2_search_113 : decode cX2_search 113 = .ok (.aload_n 0, 1) := by decide +kernel
theorem dX2_search_114 : decode cX2_search 114 = .ok (.iload 5, 2) := by decide +kernel
theorem dX2_search_116 : decode cX2_search 116 = .ok (.invokevirtual 62, 3) := by decide +kernel
theorem dX2_search_119 : decode cX2_search 119 = .ok (.ifCond .ne 6, 3) := by decide +kernel
theorem dX2_search_122 : decode cX2_search 122 = .ok (.goto 9, 3) := by decide +kernel
theorem dX2_search_125 : decode cX2_search 125 = .ok (.iinc 8 1, 3) := by decide +kernel
theorem dX2_search_128 : decode cX2_search 128 = .ok (.goto (-94), 3) := by decide +kernel
theorem dX2_search_131 : decode cX2_search 131 = .ok (.lload 6, 2) := by decide +kernel
theorem dX2_search_133 : decode cX2_search 133 = .ok (.l2i, 1) := by decide +kernel
theorem dX2_search_134 : decode cX2_search 134 = .ok (.ireturn, 1) := by decide +kernel
theorem dX2_coinsBy_0 : decode cX2_coinsBy 0 = .ok (.lconst 0, 1) := by decide +kernel
theorem dX2_coinsBy_1 : decode cX2_coinsBy 1 = .ok (.lstore_n 3, 1) := by decide +kernel
theorem dX2_coinsBy_2 : decode cX2_coinsBy 2 = .ok (.iload_n 2, 1) := by decide +kernel
theorem dX2_coinsBy_3 : decode cX2_coinsBy 3 = .ok (.istore 5, 2) := by decide +kernel
theorem dX2_coinsBy_5 : decode cX2_coinsBy 5 = .ok (.iload_n 1, 1) := by decide +kernel
theorem dX2_coinsBy_6 : decode cX2_coinsBy 6 = .ok (.istore 6, 2) := by decide +kernel
theorem dX2_coinsBy_8 : decode cX2_coinsBy 8 = .ok (.iload 6, 2) := by decide +kernel
theorem dX2_coinsBy_10 : decode cX2_coinsBy 10 = .ok (.bipush 14, 2) := by decide +kernel
theorem dX2_coinsBy_12 : decode cX2_coinsBy 12 = .ok (.if_icmp .ge 58, 3) := by decide +kernel
theorem dX2_coinsBy_15 : decode cX2_coinsBy 15 = .ok (.iload 5, 2) := by decide +kernel
theorem dX2_coinsBy_17 : decode cX2_coinsBy 17 = .ok (.aload_n 0, 1) := by decide +kernel
theorem dX2_coinsBy_18 : decode cX2_coinsBy 18 = .ok (.getfield 11, 3) := by decide +kernel
theorem dX2_coinsBy_21 : decode cX2_coinsBy 21 = .ok (.iload 6, 2) := by decide +kernel
theorem dX2_coinsBy_23 : decode cX2_coinsBy 23 = .ok (.aaload, 1) := by decide +kernel
theorem dX2_coinsBy_24 : decode cX2_coinsBy 24 = .ok (.aload_n 0, 1) := by decide +kernel
theorem dX2_coinsBy_25 : decode cX2_coinsBy 25 = .ok (.getfield 20, 3) := by decide +kernel
theorem dX2_coinsBy_28 : decode cX2_coinsBy 28 = .ok (.iload 6, 2) := by decide +kernel
theorem dX2_coinsBy_30 : decode cX2_coinsBy 30 = .ok (.iaload, 1) := by decide +kernel
theorem dX2_coinsBy_31 : decode cX2_coinsBy 31 = .ok (.iaload, 1) := by decide +kernel
theorem dX2_coinsBy_32 : decode cX2_coinsBy 32 = .ok (.invokestatic 66, 3) := by decide +kernel
theorem dX2_coinsBy_35 : decode cX2_coinsBy 35 = .ok (.istore 7, 2) := by decide +kernel
theorem dX2_coinsBy_37 : decode cX2_coinsBy 37 = .ok (.lload_n 3, 1) := by decide +kernel
theorem dX2_coinsBy_38 : decode cX2_coinsBy 38 = .ok (.iload 7, 2) := by decide +kernel
theorem dX2_coinsBy_40 : decode cX2_coinsBy 40 = .ok (.i2l, 1) := by decide +kernel
theorem dX2_coinsBy_41 : decode cX2_coinsBy 41 = .ok (.aload_n 0, 1) := by decide +kernel
theorem dX2_coinsBy_42 : decode cX2_coinsBy 42 = .ok (.getfield 16, 3) := by decide +kernel
theorem dX2_coinsBy_45 : decode cX2_coinsBy 45 = .ok (.aload_n 0, 1) := by decide +kernel
theorem dX2_coinsBy_46 : decode cX2_coinsBy 46 = .ok (.getfield 20, 3) := by decide +kernel
theorem dX2_coinsBy_49 : decode cX2_coinsBy 49 = .ok (.iload 6, 2) := by decide +kernel
theorem dX2_coinsBy_51 : decode cX2_coinsBy 51 = .ok (.iaload, 1) := by decide +kernel
theorem dX2_coinsBy_52 : decode cX2_coinsBy 52 = .ok (.iaload, 1) := by decide +kernel
theorem dX2_coinsBy_53 : decode cX2_coinsBy 53 = .ok (.i2l, 1) := by decide +kernel
theorem dX2_coinsBy_54 : decode cX2_coinsBy 54 = .ok (.lmul, 1) := by decide +kernel
theorem dX2_coinsBy_55 : decode cX2_coinsBy 55 = .ok (.ladd, 1) := by decide +kernel
theorem dX2_coinsBy_56 : decode cX2_coinsBy 56 = .ok (.lstore_n 3, 1) := by decide +kernel
theorem dX2_coinsBy_57 : decode cX2_coinsBy 57 = .ok (.iload 5, 2) := by decide +kernel
theorem dX2_coinsBy_59 : decode cX2_coinsBy 59 = .ok (.iload 7, 2) := by decide +kernel
theorem dX2_coinsBy_61 : decode cX2_coinsBy 61 = .ok (.isub, 1) := by decide +kernel
theorem dX2_coinsBy_62 : decode cX2_coinsBy 62 = .ok (.istore 5, 2) := by decide +kernel
theorem dX2_coinsBy_64 : decode cX2_coinsBy 64 = .ok (.iinc 6 1, 3) := by decide +kernel
theorem dX2_coinsBy_67 : decode cX2_coinsBy 67 = .ok (.goto (-59), 3) := by decide +kernel
theorem dX2_coinsBy_70 : decode cX2_coinsBy 70 = .ok (.lload_n 3, 1) := by decide +kernel
theorem dX2_coinsBy_71 : decode cX2_coinsBy 71 = .ok (.lreturn, 1) := by decide +kernel
theorem dX2_unsoldBy_0 : decode cX2_unsoldBy 0 = .ok (.iload_n 2, 1) := by decide +kernel
theorem dX2_unsoldBy_1 : decode cX2_unsoldBy 1 = .ok (.istore_n 3, 1) := by decide +kernel
theorem dX2_unsoldBy_2 : decode cX2_unsoldBy 2 = .ok (.iload_n 1, 1) := by decide +kernel
theorem dX2_unsoldBy_3 : decode cX2_unsoldBy 3 = .ok (.istore 4, 2) := by decide +kernel
theorem dX2_unsoldBy_5 : decode cX2_unsoldBy 5 = .ok (.iload 4, 2) := by decide +kernel
theorem dX2_unsoldBy_7 : decode cX2_unsoldBy 7 = .ok (.bipush 14, 2) := by decide +kernel
theorem dX2_unsoldBy_9 : decode cX2_unsoldBy 9 = .ok (.if_icmp .ge 31, 3) := by decide +kernel
theorem dX2_unsoldBy_12 : decode cX2_unsoldBy 12 = .ok (.iload_n 3, 1) := by decide +kernel
theorem dX2_unsoldBy_13 : decode cX2_unsoldBy 13 = .ok (.iload_n 3, 1) := by decide +kernel
theorem dX2_unsoldBy_14 : decode cX2_unsoldBy 14 = .ok (.aload_n 0, 1) := by decide +kernel
theorem dX2_unsoldBy_15 : decode cX2_unsoldBy 15 = .ok (.getfield 11, 3) := by decide +kernel
theorem dX2_unsoldBy_18 : decode cX2_unsoldBy 18 = .ok (.iload 4, 2) := by decide +kernel
theorem dX2_unsoldBy_20 : decode cX2_unsoldBy 20 = .ok (.aaload, 1) := by decide +kernel
theorem dX2_unsoldBy_21 : decode cX2_unsoldBy 21 = .ok (.aload_n 0, 1) := by decide +kernel
theorem dX2_unsoldBy_22 : decode cX2_unsoldBy 22 = .ok (.getfield 20, 3) := by decide +kernel
theorem dX2_unsoldBy_25 : decode cX2_unsoldBy 25 = .ok (.iload 4, 2) := by decide +kernel
theorem dX2_unsoldBy_27 : decode cX2_unsoldBy 27 = .ok (.iaload, 1) := by decide +kernel
theorem dX2_unsoldBy_28 : decode cX2_unsoldBy 28 = .ok (.iaload, 1) := by decide +kernel
theorem dX2_unsoldBy_29 : decode cX2_unsoldBy 29 = .ok (.invokestatic 66, 3) := by decide +kernel
theorem dX2_unsoldBy_32 : decode cX2_unsoldBy 32 = .ok (.isub, 1) := by decide +kernel
theorem dX2_unsoldBy_33 : decode cX2_unsoldBy 33 = .ok (.istore_n 3, 1) := by decide +kernel
theorem dX2_unsoldBy_34 : decode cX2_unsoldBy 34 = .ok (.iinc 4 1, 3) := by decide +kernel
theorem dX2_unsoldBy_37 : decode cX2_unsoldBy 37 = .ok (.goto (-32), 3) := by decide +kernel
theorem dX2_unsoldBy_40 : decode cX2_unsoldBy 40 = .ok (.iload_n 3, 1) := by decide +kernel
theorem dX2_unsoldBy_41 : decode cX2_unsoldBy 41 = .ok (.ireturn, 1) := by decide +kernel
theorem dX2_stepOn_0 : decode cX2_stepOn 0 = .ok (.bipush 13, 2) := by decide +kernel
theorem dX2_stepOn_2 : decode cX2_stepOn 2 = .ok (.istore_n 2, 1) := by decide +kernel
theorem dX2_stepOn_3 : decode cX2_stepOn 3 = .ok (.iload_n 2, 1) := by decide +kernel
theorem dX2_stepOn_4 : decode cX2_stepOn 4 = .ok (.iload_n 1, 1) := by decide +kernel
theorem dX2_stepOn_5 : decode cX2_stepOn 5 = .ok (.if_icmp .lt 34, 3) := by decide +kernel
theorem dX2_stepOn_8 : decode cX2_stepOn 8 = .ok (.aload_n 0, 1) := by decide +kernel
theorem dX2_stepOn_9 : decode cX2_stepOn 9 = .ok (.getfield 20, 3) := by decide +kernel
theorem dX2_stepOn_12 : decode cX2_stepOn 12 = .ok (.iload_n 2, 1) := by decide +kernel
theorem dX2_stepOn_13 : decode cX2_stepOn 13 = .ok (.iaload, 1) := by decide +kernel
theorem dX2_stepOn_14 : decode cX2_stepOn 14 = .ok (.iconst 3, 1) := by decide +kernel
theorem dX2_stepOn_15 : decode cX2_stepOn 15 = .ok (.if_icmp .ge 18, 3) := by decide +kernel
theorem dX2_stepOn_18 : decode cX2_stepOn 18 = .ok (.aload_n 0, 1) := by decide +kernel
theorem dX2_stepOn_19 : decode cX2_stepOn 19 = .ok (.iload_n 2, 1) := by decide +kernel
theorem dX2_stepOn_20 : decode cX2_stepOn 20 = .ok (.aload_n 0, 1) := by decide +kernel
theorem dX2_stepOn_21 : decode cX2_stepOn 21 = .ok (.getfield 20, 3) := by decide +kernel
theorem dX2_stepOn_24 : decode cX2_stepOn 24 = .ok (.iload_n 2, 1) := by decide +kernel
theorem dX2_stepOn_25 : decode cX2_stepOn 25 = .ok (.iaload, 1) := by decide +kernel
theorem dX2_stepOn_26 : decode cX2_stepOn 26 = .ok (.iconst 1, 1) := by decide +kernel
theorem dX2_stepOn_27 : decode cX2_stepOn 27 = .ok (.iadd, 1) := by decide +kernel
theorem dX2_stepOn_28 : decode cX2_stepOn 28 = .ok (.invokevirtual 69, 3) := by decide +kernel
theorem dX2_stepOn_31 : decode cX2_stepOn 31 = .ok (.iconst 1, 1) := by decide +kernel
theorem dX2_stepOn_32 : decode cX2_stepOn 32 = .ok (.ireturn, 1) := by decide +kernel
theorem dX2_stepOn_33 : decode cX2_stepOn 33 = .ok (.iinc 2 (-1), 3) := by decide +kernel
theorem dX2_stepOn_36 : decode cX2_stepOn 36 = .ok (.goto (-33), 3) := by decide +kernel
theorem dX2_stepOn_39 : decode cX2_stepOn 39 = .ok (.iconst 0, 1) := by decide +kernel
theorem dX2_stepOn_40 : decode cX2_stepOn 40 = .ok (.ireturn, 1) := by decide +kernel
theorem dX2_raiseFrom_0 : decode cX2_raiseFrom 0 = .ok (.iload_n 1, 1) := by decide +kernel
theorem dX2_raiseFrom_1 : decode cX2_raiseFrom 1 = .ok (.istore_n 3, 1) := by decide +kernel
theorem dX2_raiseFrom_2 : decode cX2_raiseFrom 2 = .ok (.iload_n 3, 1) := by decide +kernel
theorem dX2_raiseFrom_3 : decode cX2_raiseFrom 3 = .ok (.bipush 14, 2) := by decide +kernel
theorem dX2_raiseFrom_5 : decode cX2_raiseFrom 5 = .ok (.if_icmp .ge 16, 3) := by decide +kernel
theorem dX2_raiseFrom_8 : decode cX2_raiseFrom 8 = .ok (.aload_n 0, 1) := by decide +kernel
theorem dX2_raiseFrom_9 : decode cX2_raiseFrom 9 = .ok (.getfield 20, 3) := by decide +kernel
theorem dX2_raiseFrom_12 : decode cX2_raiseFrom 12 = .ok (.iload_n 3, 1) := by decide +kernel
theorem dX2_raiseFrom_13 : decode cX2_raiseFrom 13 = .ok (.iload_n 2, 1) := by decide +kernel
theorem dX2_raiseFrom_14 : decode cX2_raiseFrom 14 = .ok (.iastore, 1) := by decide +kernel
theorem dX2_raiseFrom_15 : decode cX2_raiseFrom 15 = .ok (.iinc 3 1, 3) := by decide +kernel
theorem dX2_raiseFrom_18 : decode cX2_raiseFrom 18 = .ok (.goto (-16), 3) := by decide +kernel
theorem dX2_raiseFrom_21 : decode cX2_raiseFrom 21 = .ok (.return_, 1) := by decide +kernel
theorem dX3_init_0 : decode cX3_init 0 = .ok (.aload_n 0, 1) := by decide +kernel
theorem dX3_init_1 : decode cX3_init 1 = .ok (.invokespecial 3, 3) := by decide +kernel
theorem dX3_init_4 : decode cX3_init 4 = .ok (.aload_n 0, 1) := by decide +kernel
theorem dX3_init_5 : decode cX3_init 5 = .ok (.sipush 1500, 3) := by decide +kernel
theorem dX3_init_8 : decode cX3_init 8 = .ok (.newarray .int, 2) := by decide +kernel
theorem dX3_init_10 : decode cX3_init 10 = .ok (.putfield 9, 3) := by decide +kernel
theorem dX3_init_13 : decode cX3_init 13 = .ok (.aload_n 0, 1) := by decide +kernel
theorem dX3_init_14 : decode cX3_init 14 = .ok (.sipush 1500, 3) := by decide +kernel
theorem dX3_init_17 : decode cX3_init 17 = .ok (.newarray .int, 2) := by decide +kernel
theorem dX3_init_19 : decode cX3_init 19 = .ok (.putfield 15, 3) := by decide +kernel
theorem dX3_init_22 : decode cX3_init 22 = .ok (.aload_n 0, 1) := by decide +kernel
theorem dX3_init_23 : decode cX3_init 23 = .ok (.iconst 0, 1) := by decide +kernel
theorem dX3_init_24 : decode cX3_init 24 = .ok (.putfield 18, 3) := by decide +kernel
theorem dX3_init_27 : decode cX3_init 27 = .ok (.return_, 1) := by decide +kernel
theorem dX3_today_0 : decode cX3_today 0 = .ok (.aload_n 0, 1) := by decide +kernel
theorem dX3_today_1 : decode cX3_today 1 = .ok (.getfield 18, 3) := by decide +kernel
theorem dX3_today_4 : decode cX3_today 4 = .ok (.bipush 24, 2) := by decide +kernel
theorem dX3_today_6 : decode cX3_today 6 = .ok (.idiv, 1) := by decide +kernel
theorem dX3_today_7 : decode cX3_today 7 = .ok (.ireturn, 1) := by decide +kernel
theorem dX3_hourOfDay_0 : decode cX3_hourOfDay 0 = .ok (.aload_n 0, 1) := by decide +kernel
theorem dX3_hourOfDay_1 : decode cX3_hourOfDay 1 = .ok (.getfield 18, 3) := by decide +kernel
theorem dX3_hourOfDay_4 : decode cX3_hourOfDay 4 = .ok (.bipush 24, 2) := by decide +kernel
theorem dX3_hourOfDay_6 : decode cX3_hourOfDay 6 = .ok (.irem, 1) := by decide +kernel
theorem dX3_hourOfDay_7 : decode cX3_hourOfDay 7 = .ok (.ireturn, 1) := by decide +kernel
theorem dX3_isOpen_0 : decode cX3_isOpen 0 = .ok (.bipush 6, 2) := by decide +kernel
theorem dX3_isOpen_2 : decode cX3_isOpen 2 = .ok (.aload_n 0, 1) := by decide +kernel
theorem dX3_isOpen_3 : decode cX3_isOpen 3 = .ok (.invokevirtual 22, 3) := by decide +kernel
theorem dX3_isOpen_6 : decode cX3_isOpen 6 = .ok (.bipush 19, 2) := by decide +kernel
theorem dX3_isOpen_8 : decode cX3_isOpen 8 = .ok (.invokestatic 26, 3) := by decide +kernel
theorem dX3_isOpen_11 : decode cX3_isOpen 11 = .ok (.ireturn, 1) := by decide +kernel
theorem dX3_weatherNow_0 : decode cX3_weatherNow 0 = .ok (.aload_n 0, 1) := by decide +kernel
theorem dX3_weatherNow_1 : decode cX3_weatherNow 1 = .ok (.getfield 9, 3) := by decide +kernel
theorem dX3_weatherNow_4 : decode cX3_weatherNow 4 = .ok (.aload_n 0, 1) := by decide +kernel
theorem dX3_weatherNow_5 : decode cX3_weatherNow 5 = .ok (.invokevirtual 30, 3) := by decide +kernel
theorem dX3_weatherNow_8 : decode cX3_weatherNow 8 = .ok (.iaload, 1) := by decide +kernel
theorem dX3_weatherNow_9 : decode cX3_weatherNow 9 = .ok (.ireturn, 1) := by decide +kernel
theorem dX4_init_0 : decode cX4_init 0 = .ok (.aload_n 0, 1) := by decide +kernel
theorem dX4_init_1 : decode cX4_init 1 = .ok (.invokespecial 1, 3) := by decide +kernel
theorem dX4_init_4 : decode cX4_init 4 = .ok (.aload_n 0, 1) := by decide +kernel
theorem dX4_init_5 : decode cX4_init 5 = .ok (.iconst 0, 1) := by decide +kernel
theorem dX4_init_6 : decode cX4_init 6 = .ok (.putfield 7, 3) := by decide +kernel
theorem dX4_init_9 : decode cX4_init 9 = .ok (.aload_n 0, 1) := by decide +kernel
theorem dX4_init_10 : decode cX4_init 10 = .ok (.iconst 0, 1) := by decide +kernel
theorem dX4_init_11 : decode cX4_init 11 = .ok (.putfield 13, 3) := by decide +kernel
theorem dX4_init_14 : decode cX4_init 14 = .ok (.aload_n 0, 1) := by decide +kernel
theorem dX4_init_15 : decode cX4_init 15 = .ok (.iconst 0, 1) := by decide +kernel
theorem dX4_init_16 : decode cX4_init 16 = .ok (.putfield 16, 3) := by decide +kernel
theorem dX4_init_19 : decode cX4_init 19 = .ok (.aload_n 0, 1) := by decide +kernel
theorem dX4_init_20 : decode cX4_init 20 = .ok (.iconst 0, 1) := by decide +kernel
theorem dX4_init_21 : decode cX4_init 21 = .ok (.putfield 19, 3) := by decide +kernel
theorem dX4_init_24 : decode cX4_init 24 = .ok (.aload_n 0, 1) := by decide +kernel
theorem dX4_init_25 : decode cX4_init 25 = .ok (.iconst 0, 1) := by decide +kernel
theorem dX4_init_26 : decode cX4_init 26 = .ok (.putfield 22, 3) := by decide +kernel
theorem dX4_init_29 : decode cX4_init 29 = .ok (.aload_n 0, 1) := by decide +kernel
theorem dX4_init_30 : decode cX4_init 30 = .ok (.iconst 0, 1) := by decide +kernel
theorem dX4_init_31 : decode cX4_init 31 = .ok (.putfield 25, 3) := by decide +kernel
theorem dX4_init_34 : decode cX4_init 34 = .ok (.aload_n 0, 1) := by decide +kernel
theorem dX4_init_35 : decode cX4_init 35 = .ok (.iconst 0, 1) := by decide +kernel
theorem dX4_init_36 : decode cX4_init 36 = .ok (.putfield 28, 3) := by decide +kernel
theorem dX4_init_39 : decode cX4_init 39 = .ok (.aload_n 0, 1) := by decide +kernel
theorem dX4_init_40 : decode cX4_init 40 = .ok (.iconst 0, 1) := by decide +kernel
theorem dX4_init_41 : decode cX4_init 41 = .ok (.putfield 31, 3) := by decide +kernel
theorem dX4_init_44 : decode cX4_init 44 = .ok (.return_, 1) := by decide +kernel
theorem dX4_named_0 : decode cX4_named 0 = .ok (.iload_n 1, 1) := by decide +kernel
theorem dX4_named_1 : decode cX4_named 1 = .ok (.tableswitch 147 97 119 #[107, 147, 117, 147, 147, 147, 147, 127, 147, 147, 112, 147, 147, 137, 147, 132, 147, 147, 142, 147, 147, 147, 122], 107) := by decide +kernel
theorem dX4_named_108 : decode cX4_named 108 = .ok (.aload_n 0, 1) := by decide +kernel
theorem dX4_named_109 : decode cX4_named 109 = .ok (.getfield 7, 3) := by decide +kernel
theorem dX4_named_112 : decode cX4_named 112 = .ok (.ireturn, 1) := by decide +kernel
theorem dX4_named_113 : decode cX4_named 113 = .ok (.aload_n 0, 1) := by decide +kernel
theorem dX4_named_114 : decode cX4_named 114 = .ok (.getfield 13, 3) := by decide +kernel
theorem dX4_named_117 : decode cX4_named 117 = .ok (.ireturn, 1) := by decide +kernel
theorem dX4_named_118 : decode cX4_named 118 = .ok (.aload_n 0, 1) := by decide +kernel
theorem dX4_named_119 : decode cX4_named 119 = .ok (.getfield 16, 3) := by decide +kernel
theorem dX4_named_122 : decode cX4_named 122 = .ok (.ireturn, 1) := by decide +kernel
theorem dX4_named_123 : decode cX4_named 123 = .ok (.aload_n 0, 1) := by decide +kernel
theorem dX4_named_124 : decode cX4_named 124 = .ok (.getfield 19, 3) := by decide +kernel
theorem dX4_named_127 : decode cX4_named 127 = .ok (.ireturn, 1) := by decide +kernel
theorem dX4_named_128 : decode cX4_named 128 = .ok (.aload_n 0, 1) := by decide +kernel
theorem dX4_named_129 : decode cX4_named 129 = .ok (.getfield 22, 3) := by decide +kernel
theorem dX4_named_132 : decode cX4_named 132 = .ok (.ireturn, 1) := by decide +kernel
theorem dX4_named_133 : decode cX4_named 133 = .ok (.aload_n 0, 1) := by decide +kernel
theorem dX4_named_134 : decode cX4_named 134 = .ok (.getfield 25, 3) := by decide +kernel
theorem dX4_named_137 : decode cX4_named 137 = .ok (.ireturn, 1) := by decide +kernel
theorem dX4_named_138 : decode cX4_named 138 = .ok (.aload_n 0, 1) := by decide +kernel
theorem dX4_named_139 : decode cX4_named 139 = .ok (.getfield 28, 3) := by decide +kernel
theorem dX4_named_142 : decode cX4_named 142 = .ok (.ireturn, 1) := by decide +kernel
theorem dX4_named_143 : decode cX4_named 143 = .ok (.aload_n 0, 1) := by decide +kernel
theorem dX4_named_144 : decode cX4_named 144 = .ok (.getfield 31, 3) := by decide +kernel
theorem dX4_named_147 : decode cX4_named 147 = .ok (.ireturn, 1) := by decide +kernel
theorem dX4_named_148 : decode cX4_named 148 = .ok (.iconst 0, 1) := by decide +kernel
theorem dX4_named_149 : decode cX4_named 149 = .ok (.ireturn, 1) := by decide +kernel
theorem dX4_isName_0 : decode cX4_isName 0 = .ok (.iload_n 0, 1) := by decide +kernel
theorem dX4_isName_1 : decode cX4_isName 1 = .ok (.tableswitch 109 97 119 #[107, 109, 107, 109, 109, 109, 109, 107, 109, 109, 107, 109, 109, 107, 109, 107, 109, 109, 107, 109, 109, 109, 107], 107) := by decide +kernel
theorem dX4_isName_108 : decode cX4_isName 108 = .ok (.iconst 1, 1) := by decide +kernel
theorem dX4_isName_109 : decode cX4_isName 109 = .ok (.ireturn, 1) := by decide +kernel
theorem dX4_isName_110 : decode cX4_isName 110 = .ok (.iconst 0, 1) := by decide +kernel
theorem dX4_isName_111 : decode cX4_isName 111 = .ok (.ireturn, 1) := by decide +kernel
theorem dX5_init_0 : decode cX5_init 0 = .ok (.aload_n 0, 1) := by decide +kernel
theorem dX5_init_1 : decode cX5_init 1 = .ok (.invokespecial 3, 3) := by decide +kernel
theorem dX5_init_4 : decode cX5_init 4 = .ok (.aload_n 0, 1) := by decide +kernel
theorem dX5_init_5 : decode cX5_init 5 = .ok (.bipush 10, 2) := by decide +kernel
theorem dX5_init_7 : decode cX5_init 7 = .ok (.newarray .int, 2) := by decide +kernel
theorem dX5_init_9 : decode cX5_init 9 = .ok (.putfield 9, 3) := by decide +kernel
theorem dX5_init_12 : decode cX5_init 12 = .ok (.aload_n 0, 1) := by decide +kernel
theorem dX5_init_13 : decode cX5_init 13 = .ok (.bipush 10, 2) := by decide +kernel
theorem dX5_init_15 : decode cX5_init 15 = .ok (.newarray .int, 2) := by decide +kernel
theorem dX5_init_17 : decode cX5_init 17 = .ok (.putfield 15, 3) := by decide +kernel
theorem dX5_init_20 : decode cX5_init 20 = .ok (.aload_n 0, 1) := by decide +kernel
theorem dX5_init_21 : decode cX5_init 21 = .ok (.bipush 10, 2) := by decide +kernel
theorem dX5_init_23 : decode cX5_init 23 = .ok (.newarray .int, 2) := by decide +kernel
theorem dX5_init_25 : decode cX5_init 25 = .ok (.putfield 18, 3) := by decide +kernel
theorem dX5_init_28 : decode cX5_init 28 = .ok (.aload_n 0, 1) := by decide +kernel
theorem dX5_init_29 : decode cX5_init 29 = .ok (.bipush 10, 2) := by decide +kernel
theorem dX5_init_31 : decode cX5_init 31 = .ok (.newarray .int, 2) := by decide +kernel
theorem dX5_init_33 : decode cX5_init 33 = .ok (.putfield 21, 3) := by decide +kernel
theorem dX5_init_36 : decode cX5_init 36 = .ok (.aload_n 0, 1) := by decide +kernel
theorem dX5_init_37 : decode cX5_init 37 = .ok (.bipush 10, 2) := by decide +kernel
theorem dX5_init_39 : decode cX5_init 39 = .ok (.newarray .int, 2) := by decide +kernel
theorem dX5_init_41 : decode cX5_init 41 = .ok (.putfield 24, 3) := by decide +kernel
theorem dX5_init_44 : decode cX5_init 44 = .ok (.aload_n 0, 1) := by decide +kernel
theorem dX5_init_45 : decode cX5_init 45 = .ok (.iconst 0, 1) := by decide +kernel
theorem dX5_init_46 : decode cX5_init 46 = .ok (.putfield 27, 3) := by decide +kernel
theorem dX5_init_49 : decode cX5_init 49 = .ok (.return_, 1) := by decide +kernel
theorem dX5_has_0 : decode cX5_has 0 = .ok (.iload_n 1, 1) := by decide +kernel
theorem dX5_has_1 : decode cX5_has 1 = .ok (.aload_n 0, 1) := by decide +kernel
theorem dX5_has_2 : decode cX5_has 2 = .ok (.getfield 27, 3) := by decide +kernel
theorem dX5_has_5 : decode cX5_has 5 = .ok (.invokestatic 31, 3) := by decide +kernel
theorem dX5_has_8 : decode cX5_has 8 = .ok (.ireturn, 1) := by decide +kernel
theorem dX5_add_0 : decode cX5_add 0 = .ok (.aload_n 0, 1) := by decide +kernel
theorem dX5_add_1 : decode cX5_add 1 = .ok (.getfield 27, 3) := by decide +kernel
theorem dX5_add_4 : decode cX5_add 4 = .ok (.bipush 10, 2) := by decide +kernel
theorem dX5_add_6 : decode cX5_add 6 = .ok (.if_icmp .lt 6, 3) := by decide +kernel
theorem dX5_add_9 : decode cX5_add 9 = .ok (.bipush (-3), 2) := by decide +kernel
theorem dX5_add_11 : decode cX5_add 11 = .ok (.ireturn, 1) := by decide +kernel
theorem dX5_add_12 : decode cX5_add 12 = .ok (.aload_n 0, 1) := by decide +kernel
theorem dX5_add_13 : decode cX5_add 13 = .ok (.getfield 9, 3) := by decide +kernel
theorem dX5_add_16 : decode cX5_add 16 = .ok (.aload_n 0, 1) := by decide +kernel
theorem dX5_add_17 : decode cX5_add 17 = .ok (.getfield 27, 3) := by decide +kernel
theorem dX5_add_20 : decode cX5_add 20 = .ok (.iload_n 1, 1) := by decide +kernel
theorem dX5_add_21 : decode cX5_add 21 = .ok (.iastore, 1) := by decide +kernel
theorem dX5_add_22 : decode cX5_add 22 = .ok (.aload_n 0, 1) := by decide +kernel
theorem dX5_add_23 : decode cX5_add 23 = .ok (.getfield 15, 3) := by decide +kernel
theorem dX5_add_26 : decode cX5_add 26 = .ok (.aload_n 0, 1) := by decide +kernel
theorem dX5_add_27 : decode cX5_add 27 = .ok (.getfield 27, 3) := by decide +kernel
theorem dX5_add_30 : decode cX5_add 30 = .ok (.iload_n 2, 1) := by decide +kernel
theorem dX5_add_31 : decode cX5_add 31 = .ok (.iastore, 1) := by decide +kernel
theorem dX5_add_32 : decode cX5_add 32 = .ok (.aload_n 0, 1) := by decide +kernel
theorem dX5_add_33 : decode cX5_add 33 = .ok (.getfield 18, 3) := by decide +kernel
theorem dX5_add_36 : decode cX5_add 36 = .ok (.aload_n 0, 1) := by decide +kernel
theorem dX5_add_37 : decode cX5_add 37 = .ok (.getfield 27, 3) := by decide +kernel
theorem dX5_add_40 : decode cX5_add 40 = .ok (.iload_n 3, 1) := by decide +kernel
theorem dX5_add_41 : decode cX5_add 41 = .ok (.iastore, 1) := by decide +kernel
theorem dX5_add_42 : decode cX5_add 42 = .ok (.aload_n 0, 1) := by decide +kernel
theorem dX5_add_43 : decode cX5_add 43 = .ok (.getfield 21, 3) := by decide +kernel
theorem dX5_add_46 : decode cX5_add 46 = .ok (.aload_n 0, 1) := by decide +kernel
theorem dX5_add_47 : decode cX5_add 47 = .ok (.getfield 27, 3) := by decide +kernel
theorem dX5_add_50 : decode cX5_add 50 = .ok (.iload 4, 2) := by decide +kernel
theorem dX5_add_52 : decode cX5_add 52 = .ok (.iastore, 1) := by decide +kernel
theorem dX5_add_53 : decode cX5_add 53 = .ok (.aload_n 0, 1) := by decide +kernel
theorem dX5_add_54 : decode cX5_add 54 = .ok (.dup, 1) := by decide +kernel
theorem dX5_add_55 : decode cX5_add 55 = .ok (.getfield 27, 3) := by decide +kernel
theorem dX5_add_58 : decode cX5_add 58 = .ok (.iconst 1, 1) := by decide +kernel
theorem dX5_add_59 : decode cX5_add 59 = .ok (.iadd, 1) := by decide +kernel
theorem dX5_add_60 : decode cX5_add 60 = .ok (.putfield 27, 3) := by decide +kernel
theorem dX5_add_63 : decode cX5_add 63 = .ok (.aload_n 0, 1) := by decide +kernel
theorem dX5_add_64 : decode cX5_add 64 = .ok (.getfield 27, 3) := by decide +kernel
theorem dX5_add_67 : decode cX5_add 67 = .ok (.iconst 1, 1) := by decide +kernel
theorem dX5_add_68 : decode cX5_add 68 = .ok (.isub, 1) := by decide +kernel
theorem dX5_add_69 : decode cX5_add 69 = .ok (.ireturn, 1) := by decide +kernel
theorem dX5_coinsAt_0 : decode cX5_coinsAt 0 = .ok (.aload_n 0, 1) := by decide +kernel
theorem dX5_coinsAt_1 : decode cX5_coinsAt 1 = .ok (.getfield 9, 3) := by decide +kernel
theorem dX5_coinsAt_4 : decode cX5_coinsAt 4 = .ok (.iload_n 1, 1) := by decide +kernel
theorem dX5_coinsAt_5 : decode cX5_coinsAt 5 = .ok (.iaload, 1) := by decide +kernel
theorem dX5_coinsAt_6 : decode cX5_coinsAt 6 = .ok (.iconst 4, 1) := by decide +kernel
theorem dX5_coinsAt_7 : decode cX5_coinsAt 7 = .ok (.iload_n 2, 1) := by decide +kernel
theorem dX5_coinsAt_8 : decode cX5_coinsAt 8 = .ok (.isub, 1) := by decide +kernel
theorem dX5_coinsAt_9 : decode cX5_coinsAt 9 = .ok (.imul, 1) := by decide +kernel
theorem dX5_coinsAt_10 : decode cX5_coinsAt 10 = .ok (.iconst 4, 1) := by decide +kernel
theorem dX5_coinsAt_11 : decode cX5_coinsAt 11 = .ok (.idiv, 1) := by decide +kernel
theorem dX5_coinsAt_12 : decode cX5_coinsAt 12 = .ok (.ireturn, 1) := by decide +kernel
theorem dX5_lackCost_0 : decode cX5_lackCost 0 = .ok (.iconst 0, 1) := by decide +kernel
theorem dX5_lackCost_1 : decode cX5_lackCost 1 = .ok (.aload_n 0, 1) := by decide +kernel
theorem dX5_lackCost_2 : decode cX5_lackCost 2 = .ok (.getfield 9, 3) := by decide +kernel
theorem dX5_lackCost_5 : decode cX5_lackCost 5 = .ok (.iload_n 1, 1) := by decide +kernel
theorem dX5_lackCost_6 : decode cX5_lackCost 6 = .ok (.iaload, 1) := by decide +kernel
theorem dX5_lackCost_7 : decode cX5_lackCost 7 = .ok (.aload_n 0, 1) := by decide +kernel
theorem dX5_lackCost_8 : decode cX5_lackCost 8 = .ok (.getfield 15, 3) := by decide +kernel
theorem dX5_lackCost_11 : decode cX5_lackCost 11 = .ok (.iload_n 1, 1) := by decide +kernel
theorem dX5_lackCost_12 : decode cX5_lackCost 12 = .ok (.iaload, 1) := by decide +kernel
theorem dX5_lackCost_13 : decode cX5_lackCost 13 = .ok (.isub, 1) := by decide +kernel
theorem dX5_lackCost_14 : decode cX5_lackCost 14 = .ok (.invokestatic 35, 3) := by decide +kernel
theorem dX5_lackCost_17 : decode cX5_lackCost 17 = .ok (.ireturn, 1) := by decide +kernel
theorem dX5_wasteCost_0 : decode cX5_wasteCost 0 = .ok (.aload_n 0, 1) := by decide +kernel
theorem dX5_wasteCost_1 : decode cX5_wasteCost 1 = .ok (.getfield 15, 3) := by decide +kernel
theorem dX5_wasteCost_4 : decode cX5_wasteCost 4 = .ok (.iload_n 1, 1) := by decide +kernel
theorem dX5_wasteCost_5 : decode cX5_wasteCost 5 = .ok (.iaload, 1) := by decide +kernel
theorem dX5_wasteCost_6 : decode cX5_wasteCost 6 = .ok (.aload_n 0, 1) := by decide +kernel
theorem dX5_wasteCost_7 : decode cX5_wasteCost 7 = .ok (.getfield 24, 3) := by decide +kernel
theorem dX5_wasteCost_10 : decode cX5_wasteCost 10 = .ok (.iload_n 1, 1) := by decide +kernel
theorem dX5_wasteCost_11 : decode cX5_wasteCost 11 = .ok (.iaload, 1) := by decide +kernel
theorem dX5_wasteCost_12 : decode cX5_wasteCost 12 = .ok (.iadd, 1) := by decide +kernel
theorem dX5_wasteCost_13 : decode cX5_wasteCost 13 = .ok (.ireturn, 1) := by decide +kernel
theorem dX6_init_0 : decode cX6_init 0 = .ok (.aload_n 0, 1) := by decide +kernel
theorem dX6_init_1 : decode cX6_init 1 = .ok (.invokespecial 3, 3) := by decide +kernel
theorem dX6_init_4 : decode cX6_init 4 = .ok (.aload_n 0, 1) := by decide +kernel
theorem dX6_init_5 : decode cX6_init 5 = .ok (.bipush 16, 2) := by decide +kernel
theorem dX6_init_7 : decode cX6_init 7 = .ok (.sipush 161, 3) := by decide +kernel
theorem dX6_init_10 : decode cX6_init 10 = .ok (.multianewarray 9 2, 4) := by decide +kernel
theorem dX6_init_14 : decode cX6_init 14 = .ok (.putfield 11, 3) := by decide +kernel
theorem dX6_init_17 : decode cX6_init 17 = .ok (.aload_n 0, 1) := by decide +kernel
theorem dX6_init_18 : decode cX6_init 18 = .ok (.bipush 16, 2) := by decide +kernel
theorem dX6_init_20 : decode cX6_init 20 = .ok (.newarray .int, 2) := by decide +kernel
theorem dX6_init_22 : decode cX6_init 22 = .ok (.putfield 16, 3) := by decide +kernel
theorem dX6_init_25 : decode cX6_init 25 = .ok (.aload_n 0, 1) := by decide +kernel
theorem dX6_init_26 : decode cX6_init 26 = .ok (.bipush 16, 2) := by decide +kernel
theorem dX6_init_28 : decode cX6_init 28 = .ok (.newarray .int, 2) := by decide +kernel
theorem dX6_init_30 : decode cX6_init 30 = .ok (.putfield 20, 3) := by decide +kernel
theorem dX6_init_33 : decode cX6_init 33 = .ok (.aload_n 0, 1) := by decide +kernel
theorem dX6_init_34 : decode cX6_init 34 = .ok (.bipush 16, 2) := by decide +kernel
theorem dX6_init_36 : decode cX6_init 36 = .ok (.newarray .int, 2) := by decide +kernel
theorem dX6_init_38 : decode cX6_init 38 = .ok (.putfield 23, 3) := by decide +kernel
theorem dX6_init_41 : decode cX6_init 41 = .ok (.aload_n 0, 1) := by decide +kernel
theorem dX6_init_42 : decode cX6_init 42 = .ok (.bipush 16, 2) := by decide +kernel
theorem dX6_init_44 : decode cX6_init 44 = .ok (.newarray .int, 2) := by decide +kernel
theorem dX6_init_46 : decode cX6_init 46 = .ok (.putfield 26, 3) := by decide +kernel
theorem dX6_init_49 : decode cX6_init 49 = .ok (.aload_n 0, 1) := by decide +kernel
theorem dX6_init_50 : decode cX6_init 50 = .ok (.iconst 0, 1) := by decide +kernel
theorem dX6_init_51 : decode cX6_init 51 = .ok (.putfield 29, 3) := by decide +kernel
theorem dX6_init_54 : decode cX6_init 54 = .ok (.aload_n 0, 1) := by decide +kernel
theorem dX6_init_55 : decode cX6_init 55 = .ok (.sipush 160, 3) := by decide +kernel
theorem dX6_init_58 : decode cX6_init 58 = .ok (.newarray .int, 2) := by decide +kernel
theorem dX6_init_60 : decode cX6_init 60 = .ok (.putfield 33, 3) := by decide +kernel
theorem dX6_init_63 : decode cX6_init 63 = .ok (.aload_n 0, 1) := by decide +kernel
theorem dX6_init_64 : decode cX6_init 64 = .ok (.iconst 0, 1) := by decide +kernel
theorem dX6_init_65 : decode cX6_init 65 = .ok (.putfield 36, 3) := by decide +kernel
theorem dX6_init_68 : decode cX6_init 68 = .ok (.return_, 1) := by decide +kernel
theorem dX6_add_0 : decode cX6_add 0 = .ok (.aload_n 0, 1) := by decide +kernel
theorem dX6_add_1 : decode cX6_add 1 = .ok (.getfield 29, 3) := by decide +kernel
theorem dX6_add_4 : decode cX6_add 4 = .ok (.bipush 16, 2) := by decide +kernel
theorem dX6_add_6 : decode cX6_add 6 = .ok (.if_icmp .lt 6, 3) := by decide +kernel
theorem dX6_add_9 : decode cX6_add 9 = .ok (.bipush (-3), 2) := by decide +kernel
theorem dX6_add_11 : decode cX6_add 11 = .ok (.ireturn, 1) := by decide +kernel
theorem dX6_add_12 : decode cX6_add 12 = .ok (.aload_n 0, 1) := by decide +kernel
theorem dX6_add_13 : decode cX6_add 13 = .ok (.getfield 16, 3) := by decide +kernel
theorem dX6_add_16 : decode cX6_add 16 = .ok (.aload_n 0, 1) := by decide +kernel
theorem dX6_add_17 : decode cX6_add 17 = .ok (.getfield 29, 3) := by decide +kernel
theorem dX6_add_20 : decode cX6_add 20 = .ok (.iload_n 1, 1) := by decide +kernel
theorem dX6_add_21 : decode cX6_add 21 = .ok (.iastore, 1) := by decide +kernel
theorem dX6_add_22 : decode cX6_add 22 = .ok (.aload_n 0, 1) := by decide +kernel
theorem dX6_add_23 : decode cX6_add 23 = .ok (.getfield 20, 3) := by decide +kernel
theorem dX6_add_26 : decode cX6_add 26 = .ok (.aload_n 0, 1) := by decide +kernel
theorem dX6_add_27 : decode cX6_add 27 = .ok (.getfield 29, 3) := by decide +kernel
theorem dX6_add_30 : decode cX6_add 30 = .ok (.iload_n 2, 1) := by decide +kernel
theorem dX6_add_31 : decode cX6_add 31 = .ok (.iastore, 1) := by decide +kernel
theorem dX6_add_32 : decode cX6_add 32 = .ok (.aload_n 0, 1) := by decide +kernel
theorem dX6_add_33 : decode cX6_add 33 = .ok (.getfield 23, 3) := by decide +kernel
theorem dX6_add_36 : decode cX6_add 36 = .ok (.aload_n 0, 1) := by decide +kernel
theorem dX6_add_37 : decode cX6_add 37 = .ok (.getfield 29, 3) := by decide +kernel
theorem dX6_add_40 : decode cX6_add 40 = .ok (.iload_n 3, 1) := by decide +kernel
theorem dX6_add_41 : decode cX6_add 41 = .ok (.iastore, 1) := by decide +kernel
theorem dX6_add_42 : decode cX6_add 42 = .ok (.aload_n 0, 1) := by decide +kernel
theorem dX6_add_43 : decode cX6_add 43 = .ok (.getfield 26, 3) := by decide +kernel
theorem dX6_add_46 : decode cX6_add 46 = .ok (.aload_n 0, 1) := by decide +kernel
theorem dX6_add_47 : decode cX6_add 47 = .ok (.getfield 29, 3) := by decide +kernel
theorem dX6_add_50 : decode cX6_add 50 = .ok (.iload 4, 2) := by decide +kernel
theorem dX6_add_52 : decode cX6_add 52 = .ok (.iastore, 1) := by decide +kernel
theorem dX6_add_53 : decode cX6_add 53 = .ok (.aload_n 0, 1) := by decide +kernel
theorem dX6_add_54 : decode cX6_add 54 = .ok (.dup, 1) := by decide +kernel
theorem dX6_add_55 : decode cX6_add 55 = .ok (.getfield 29, 3) := by decide +kernel
theorem dX6_add_58 : decode cX6_add 58 = .ok (.iconst 1, 1) := by decide +kernel
theorem dX6_add_59 : decode cX6_add 59 = .ok (.iadd, 1) := by decide +kernel
theorem dX6_add_60 : decode cX6_add 60 = .ok (.putfield 29, 3) := by decide +kernel
theorem dX6_add_63 : decode cX6_add 63 = .ok (.aload_n 0, 1) := by decide +kernel
theorem dX6_add_64 : decode cX6_add 64 = .ok (.getfield 29, 3) := by decide +kernel
theorem dX6_add_67 : decode cX6_add 67 = .ok (.iconst 1, 1) := by decide +kernel
theorem dX6_add_68 : decode cX6_add 68 = .ok (.isub, 1) := by decide +kernel
theorem dX6_add_69 : decode cX6_add 69 = .ok (.ireturn, 1) := by decide +kernel
theorem dX6_latest_0 : decode cX6_latest 0 = .ok (.aload_n 0, 1) := by decide +kernel
theorem dX6_latest_1 : decode cX6_latest 1 = .ok (.getfield 29, 3) := by decide +kernel
theorem dX6_latest_4 : decode cX6_latest 4 = .ok (.iconst 1, 1) := by decide +kernel
theorem dX6_latest_5 : decode cX6_latest 5 = .ok (.isub, 1) := by decide +kernel
theorem dX6_latest_6 : decode cX6_latest 6 = .ok (.istore 4, 2) := by decide +kernel
theorem dX6_latest_8 : decode cX6_latest 8 = .ok (.iload 4, 2) := by decide +kernel
theorem dX6_latest_10 : decode cX6_latest 10 = .ok (.ifCond .lt 45, 3) := by decide +kernel
theorem dX6_latest_13 : decode cX6_latest 13 = .ok (.aload_n 0, 1) := by decide +kernel
theorem dX6_latest_14 : decode cX6_latest 14 = .ok (.getfield 20, 3) := by decide +kernel
theorem dX6_latest_17 : decode cX6_latest 17 = .ok (.iload 4, 2) := by decide +kernel
theorem dX6_latest_19 : decode cX6_latest 19 = .ok (.iaload, 1) := by decide +kernel
theorem dX6_latest_20 : decode cX6_latest 20 = .ok (.iload_n 1, 1) := by decide +kernel
theorem dX6_latest_21 : decode cX6_latest 21 = .ok (.if_icmp .ne 28, 3) := by decide +kernel
theorem dX6_latest_24 : decode cX6_latest 24 = .ok (.aload_n 0, 1) := by decide +kernel
theorem dX6_latest_25 : decode cX6_latest 25 = .ok (.getfield 26, 3) := by decide +kernel
theorem dX6_latest_28 : decode cX6_latest 28 = .ok (.iload 4, 2) := by decide +kernel
theorem dX6_latest_30 : decode cX6_latest 30 = .ok (.iaload, 1) := by decide +kernel
theorem dX6_latest_31 : decode cX6_latest 31 = .ok (.iload_n 3, 1) := by decide +kernel
theorem dX6_latest_32 : decode cX6_latest 32 = .ok (.if_icmp .gt 17, 3) := by decide +kernel
theorem dX6_latest_35 : decode cX6_latest 35 = .ok (.aload_n 0, 1) := by decide +kernel
theorem dX6_latest_36 : decode cX6_latest 36 = .ok (.getfield 23, 3) := by decide +kernel
theorem dX6_latest_39 : decode cX6_latest 39 = .ok (.iload 4, 2) := by decide +kernel
theorem dX6_latest_41 : decode cX6_latest 41 = .ok (.iaload, 1) := by decide +kernel
theorem dX6_latest_42 : decode cX6_latest 42 = .ok (.iload_n 2, 1) := by decide +kernel
theorem dX6_latest_43 : decode cX6_latest 43 = .ok (.if_icmp .gt 6, 3) := by decide +kernel
theorem dX6_latest_46 : decode cX6_latest 46 = .ok (.iload 4, 2) := by decide +kernel
theorem dX6_latest_48 : decode cX6_latest 48 = .ok (.ireturn, 1) := by decide +kernel
theorem dX6_latest_49 : decode cX6_latest 49 = .ok (.iinc 4 (-1), 3) := by decide +kernel
theorem dX6_latest_52 : decode cX6_latest 52 = .ok (.goto (-44), 3) := by decide +kernel
theorem dX6_latest_55 : decode cX6_latest 55 = .ok (.bipush (-2), 2) := by decide +kernel
theorem dX6_latest_57 : decode cX6_latest 57 = .ok (.ireturn, 1) := by decide +kernel
theorem dX6_valueOf_0 : decode cX6_valueOf 0 = .ok (.iconst 1, 1) := by decide +kernel
theorem dX6_valueOf_1 : decode cX6_valueOf 1 = .ok (.istore_n 3, 1) := by decide +kernel
theorem dX6_valueOf_2 : decode cX6_valueOf 2 = .ok (.aload_n 0, 1) := by decide +kernel
theorem dX6_valueOf_3 : decode cX6_valueOf 3 = .ok (.iconst 0, 1) := by decide +kernel
theorem dX6_valueOf_4 : decode cX6_valueOf 4 = .ok (.putfield 36, 3) := by decide +kernel
theorem dX6_valueOf_7 : decode cX6_valueOf 7 = .ok (.iconst 0, 1) := by decide +kernel
theorem dX6_valueOf_8 : decode cX6_valueOf 8 = .ok (.istore 4, 2) := by decide +kernel
theorem dX6_valueOf_10 : decode cX6_valueOf 10 = .ok (.iload 4, 2) := by decide +kernel
theorem dX6_valueOf_12 : decode cX6_valueOf 12 = .ok (.aload_n 0, 1) := by decide +kernel
theorem dX6_valueOf_13 : decode cX6_valueOf 13 = .ok (.getfield 16, 3) := by decide +kernel
theorem dX6_valueOf_16 : decode cX6_valueOf 16 = .ok (.iload_n 1, 1) := by decide +kernel
theorem dX6_valueOf_17 : decode cX6_valueOf 17 = .ok (.iaload, 1) := by decide +kernel
theorem dX6_valueOf_18 : decode cX6_valueOf 18 = .ok (.if_icmp .ge 75, 3) := by decide +kernel
theorem dX6_valueOf_21 : decode cX6_valueOf 21 = .ok (.aload_n 0, 1) := by decide +kernel
theorem dX6_valueOf_22 : decode cX6_valueOf 22 = .ok (.getfield 11, 3) := by decide +kernel
theorem dX6_valueOf_25 : decode cX6_valueOf 25 = .ok (.iload_n 1, 1) := by decide +kernel
theorem dX6_valueOf_26 : decode cX6_valueOf 26 = .ok (.aaload, 1) := by decide +kernel
theorem dX6_valueOf_27 : decode cX6_valueOf 27 = .ok (.iload 4, 2) := by decide +kernel
theorem dX6_valueOf_29 : decode cX6_valueOf 29 = .ok (.iaload, 1) := by decide +kernel
theorem dX6_valueOf_30 : decode cX6_valueOf 30 = .ok (.istore 5, 2) := by decide +kernel
theorem dX6_valueOf_32 : decode cX6_valueOf 32 = .ok (.iload 5, 2) := by decide +kernel
theorem dX6_valueOf_34 : decode cX6_valueOf 34 = .ok (.bipush (-59), 2) := by decide +kernel
theorem dX6_valueOf_36 : decode cX6_valueOf 36 = .ok (.if_icmp .ne 21, 3) := by decide +kernel
theorem dX6_valueOf_39 : decode cX6_valueOf 39 = .ok (.aload_n 0, 1) := by decide +kernel
theorem dX6_valueOf_40 : decode cX6_valueOf 40 = .ok (.invokevirtual 39, 3) := by decide +kernel
theorem dX6_valueOf_43 : decode cX6_valueOf 43 = .ok (.istore 6, 2) := by decide +kernel
theorem dX6_valueOf_45 : decode cX6_valueOf 45 = .ok (.iload_n 3, 1) := by decide +kernel
theorem dX6_valueOf_46 : decode cX6_valueOf 46 = .ok (.ifCond .eq 6, 3) := by decide +kernel
theorem dX6_valueOf_49 : decode cX6_valueOf 49 = .ok (.iload 6, 2) := by decide +kernel
theorem dX6_valueOf_51 : decode cX6_valueOf 51 = .ok (.ireturn, 1) := by decide +kernel
theorem dX6_valueOf_52 : decode cX6_valueOf 52 = .ok (.iconst 1, 1) := by decide +kernel
theorem dX6_valueOf_53 : decode cX6_valueOf 53 = .ok (.istore_n 3, 1) := by decide +kernel
theorem dX6_valueOf_54 : decode cX6_valueOf 54 = .ok (.goto 33, 3) := by decide +kernel
theorem dX6_valueOf_57 : decode cX6_valueOf 57 = .ok (.iload 5, 2) := by decide +kernel
theorem dX6_valueOf_59 : decode cX6_valueOf 59 = .ok (.bipush (-44), 2) := by decide +kernel
theorem dX6_valueOf_61 : decode cX6_valueOf 61 = .ok (.if_icmp .ne 19, 3) := by decide +kernel
theorem dX6_valueOf_64 : decode cX6_valueOf 64 = .ok (.aload_n 0, 1) := by decide +kernel
theorem dX6_valueOf_65 : decode cX6_valueOf 65 = .ok (.invokevirtual 39, 3) := by decide +kernel
theorem dX6_valueOf_68 : decode cX6_valueOf 68 = .ok (.ifCond .eq 7, 3) := by decide +kernel
theorem dX6_valueOf_71 : decode cX6_valueOf 71 = .ok (.iconst 1, 1) := by decide +kernel
theorem dX6_valueOf_72 : decode cX6_valueOf 72 = .ok (.goto 4, 3) := by decide +kernel
theorem dX6_valueOf_75 : decode cX6_valueOf 75 = .ok (.iconst 0, 1) := by decide +kernel
theorem dX6_valueOf_76 : decode cX6_valueOf 76 = .ok (.istore_n 3, 1) := by decide +kernel
theorem dX6_valueOf_77 : decode cX6_valueOf 77 = .ok (.goto 10, 3) := by decide +kernel
theorem dX6_valueOf_80 : decode cX6_valueOf 80 = .ok (.aload_n 0, 1) := by decide +kernel
theorem dX6_valueOf_81 : decode cX6_valueOf 81 = .ok (.iload 5, 2) := by decide +kernel
theorem dX6_valueOf_83 : decode cX6_valueOf 83 = .ok (.aload_n 2, 1) := by decide +kernel
theorem dX6_valueOf_84 : decode cX6_valueOf 84 = .ok (.invokevirtual 43, 3) := by decide +kernel
theorem dX6_valueOf_87 : decode cX6_valueOf 87 = .ok (.iinc 4 1, 3) := by decide +kernel
theorem dX6_valueOf_90 : decode cX6_valueOf 90 = .ok (.goto (-80), 3) := by decide +kernel
theorem dX6_valueOf_93 : decode cX6_valueOf 93 = .ok (.iconst 0, 1) := by decide +kernel
theorem dX6_valueOf_94 : decode cX6_valueOf 94 = .ok (.ireturn, 1) := by decide +kernel
theorem dX6_work_0 : decode cX6_work 0 = .ok (.iload_n 1, 1) := by decide +kernel
theorem dX6_work_1 : decode cX6_work 1 = .ok (.ifCond .lt 11, 3) := by decide +kernel
theorem dX6_work_4 : decode cX6_work 4 = .ok (.aload_n 0, 1) := by decide +kernel
theorem dX6_work_5 : decode cX6_work 5 = .ok (.iload_n 1, 1) := by decide +kernel
theorem dX6_work_6 : decode cX6_work 6 = .ok (.invokevirtual 47, 3) := by decide +kernel
theorem dX6_work_9 : decode cX6_work 9 = .ok (.goto 68, 3) := by decide +kernel
theorem dX6_work_12 : decode cX6_work 12 = .ok (.iload_n 1, 1) := by decide +kernel
theorem dX6_work_13 : decode cX6_work 13 = .ok (.ineg, 1) := by decide +kernel
theorem dX6_work_14 : decode cX6_work 14 = .ok (.invokestatic 51, 3) := by decide +kernel
theorem dX6_work_17 : decode cX6_work 17 = .ok (.ifCond .eq 16, 3) := by decide +kernel
theorem dX6_work_20 : decode cX6_work 20 = .ok (.aload_n 0, 1) := by decide +kernel
theorem dX6_work_21 : decode cX6_work 21 = .ok (.aload_n 2, 1) := by decide +kernel
theorem dX6_work_22 : decode cX6_work 22 = .ok (.iload_n 1, 1) := by decide +kernel
theorem dX6_work_23 : decode cX6_work 23 = .ok (.ineg, 1) := by decide +kernel
theorem dX6_work_24 : decode cX6_work 24 = .ok (.invokevirtual 57, 3) := by decide +kernel
theorem dX6_work_27 : decode cX6_work 27 = .ok (.invokevirtual 47, 3) := by decide +kernel
theorem dX6_work_30 : decode cX6_work 30 = .ok (.goto 47, 3) := by decide +kernel
theorem dX6_work_33 : decode cX6_work 33 = .ok (.iload_n 1, 1) := by decide +kernel
theorem dX6_work_34 : decode cX6_work 34 = .ok (.bipush (-33), 2) := by decide +kernel
theorem dX6_work_36 : decode cX6_work 36 = .ok (.if_icmp .ne 22, 3) := by decide +kernel
theorem dX6_work_39 : decode cX6_work 39 = .ok (.aload_n 0, 1) := by decide +kernel
theorem dX6_work_40 : decode cX6_work 40 = .ok (.aload_n 0, 1) := by decide +kernel
theorem dX6_work_41 : decode cX6_work 41 = .ok (.invokevirtual 39, 3) := by decide +kernel
theorem dX6_work_44 : decode cX6_work 44 = .ok (.ifCond .ne 7, 3) := by decide +kernel
theorem dX6_work_47 : decode cX6_work 47 = .ok (.iconst 1, 1) := by decide +kernel
theorem dX6_work_48 : decode cX6_work 48 = .ok (.goto 4, 3) := by decide +kernel
theorem dX6_work_51 : decode cX6_work 51 = .ok (.iconst 0, 1) := by decide +kernel
theorem dX6_work_52 : decode cX6_work 52 = .ok (.invokevirtual 47, 3) := by decide +kernel
theorem dX6_work_55 : decode cX6_work 55 = .ok (.goto 22, 3) := by decide +kernel
theorem dX6_work_58 : decode cX6_work 58 = .ok (.aload_n 0, 1) := by decide +kernel
theorem dX6_work_59 : decode cX6_work 59 = .ok (.invokevirtual 39, 3) := by decide +kernel
theorem dX6_work_62 : decode cX6_work 62 = .ok (.istore_n 3, 1) := by decide +kernel
theorem dX6_work_63 : decode cX6_work 63 = .ok (.aload_n 0, 1) := by decide +kernel
theorem dX6_work_64 : decode cX6_work 64 = .ok (.aload_n 0, 1) := by decide +kernel
theorem dX6_work_65 : decode cX6_work 65 = .ok (.invokevirtual 39, 3) := by decide +kernel
theorem dX6_work_68 : decode cX6_work 68 = .ok (.iload_n 1, 1) := by decide +kernel
theorem dX6_work_69 : decode cX6_work 69 = .ok (.ineg, 1) := by decide +kernel
theorem dX6_work_70 : decode cX6_work 70 = .ok (.iload_n 3, 1) := by decide +kernel
theorem dX6_work_71 : decode cX6_work 71 = .ok (.invokestatic 61, 3) := by decide +kernel
theorem dX6_work_74 : decode cX6_work 74 = .ok (.invokevirtual 47, 3) := by decide +kernel
theorem dX6_work_77 : decode cX6_work 77 = .ok (.return_, 1) := by decide +kernel
theorem dX6_push_0 : decode cX6_push 0 = .ok (.aload_n 0, 1) := by decide +kernel
theorem dX6_push_1 : decode cX6_push 1 = .ok (.getfield 36, 3) := by decide +kernel
theorem dX6_push_4 : decode cX6_push 4 = .ok (.sipush 160, 3) := by decide +kernel
theorem dX6_push_7 : decode cX6_push 7 = .ok (.if_icmp .ge 23, 3) := by decide +kernel
theorem dX6_push_10 : decode cX6_push 10 = .ok (.aload_n 0, 1) := by decide +kernel
theorem dX6_push_11 : decode cX6_push 11 = .ok (.getfield 33, 3) := by decide +kernel
theorem dX6_push_14 : decode cX6_push 14 = .ok (.aload_n 0, 1) := by decide +kernel
theorem dX6_push_15 : decode cX6_push 15 = .ok (.getfield 36, 3) := by decide +kernel
theorem dX6_push_18 : decode cX6_push 18 = .ok (.iload_n 1, 1) := by decide +kernel
theorem dX6_push_19 : decode cX6_push 19 = .ok (.iastore, 1) := by decide +kernel
theorem dX6_push_20 : decode cX6_push 20 = .ok (.aload_n 0, 1) := by decide +kernel
theorem dX6_push_21 : decode cX6_push 21 = .ok (.dup, 1) := by decide +kernel
theorem dX6_push_22 : decode cX6_push 22 = .ok (.getfield 36, 3) := by decide +kernel
theorem dX6_push_25 : decode cX6_push 25 = .ok (.iconst 1, 1) := by decide +kernel
theorem dX6_push_26 : decode cX6_push 26 = .ok (.iadd, 1) := by decide +kernel
theorem dX6_push_27 : decode cX6_push 27 = .ok (.putfield 36, 3) := by decide +kernel
theorem dX6_push_30 : decode cX6_push 30 = .ok (.return_, 1) := by decide +kernel
theorem dX6_pop_0 : decode cX6_pop 0 = .ok (.aload_n 0, 1) := by decide +kernel
theorem dX6_pop_1 : decode cX6_pop 1 = .ok (.getfield 36, 3) := by decide +kernel
theorem dX6_pop_4 : decode cX6_pop 4 = .ok (.ifCond .ne 5, 3) := by decide +kernel
theorem dX6_pop_7 : decode cX6_pop 7 = .ok (.iconst 0, 1) := by decide +kernel
theorem dX6_pop_8 : decode cX6_pop 8 = .ok (.ireturn, 1) := by decide +kernel
theorem dX6_pop_9 : decode cX6_pop 9 = .ok (.aload_n 0, 1) := by decide +kernel
theorem dX6_pop_10 : decode cX6_pop 10 = .ok (.dup, 1) := by decide +kernel
theorem dX6_pop_11 : decode cX6_pop 11 = .ok (.getfield 36, 3) := by decide +kernel
theorem dX6_pop_14 : decode cX6_pop 14 = .ok (.iconst 1, 1) := by decide +kernel
theorem dX6_pop_15 : decode cX6_pop 15 = .ok (.isub, 1) := by decide +kernel
theorem dX6_pop_16 : decode cX6_pop 16 = .ok (.putfield 36, 3) := by decide +kernel
theorem dX6_pop_19 : decode cX6_pop 19 = .ok (.aload_n 0, 1) := by decide +kernel
theorem dX6_pop_20 : decode cX6_pop 20 = .ok (.getfield 33, 3) := by decide +kernel
theorem dX6_pop_23 : decode cX6_pop 23 = .ok (.aload_n 0, 1) := by decide +kernel
theorem dX6_pop_24 : decode cX6_pop 24 = .ok (.getfield 36, 3) := by decide +kernel
theorem dX6_pop_27 : decode cX6_pop 27 = .ok (.iaload, 1) := by decide +kernel
theorem dX6_pop_28 : decode cX6_pop 28 = .ok (.ireturn, 1) := by decide +kernel
theorem dX6_join_0 : decode cX6_join 0 = .ok (.iload_n 1, 1) := by decide +kernel
theorem dX6_join_1 : decode cX6_join 1 = .ok (.lookupswitch 168 #[(38, 97), (42, 152), (43, 144), (45, 148), (47, 156), (60, 111), (61, 122), (62, 133), (124, 83)], 83) := by decide +kernel
theorem dX6_join_84 : decode cX6_join 84 = .ok (.iload_n 0, 1) := by decide +kernel
theorem dX6_join_85 : decode cX6_join 85 = .ok (.ifCond .ne 7, 3) := by decide +kernel
theorem dX6_join_88 : decode cX6_join 88 = .ok (.iload_n 2, 1) := by decide +kernel
theorem dX6_join_89 : decode cX6_join 89 = .ok (.ifCond .eq 7, 3) := by decide +kernel
theorem dX6_join_92 : decode cX6_join 92 = .ok (.iconst 1, 1) := by decide +kernel
theorem dX6_join_93 : decode cX6_join 93 = .ok (.goto 4, 3) := by decide +kernel
theorem dX6_join_96 : decode cX6_join 96 = .ok (.iconst 0, 1) := by decide +kernel
theorem dX6_join_97 : decode cX6_join 97 = .ok (.ireturn, 1) := by decide +kernel
theorem dX6_join_98 : decode cX6_join 98 = .ok (.iload_n 0, 1) := by decide +kernel
theorem dX6_join_99 : decode cX6_join 99 = .ok (.ifCond .eq 11, 3) := by decide +kernel
theorem dX6_join_102 : decode cX6_join 102 = .ok (.iload_n 2, 1) := by decide +kernel
theorem dX6_join_103 : decode cX6_join 103 = .ok (.ifCond .eq 7, 3) := by decide +kernel
theorem dX6_join_106 : decode cX6_join 106 = .ok (.iconst 1, 1) := by decide +kernel
theorem dX6_join_107 : decode cX6_join 107 = .ok (.goto 4, 3) := by decide +kernel
theorem dX6_join_110 : decode cX6_join 110 = .ok (.iconst 0, 1) := by decide +kernel
theorem dX6_join_111 : decode cX6_join 111 = .ok (.ireturn, 1) := by decide +kernel
theorem dX6_join_112 : decode cX6_join 112 = .ok (.iload_n 0, 1) := by decide +kernel
theorem dX6_join_113 : decode cX6_join 113 = .ok (.iload_n 2, 1) := by decide +kernel
theorem dX6_join_114 : decode cX6_join 114 = .ok (.if_icmp .ge 7, 3) := by decide +kernel
theorem dX6_join_117 : decode cX6_join 117 = .ok (.iconst 1, 1) := by decide +kernel
theorem dX6_join_118 : decode cX6_join 118 = .ok (.goto 4, 3) := by decide +kernel
theorem dX6_join_121 : decode cX6_join 121 = .ok (.iconst 0, 1) := by decide +kernel
theorem dX6_join_122 : decode cX6_join 122 = .ok (.ireturn, 1) := by decide +kernel
theorem dX6_join_123 : decode cX6_join 123 = .ok (.iload_n 0, 1) := by decide +kernel
theorem dX6_join_124 : decode cX6_join 124 = .ok (.iload_n 2, 1) := by decide +kernel
theorem dX6_join_125 : decode cX6_join 125 = .ok (.if_icmp .ne 7, 3) := by decide +kernel
theorem dX6_join_128 : decode cX6_join 128 = .ok (.iconst 1, 1) := by decide +kernel
theorem dX6_join_129 : decode cX6_join 129 = .ok (.goto 4, 3) := by decide +kernel
theorem dX6_join_132 : decode cX6_join 132 = .ok (.iconst 0, 1) := by decide +kernel
theorem dX6_join_133 : decode cX6_join 133 = .ok (.ireturn, 1) := by decide +kernel
theorem dX6_join_134 : decode cX6_join 134 = .ok (.iload_n 0, 1) := by decide +kernel
theorem dX6_join_135 : decode cX6_join 135 = .ok (.iload_n 2, 1) := by decide +kernel
theorem dX6_join_136 : decode cX6_join 136 = .ok (.if_icmp .le 7, 3) := by decide +kernel
theorem dX6_join_139 : decode cX6_join 139 = .ok (.iconst 1, 1) := by decide +kernel
theorem dX6_join_140 : decode cX6_join 140 = .ok (.goto 4, 3) := by decide +kernel
theorem dX6_join_143 : decode cX6_join 143 = .ok (.iconst 0, 1) := by decide +kernel
theorem dX6_join_144 : decode cX6_join 144 = .ok (.ireturn, 1) := by decide +kernel
theorem dX6_join_145 : decode cX6_join 145 = .ok (.iload_n 0, 1) := by decide +kernel
theorem dX6_join_146 : decode cX6_join 146 = .ok (.iload_n 2, 1) := by decide +kernel
theorem dX6_join_147 : decode cX6_join 147 = .ok (.iadd, 1) := by decide +kernel
theorem dX6_join_148 : decode cX6_join 148 = .ok (.ireturn, 1) := by decide +kernel
theorem dX6_join_149 : decode cX6_join 149 = .ok (.iload_n 0, 1) := by decide +kernel
theorem dX6_join_150 : decode cX6_join 150 = .ok (.iload_n 2, 1) := by decide +kernel
theorem dX6_join_151 : decode cX6_join 151 = .ok (.isub, 1) := by decide +kernel
theorem dX6_join_152 : decode cX6_join 152 = .ok (.ireturn, 1) := by decide +kernel
theorem dX6_join_153 : decode cX6_join 153 = .ok (.iload_n 0, 1) := by decide +kernel
theorem dX6_join_154 : decode cX6_join 154 = .ok (.iload_n 2, 1) := by decide +kernel
theorem dX6_join_155 : decode cX6_join 155 = .ok (.imul, 1) := by decide +kernel
theorem dX6_join_156 : decode cX6_join 156 = .ok (.ireturn, 1) := by decide +kernel
theorem dX6_join_157 : decode cX6_join 157 = .ok (.iload_n 2, 1) := by decide +kernel
theorem dX6_join_158 : decode cX6_join 158 = .ok (.ifCond .ne 7, 3) := by decide +kernel
theorem dX6_join_161 : decode cX6_join 161 = .ok (.iconst 0, 1) := by decide +kernel
theorem dX6_join_162 : decode cX6_join 162 = .ok (.goto 6, 3) := by decide +kernel
theorem dX6_join_165 : decode cX6_join 165 = .ok (.iload_n 0, 1) := by decide +kernel
theorem dX6_join_166 : decode cX6_join 166 = .ok (.iload_n 2, 1) := by decide +kernel
theorem dX6_join_167 : decode cX6_join 167 = .ok (.idiv, 1) := by decide +kernel
theorem dX6_join_168 : decode cX6_join 168 = .ok (.ireturn, 1) := by decide +kernel
theorem dX6_join_169 : decode cX6_join 169 = .ok (.iconst 0, 1) := by decide +kernel
theorem dX6_join_170 : decode cX6_join 170 = .ok (.ireturn, 1) := by decide +kernel
theorem dX7_init_0 : decode cX7_init 0 = .ok (.aload_n 0, 1) := by decide +kernel
theorem dX7_init_1 : decode cX7_init 1 = .ok (.invokespecial 3, 3) := by decide +kernel
theorem dX7_init_4 : decode cX7_init 4 = .ok (.aload_n 0, 1) := by decide +kernel
theorem dX7_init_5 : decode cX7_init 5 = .ok (.iconst 0, 1) := by decide +kernel
theorem dX7_init_6 : decode cX7_init 6 = .ok (.putfield 9, 3) := by decide +kernel
theorem dX7_init_9 : decode cX7_init 9 = .ok (.aload_n 0, 1) := by decide +kernel
theorem dX7_init_10 : decode cX7_init 10 = .ok (.iconst 0, 1) := by decide +kernel
theorem dX7_init_11 : decode cX7_init 11 = .ok (.iload_n 1, 1) := by decide +kernel
theorem dX7_init_12 : decode cX7_init 12 = .ok (.invokestatic 15, 3) := by decide +kernel
theorem dX7_init_15 : decode cX7_init 15 = .ok (.newarray .int, 2) := by decide +kernel
theorem dX7_init_17 : decode cX7_init 17 = .ok (.putfield 21, 3) := by decide +kernel
theorem dX7_init_20 : decode cX7_init 20 = .ok (.return_, 1) := by decide +kernel
theorem dX7_has_0 : decode cX7_has 0 = .ok (.iload_n 1, 1) := by decide +kernel
theorem dX7_has_1 : decode cX7_has 1 = .ok (.aload_n 0, 1) := by decide +kernel
theorem dX7_has_2 : decode cX7_has 2 = .ok (.getfield 9, 3) := by decide +kernel
theorem dX7_has_5 : decode cX7_has 5 = .ok (.invokestatic 25, 3) := by decide +kernel
theorem dX7_has_8 : decode cX7_has 8 = .ok (.ireturn, 1) := by decide +kernel
theorem dX7_add_0 : decode cX7_add 0 = .ok (.aload_n 0, 1) := by decide +kernel
theorem dX7_add_1 : decode cX7_add 1 = .ok (.getfield 9, 3) := by decide +kernel
theorem dX7_add_4 : decode cX7_add 4 = .ok (.aload_n 0, 1) := by decide +kernel
theorem dX7_add_5 : decode cX7_add 5 = .ok (.getfield 21, 3) := by decide +kernel
theorem dX7_add_8 : decode cX7_add 8 = .ok (.arraylength, 1) := by decide +kernel
theorem dX7_add_9 : decode cX7_add 9 = .ok (.if_icmp .lt 6, 3) := by decide +kernel
theorem dX7_add_12 : decode cX7_add 12 = .ok (.bipush (-3), 2) := by decide +kernel
theorem dX7_add_14 : decode cX7_add 14 = .ok (.ireturn, 1) := by decide +kernel
theorem dX7_add_15 : decode cX7_add 15 = .ok (.aload_n 0, 1) := by decide +kernel
theorem dX7_add_16 : decode cX7_add 16 = .ok (.getfield 21, 3) := by decide +kernel
theorem dX7_add_19 : decode cX7_add 19 = .ok (.aload_n 0, 1) := by decide +kernel
theorem dX7_add_20 : decode cX7_add 20 = .ok (.getfield 9, 3) := by decide +kernel
theorem dX7_add_23 : decode cX7_add 23 = .ok (.iload_n 1, 1) := by decide +kernel
theorem dX7_add_24 : decode cX7_add 24 = .ok (.iastore, 1) := by decide +kernel
theorem dX7_add_25 : decode cX7_add 25 = .ok (.aload_n 0, 1) := by decide +kernel
theorem dX7_add_26 : decode cX7_add 26 = .ok (.dup, 1) := by decide +kernel
theorem dX7_add_27 : decode cX7_add 27 = .ok (.getfield 9, 3) := by decide +kernel
theorem dX7_add_30 : decode cX7_add 30 = .ok (.iconst 1, 1) := by decide +kernel
theorem dX7_add_31 : decode cX7_add 31 = .ok (.iadd, 1) := by decide +kernel
theorem dX7_add_32 : decode cX7_add 32 = .ok (.putfield 9, 3) := by decide +kernel
theorem dX7_add_35 : decode cX7_add 35 = .ok (.aload_n 0, 1) := by decide +kernel
theorem dX7_add_36 : decode cX7_add 36 = .ok (.getfield 9, 3) := by decide +kernel
theorem dX7_add_39 : decode cX7_add 39 = .ok (.iconst 1, 1) := by decide +kernel
theorem dX7_add_40 : decode cX7_add 40 = .ok (.isub, 1) := by decide +kernel
theorem dX7_add_41 : decode cX7_add 41 = .ok (.ireturn, 1) := by decide +kernel
theorem dX7_milesTo_0 : decode cX7_milesTo 0 = .ok (.aload_n 0, 1) := by decide +kernel
theorem dX7_milesTo_1 : decode cX7_milesTo 1 = .ok (.getfield 21, 3) := by decide +kernel
theorem dX7_milesTo_4 : decode cX7_milesTo 4 = .ok (.iload_n 1, 1) := by decide +kernel
theorem dX7_milesTo_5 : decode cX7_milesTo 5 = .ok (.iaload, 1) := by decide +kernel
theorem dX7_milesTo_6 : decode cX7_milesTo 6 = .ok (.bipush 100, 2) := by decide +kernel
theorem dX7_milesTo_8 : decode cX7_milesTo 8 = .ok (.idiv, 1) := by decide +kernel
theorem dX7_milesTo_9 : decode cX7_milesTo 9 = .ok (.aload_n 2, 1) := by decide +kernel
theorem dX7_milesTo_10 : decode cX7_milesTo 10 = .ok (.getfield 21, 3) := by decide +kernel
theorem dX7_milesTo_13 : decode cX7_milesTo 13 = .ok (.iload_n 3, 1) := by decide +kernel
theorem dX7_milesTo_14 : decode cX7_milesTo 14 = .ok (.iaload, 1) := by decide +kernel
theorem dX7_milesTo_15 : decode cX7_milesTo 15 = .ok (.bipush 100, 2) := by decide +kernel
theorem dX7_milesTo_17 : decode cX7_milesTo 17 = .ok (.idiv, 1) := by decide +kernel
theorem dX7_milesTo_18 : decode cX7_milesTo 18 = .ok (.isub, 1) := by decide +kernel
theorem dX7_milesTo_19 : decode cX7_milesTo 19 = .ok (.istore 4, 2) := by decide +kernel
theorem dX7_milesTo_21 : decode cX7_milesTo 21 = .ok (.aload_n 0, 1) := by decide +kernel
theorem dX7_milesTo_22 : decode cX7_milesTo 22 = .ok (.getfield 21, 3) := by decide +kernel
theorem dX7_milesTo_25 : decode cX7_milesTo 25 = .ok (.iload_n 1, 1) := by decide +kernel
theorem dX7_milesTo_26 : decode cX7_milesTo 26 = .ok (.iaload, 1) := by decide +kernel
theorem dX7_milesTo_27 : decode cX7_milesTo 27 = .ok (.bipush 100, 2) := by decide +kernel
theorem dX7_milesTo_29 : decode cX7_milesTo 29 = .ok (.irem, 1) := by decide +kernel
theorem dX7_milesTo_30 : decode cX7_milesTo 30 = .ok (.aload_n 2, 1) := by decide +kernel
theorem dX7_milesTo_31 : decode cX7_milesTo 31 = .ok (.getfield 21, 3) := by decide +kernel
theorem dX7_milesTo_34 : decode cX7_milesTo 34 = .ok (.iload_n 3, 1) := by decide +kernel
theorem dX7_milesTo_35 : decode cX7_milesTo 35 = .ok (.iaload, 1) := by decide +kernel
theorem dX7_milesTo_36 : decode cX7_milesTo 36 = .ok (.bipush 100, 2) := by decide +kernel
theorem dX7_milesTo_38 : decode cX7_milesTo 38 = .ok (.irem, 1) := by decide +kernel
theorem dX7_milesTo_39 : decode cX7_milesTo 39 = .ok (.isub, 1) := by decide +kernel
theorem dX7_milesTo_40 : decode cX7_milesTo 40 = .ok (.istore 5, 2) := by decide +kernel
theorem dX7_milesTo_42 : decode cX7_milesTo 42 = .ok (.iload 4, 2) := by decide +kernel
theorem dX7_milesTo_44 : decode cX7_milesTo 44 = .ok (.invokestatic 29, 3) := by decide +kernel
theorem dX7_milesTo_47 : decode cX7_milesTo 47 = .ok (.iload 5, 2) := by decide +kernel
theorem dX7_milesTo_49 : decode cX7_milesTo 49 = .ok (.invokestatic 29, 3) := by decide +kernel
theorem dX7_milesTo_52 : decode cX7_milesTo 52 = .ok (.iadd, 1) := by decide +kernel
theorem dX7_milesTo_53 : decode cX7_milesTo 53 = .ok (.ireturn, 1) := by decide +kernel
theorem dX8_init_0 : decode cX8_init 0 = .ok (.aload_n 0, 1) := by decide +kernel
theorem dX8_init_1 : decode cX8_init 1 = .ok (.invokespecial 3, 3) := by decide +kernel
theorem dX8_init_4 : decode cX8_init 4 = .ok (.aload_n 0, 1) := by decide +kernel
theorem dX8_init_5 : decode cX8_init 5 = .ok (.sipush 600, 3) := by decide +kernel
theorem dX8_init_8 : decode cX8_init 8 = .ok (.newarray .int, 2) := by decide +kernel
theorem dX8_init_10 : decode cX8_init 10 = .ok (.putfield 9, 3) := by decide +kernel
theorem dX8_init_13 : decode cX8_init 13 = .ok (.aload_n 0, 1) := by decide +kernel
theorem dX8_init_14 : decode cX8_init 14 = .ok (.sipush 600, 3) := by decide +kernel
theorem dX8_init_17 : decode cX8_init 17 = .ok (.newarray .int, 2) := by decide +kernel
theorem dX8_init_19 : decode cX8_init 19 = .ok (.putfield 15, 3) := by decide +kernel
theorem dX8_init_22 : decode cX8_init 22 = .ok (.aload_n 0, 1) := by decide +kernel
theorem dX8_init_23 : decode cX8_init 23 = .ok (.sipush 600, 3) := by decide +kernel
theorem dX8_init_26 : decode cX8_init 26 = .ok (.newarray .int, 2) := by decide +kernel
theorem dX8_init_28 : decode cX8_init 28 = .ok (.putfield 18, 3) := by decide +kernel
theorem dX8_init_31 : decode cX8_init 31 = .ok (.aload_n 0, 1) := by decide +kernel
theorem dX8_init_32 : decode cX8_init 32 = .ok (.sipush 600, 3) := by decide +kernel
theorem dX8_init_35 : decode cX8_init 35 = .ok (.newarray .int, 2) := by decide +kernel
theorem dX8_init_37 : decode cX8_init 37 = .ok (.putfield 21, 3) := by decide +kernel
theorem dX8_init_40 : decode cX8_init 40 = .ok (.aload_n 0, 1) := by decide +kernel
theorem dX8_init_41 : decode cX8_init 41 = .ok (.sipush 600, 3) := by decide +kernel
theorem dX8_init_44 : decode cX8_init 44 = .ok (.newarray .int, 2) := by decide +kernel
theorem dX8_init_46 : decode cX8_init 46 = .ok (.putfield 24, 3) := by decide +kernel
theorem dX8_init_49 : decode cX8_init 49 = .ok (.aload_n 0, 1) := by decide +kernel
theorem dX8_init_50 : decode cX8_init 50 = .ok (.sipush 600, 3) := by decide +kernel
theorem dX8_init_53 : decode cX8_init 53 = .ok (.newarray .int, 2) := by decide +kernel
theorem dX8_init_55 : decode cX8_init 55 = .ok (.putfield 27, 3) := by decide +kernel
theorem dX8_init_58 : decode cX8_init 58 = .ok (.aload_n 0, 1) := by decide +kernel
theorem dX8_init_59 : decode cX8_init 59 = .ok (.sipush 600, 3) := by decide +kernel
theorem dX8_init_62 : decode cX8_init 62 = .ok (.newarray .int, 2) := by decide +kernel
theorem dX8_init_64 : decode cX8_init 64 = .ok (.putfield 30, 3) := by decide +kernel
theorem dX8_init_67 : decode cX8_init 67 = .ok (.aload_n 0, 1) := by decide +kernel
theorem dX8_init_68 : decode cX8_init 68 = .ok (.iconst 0, 1) := by decide +kernel
theorem dX8_init_69 : decode cX8_init 69 = .ok (.putfield 33, 3) := by decide +kernel
theorem dX8_init_72 : decode cX8_init 72 = .ok (.aload_n 0, 1) := by decide +kernel
theorem dX8_init_73 : decode cX8_init 73 = .ok (.sipush 600, 3) := by decide +kernel
theorem dX8_init_76 : decode cX8_init 76 = .ok (.newarray .int, 2) := by decide +kernel
theorem dX8_init_78 : decode cX8_init 78 = .ok (.putfield 37, 3) := by decide +kernel
theorem dX8_init_81 : decode cX8_init 81 = .ok (.aload_n 0, 1) := by decide +kernel
theorem dX8_init_82 : decode cX8_init 82 = .ok (.iconst 0, 1) := by decide +kernel
theorem dX8_init_83 : decode cX8_init 83 = .ok (.putfield 40, 3) := by decide +kernel
theorem dX8_init_86 : decode cX8_init 86 = .ok (.aload_n 0, 1) := by decide +kernel
theorem dX8_init_87 : decode cX8_init 87 = .ok (.sipush 1000, 3) := by decide +kernel
theorem dX8_init_90 : decode cX8_init 90 = .ok (.newarray .int, 2) := by decide +kernel
theorem dX8_init_92 : decode cX8_init 92 = .ok (.putfield 43, 3) := by decide +kernel
theorem dX8_init_95 : decode cX8_init 95 = .ok (.return_, 1) := by decide +kernel
theorem dX8_add_0 : decode cX8_add 0 = .ok (.aload_n 0, 1) := by decide +kernel
theorem dX8_add_1 : decode cX8_add 1 = .ok (.getfield 33, 3) := by decide +kernel
theorem dX8_add_4 : decode cX8_add 4 = .ok (.sipush 600, 3) := by decide +kernel
theorem dX8_add_7 : decode cX8_add 7 = .ok (.if_icmp .ge 43, 3) := by decide +kernel
theorem dX8_add_10 : decode cX8_add 10 = .ok (.aload_n 0, 1) := by decide +kernel
theorem dX8_add_11 : decode cX8_add 11 = .ok (.getfield 9, 3) := by decide +kernel
theorem dX8_add_14 : decode cX8_add 14 = .ok (.aload_n 0, 1) := by decide +kernel
theorem dX8_add_15 : decode cX8_add 15 = .ok (.getfield 33, 3) := by decide +kernel
theorem dX8_add_18 : decode cX8_add 18 = .ok (.iload_n 1, 1) := by decide +kernel
theorem dX8_add_19 : decode cX8_add 19 = .ok (.iastore, 1) := by decide +kernel
theorem dX8_add_20 : decode cX8_add 20 = .ok (.aload_n 0, 1) := by decide +kernel
theorem dX8_add_21 : decode cX8_add 21 = .ok (.getfield 15, 3) := by decide +kernel
theorem dX8_add_24 : decode cX8_add 24 = .ok (.aload_n 0, 1) := by decide +kernel
theorem dX8_add_25 : decode cX8_add 25 = .ok (.getfield 33, 3) := by decide +kernel
theorem dX8_add_28 : decode cX8_add 28 = .ok (.iload_n 2, 1) := by decide +kernel
theorem dX8_add_29 : decode cX8_add 29 = .ok (.iastore, 1) := by decide +kernel
theorem dX8_add_30 : decode cX8_add 30 = .ok (.aload_n 0, 1) := by decide +kernel
theorem dX8_add_31 : decode cX8_add 31 = .ok (.getfield 18, 3) := by decide +kernel
theorem dX8_add_34 : decode cX8_add 34 = .ok (.aload_n 0, 1) := by decide +kernel
theorem dX8_add_35 : decode cX8_add 35 = .ok (.getfield 33, 3) := by decide +kernel
theorem dX8_add_38 : decode cX8_add 38 = .ok (.iload_n 3, 1) := by decide +kernel
theorem dX8_add_39 : decode cX8_add 39 = .ok (.iastore, 1) := by decide +kernel
theorem dX8_add_40 : decode cX8_add 40 = .ok (.aload_n 0, 1) := by decide +kernel
theorem dX8_add_41 : decode cX8_add 41 = .ok (.dup, 1) := by decide +kernel
theorem dX8_add_42 : decode cX8_add 42 = .ok (.getfield 33, 3) := by decide +kernel
theorem dX8_add_45 : decode cX8_add 45 = .ok (.iconst 1, 1) := by decide +kernel
theorem dX8_add_46 : decode cX8_add 46 = .ok (.iadd, 1) := by decide +kernel
theorem dX8_add_47 : decode cX8_add 47 = .ok (.putfield 33, 3) := by decide +kernel
theorem dX8_add_50 : decode cX8_add 50 = .ok (.aload_n 0, 1) := by decide +kernel
theorem dX8_add_51 : decode cX8_add 51 = .ok (.getfield 33, 3) := by decide +kernel
theorem dX8_add_54 : decode cX8_add 54 = .ok (.iconst 1, 1) := by decide +kernel
theorem dX8_add_55 : decode cX8_add 55 = .ok (.isub, 1) := by decide +kernel
theorem dX8_add_56 : decode cX8_add 56 = .ok (.ireturn, 1) := by decide +kernel
theorem dX8_has_0 : decode cX8_has 0 = .ok (.aload_n 0, 1) := by decide +kernel
theorem dX8_has_1 : decode cX8_has 1 = .ok (.getfield 33, 3) := by decide +kernel
theorem dX8_has_4 : decode cX8_has 4 = .ok (.iconst 1, 1) := by decide +kernel
theorem dX8_has_5 : decode cX8_has 5 = .ok (.isub, 1) := by decide +kernel
theorem dX8_has_6 : decode cX8_has 6 = .ok (.istore 4, 2) := by decide +kernel
theorem dX8_has_8 : decode cX8_has 8 = .ok (.iload 4, 2) := by decide +kernel
theorem dX8_has_10 : decode cX8_has 10 = .ok (.ifCond .lt 44, 3) := by decide +kernel
theorem dX8_has_13 : decode cX8_has 13 = .ok (.aload_n 0, 1) := by decide +kernel
theorem dX8_has_14 : decode cX8_has 14 = .ok (.getfield 18, 3) := by decide +kernel
theorem dX8_has_17 : decode cX8_has 17 = .ok (.iload 4, 2) := by decide +kernel
theorem dX8_has_19 : decode cX8_has 19 = .ok (.iaload, 1) := by decide +kernel
theorem dX8_has_20 : decode cX8_has 20 = .ok (.iload_n 3, 1) := by decide +kernel
theorem dX8_has_21 : decode cX8_has 21 = .ok (.if_icmp .ne 33, 3) := by decide +kernel
theorem dX8_has_24 : decode cX8_has 24 = .ok (.aload_n 0, 1) := by decide +kernel
theorem dX8_has_25 : decode cX8_has 25 = .ok (.getfield 9, 3) := by decide +kernel
theorem dX8_has_28 : decode cX8_has 28 = .ok (.iload 4, 2) := by decide +kernel
theorem dX8_has_30 : decode cX8_has 30 = .ok (.iaload, 1) := by decide +kernel
theorem dX8_has_31 : decode cX8_has 31 = .ok (.iload_n 1, 1) := by decide +kernel
theorem dX8_has_32 : decode cX8_has 32 = .ok (.if_icmp .ne 16, 3) := by decide +kernel
theorem dX8_has_35 : decode cX8_has 35 = .ok (.aload_n 0, 1) := by decide +kernel
theorem dX8_has_36 : decode cX8_has 36 = .ok (.getfield 15, 3) := by decide +kernel
theorem dX8_has_39 : decode cX8_has 39 = .ok (.iload 4, 2) := by decide +kernel
theorem dX8_has_41 : decode cX8_has 41 = .ok (.iaload, 1) := by decide +kernel
theorem dX8_has_42 : decode cX8_has 42 = .ok (.iload_n 2, 1) := by decide +kernel
theorem dX8_has_43 : decode cX8_has 43 = .ok (.if_icmp .ne 5, 3) := by decide +kernel
theorem dX8_has_46 : decode cX8_has 46 = .ok (.iconst 1, 1) := by decide +kernel
theorem dX8_has_47 : decode cX8_has 47 = .ok (.ireturn, 1) := by decide +kernel
theorem dX8_has_48 : decode cX8_has 48 = .ok (.iinc 4 (-1), 3) := by decide +kernel
theorem dX8_has_51 : decode cX8_has 51 = .ok (.goto (-43), 3) := by decide +kernel
theorem dX8_has_54 : decode cX8_has 54 = .ok (.iconst 0, 1) := by decide +kernel
theorem dX8_has_55 : decode cX8_has 55 = .ok (.ireturn, 1) := by decide +kernel
theorem dX8_lackInAll_0 : decode cX8_lackInAll 0 = .ok (.iconst 0, 1) := by decide +kernel
theorem dX8_lackInAll_1 : decode cX8_lackInAll 1 = .ok (.istore_n 1, 1) := by decide +kernel
theorem dX8_lackInAll_2 : decode cX8_lackInAll 2 = .ok (.iconst 0, 1) := by decide +kernel
theorem dX8_lackInAll_3 : decode cX8_lackInAll 3 = .ok (.istore_n 2, 1) := by decide +kernel
theorem dX8_lackInAll_4 : decode cX8_lackInAll 4 = .ok (.iload_n 2, 1) := by decide +kernel
theorem dX8_lackInAll_5 : decode cX8_lackInAll 5 = .ok (.aload_n 0, 1) := by decide +kernel
theorem dX8_lackInAll_6 : decode cX8_lackInAll 6 = .ok (.getfield 33, 3) := by decide +kernel
theorem dX8_lackInAll_9 : decode cX8_lackInAll 9 = .ok (.if_icmp .ge 25, 3) := by decide +kernel
theorem dX8_lackInAll_12 : decode cX8_lackInAll 12 = .ok (.iload_n 1, 1) := by decide +kernel
theorem dX8_lackInAll_13 : decode cX8_lackInAll 13 = .ok (.aload_n 0, 1) := by decide +kernel
theorem dX8_lackInAll_14 : decode cX8_lackInAll 14 = .ok (.getfield 27, 3) := by decide +kernel
theorem dX8_lackInAll_17 : decode cX8_lackInAll 17 = .ok (.iload_n 2, 1) := by decide +kernel
theorem dX8_lackInAll_18 : decode cX8_lackInAll 18 = .ok (.iaload, 1) := by decide +kernel
theorem dX8_lackInAll_19 : decode cX8_lackInAll 19 = .ok (.aload_n 0, 1) := by decide +kernel
theorem dX8_lackInAll_20 : decode cX8_lackInAll 20 = .ok (.getfield 30, 3) := by decide +kernel
theorem dX8_lackInAll_23 : decode cX8_lackInAll 23 = .ok (.iload_n 2, 1) := by decide +kernel
theorem dX8_lackInAll_24 : decode cX8_lackInAll 24 = .ok (.iaload, 1) := by decide +kernel
theorem dX8_lackInAll_25 : decode cX8_lackInAll 25 = .ok (.isub, 1) := by decide +kernel
theorem dX8_lackInAll_26 : decode cX8_lackInAll 26 = .ok (.iadd, 1) := by decide +kernel
theorem dX8_lackInAll_27 : decode cX8_lackInAll 27 = .ok (.istore_n 1, 1) := by decide +kernel
theorem dX8_lackInAll_28 : decode cX8_lackInAll 28 = .ok (.iinc 2 1, 3) := by decide +kernel
theorem dX8_lackInAll_31 : decode cX8_lackInAll 31 = .ok (.goto (-27), 3) := by decide +kernel
theorem dX8_lackInAll_34 : decode cX8_lackInAll 34 = .ok (.iload_n 1, 1) := by decide +kernel
theorem dX8_lackInAll_35 : decode cX8_lackInAll 35 = .ok (.ireturn, 1) := by decide +kernel
theorem dX8_foretell_0 : decode cX8_foretell 0 = .ok (.iconst 0, 1) := by decide +kernel
theorem dX8_foretell_1 : decode cX8_foretell 1 = .ok (.istore 7, 2) := by decide +kernel
theorem dX8_foretell_3 : decode cX8_foretell 3 = .ok (.iconst 0, 1) := by decide +kernel
theorem dX8_foretell_4 : decode cX8_foretell 4 = .ok (.istore 8, 2) := by decide +kernel
theorem dX8_foretell_6 : decode cX8_foretell 6 = .ok (.iconst 0, 1) := by decide +kernel
theorem dX8_foretell_7 : decode cX8_foretell 7 = .ok (.istore 9, 2) := by decide +kernel
theorem dX8_foretell_9 : decode cX8_foretell 9 = .ok (.iconst 0, 1) := by decide +kernel
theorem dX8_foretell_10 : decode cX8_foretell 10 = .ok (.istore 10, 2) := by decide +kernel
theorem dX8_foretell_12 : decode cX8_foretell 12 = .ok (.iconst 0, 1) := by decide +kernel
theorem dX8_foretell_13 : decode cX8_foretell 13 = .ok (.istore 11, 2) := by decide +kernel
theorem dX8_foretell_15 : decode cX8_foretell 15 = .ok (.iconst 0, 1) := by decide +kernel
theorem dX8_foretell_16 : decode cX8_foretell 16 = .ok (.istore 12, 2) := by decide +kernel
theorem dX8_foretell_18 : decode cX8_foretell 18 = .ok (.iconst 0, 1) := by decide +kernel
theorem dX8_foretell_19 : decode cX8_foretell 19 = .ok (.istore 13, 2) := by decide +kernel
theorem dX8_foretell_21 : decode cX8_foretell 21 = .ok (.iload 13, 2) := by decide +kernel
theorem dX8_foretell_23 : decode cX8_foretell 23 = .ok (.aload_n 0, 1) := by decide +kernel
theorem dX8_foretell_24 : decode cX8_foretell 24 = .ok (.getfield 33, 3) := by decide +kernel
theorem dX8_foretell_27 : decode cX8_foretell 27 = .ok (.if_icmp .ge 132, 3) := by decide +kernel
theorem dX8_foretell_30 : decode cX8_foretell 30 = .ok (.aload_n 0, 1) := by decide +kernel
theorem dX8_foretell_31 : decode cX8_foretell 31 = .ok (.getfield 18, 3) := by decide +kernel
theorem dX8_foretell_34 : decode cX8_foretell 34 = .ok (.iload 13, 2) := by decide +kernel
theorem dX8_foretell_36 : decode cX8_foretell 36 = .ok (.iaload, 1) := by decide +kernel
theorem dX8_foretell_37 : decode cX8_foretell 37 = .ok (.bipush 24, 2) := by decide +kernel
theorem dX8_foretell_39 : decode cX8_foretell 39 = .ok (.idiv, 1) := by decide +kernel
theorem dX8_foretell_40 : decode cX8_foretell 40 = .ok (.iload 6, 2) := by decide +kernel
theorem dX8_foretell_42 : decode cX8_foretell 42 = .ok (.if_icmp .gt 117, 3) := by decide +kernel
theorem dX8_foretell_45 : decode cX8_foretell 45 = .ok (.aload_n 0, 1) := by decide +kernel
theorem dX8_foretell_46 : decode cX8_foretell 46 = .ok (.getfield 15, 3) := by decide +kernel
theorem dX8_foretell_49 : decode cX8_foretell 49 = .ok (.iload 13, 2) := by decide +kernel
theorem dX8_foretell_51 : decode cX8_foretell 51 = .ok (.iaload, 1) := by decide +kernel
theorem dX8_foretell_52 : decode cX8_foretell 52 = .ok (.iload_n 2, 1) := by decide +kernel
theorem dX8_foretell_53 : decode cX8_foretell 53 = .ok (.if_icmp .ne 100, 3) := by decide +kernel
theorem dX8_foretell_56 : decode cX8_foretell 56 = .ok (.aload_n 0, 1) := by decide +kernel
theorem dX8_foretell_57 : decode cX8_foretell 57 = .ok (.getfield 18, 3) := by decide +kernel
theorem dX8_foretell_60 : decode cX8_foretell 60 = .ok (.iload 13, 2) := by decide +kernel
theorem dX8_foretell_62 : decode cX8_foretell 62 = .ok (.iaload, 1) := by decide +kernel
theorem dX8_foretell_63 : decode cX8_foretell 63 = .ok (.bipush 24, 2) := by decide +kernel
theorem dX8_foretell_65 : decode cX8_foretell 65 = .ok (.irem, 1) := by decide +kernel
theorem dX8_foretell_66 : decode cX8_foretell 66 = .ok (.iload_n 3, 1) := by decide +kernel
theorem dX8_foretell_67 : decode cX8_foretell 67 = .ok (.if_icmp .ne 86, 3) := by decide +kernel
theorem dX8_foretell_70 : decode cX8_foretell 70 = .ok (.aload_n 0, 1) := by decide +kernel
theorem dX8_foretell_71 : decode cX8_foretell 71 = .ok (.getfield 21, 3) := by decide +kernel
theorem dX8_foretell_74 : decode cX8_foretell 74 = .ok (.iload 13, 2) := by decide +kernel
theorem dX8_foretell_76 : decode cX8_foretell 76 = .ok (.iaload, 1) := by decide +kernel
theorem dX8_foretell_77 : decode cX8_foretell 77 = .ok (.iload 4, 2) := by decide +kernel
theorem dX8_foretell_79 : decode cX8_foretell 79 = .ok (.if_icmp .eq 6, 3) := by decide +kernel
theorem dX8_foretell_82 : decode cX8_foretell 82 = .ok (.goto 71, 3) := by decide +kernel
theorem dX8_foretell_85 : decode cX8_foretell 85 = .ok (.iinc 11 1, 3) := by decide +kernel
theorem dX8_foretell_88 : decode cX8_foretell 88 = .ok (.iload 12, 2) := by decide +kernel
theorem dX8_foretell_90 : decode cX8_foretell 90 = .ok (.aload_n 0, 1) := by decide +kernel
theorem dX8_foretell_91 : decode cX8_foretell 91 = .ok (.getfield 27, 3) := by decide +kernel
theorem dX8_foretell_94 : decode cX8_foretell 94 = .ok (.iload 13, 2) := by decide +kernel
theorem dX8_foretell_96 : decode cX8_foretell 96 = .ok (.iaload, 1) := by decide +kernel
theorem dX8_foretell_97 : decode cX8_foretell 97 = .ok (.iadd, 1) := by decide +kernel
theorem dX8_foretell_98 : decode cX8_foretell 98 = .ok (.istore 12, 2) := by decide +kernel
theorem dX8_foretell_100 : decode cX8_foretell 100 = .ok (.aload_n 0, 1) := by decide +kernel
theorem dX8_foretell_101 : decode cX8_foretell 101 = .ok (.getfield 9, 3) := by decide +kernel
theorem dX8_foretell_104 : decode cX8_foretell 104 = .ok (.iload 13, 2) := by decide +kernel
theorem dX8_foretell_106 : decode cX8_foretell 106 = .ok (.iaload, 1) := by decide +kernel
theorem dX8_foretell_107 : decode cX8_foretell 107 = .ok (.iload_n 1, 1) := by decide +kernel
theorem dX8_foretell_108 : decode cX8_foretell 108 = .ok (.if_icmp .ne 45, 3) := by decide +kernel
theorem dX8_foretell_111 : decode cX8_foretell 111 = .ok (.iinc 9 1, 3) := by decide +kernel
theorem dX8_foretell_114 : decode cX8_foretell 114 = .ok (.iload 10, 2) := by decide +kernel
theorem dX8_foretell_116 : decode cX8_foretell 116 = .ok (.aload_n 0, 1) := by decide +kernel
theorem dX8_foretell_117 : decode cX8_foretell 117 = .ok (.getfield 27, 3) := by decide +kernel
theorem dX8_foretell_120 : decode cX8_foretell 120 = .ok (.iload 13, 2) := by decide +kernel
theorem dX8_foretell_122 : decode cX8_foretell 122 = .ok (.iaload, 1) := by decide +kernel
theorem dX8_foretell_123 : decode cX8_foretell 123 = .ok (.iadd, 1) := by decide +kernel
theorem dX8_foretell_124 : decode cX8_foretell 124 = .ok (.istore 10, 2) := by decide +kernel
theorem dX8_foretell_126 : decode cX8_foretell 126 = .ok (.aload_n 0, 1) := by decide +kernel
theorem dX8_foretell_127 : decode cX8_foretell 127 = .ok (.getfield 24, 3) := by decide +kernel
theorem dX8_foretell_130 : decode cX8_foretell 130 = .ok (.iload 13, 2) := by decide +kernel
theorem dX8_foretell_132 : decode cX8_foretell 132 = .ok (.iaload, 1) := by decide +kernel
theorem dX8_foretell_133 : decode cX8_foretell 133 = .ok (.iload 5, 2) := by decide +kernel
theorem dX8_foretell_135 : decode cX8_foretell 135 = .ok (.if_icmp .ne 18, 3) := by decide +kernel
theorem dX8_foretell_138 : decode cX8_foretell 138 = .ok (.iinc 7 1, 3) := by decide +kernel
theorem dX8_foretell_141 : decode cX8_foretell 141 = .ok (.iload 8, 2) := by decide +kernel
theorem dX8_foretell_143 : decode cX8_foretell 143 = .ok (.aload_n 0, 1) := by decide +kernel
theorem dX8_foretell_144 : decode cX8_foretell 144 = .ok (.getfield 27, 3) := by decide +kernel
theorem dX8_foretell_147 : decode cX8_foretell 147 = .ok (.iload 13, 2) := by decide +kernel
theorem dX8_foretell_149 : decode cX8_foretell 149 = .ok (.iaload, 1) := by decide +kernel
theorem dX8_foretell_150 : decode cX8_foretell 150 = .ok (.iadd, 1) := by decide +kernel
theorem dX8_foretell_151 : decode cX8_foretell 151 = .ok (.istore 8, 2) := by decide +kernel
theorem dX8_foretell_153 : decode cX8_foretell 153 = .ok (.iinc 13 1, 3) := by decide +kernel
theorem dX8_foretell_156 : decode cX8_foretell 156 = .ok (.goto (-135), 3) := by decide +kernel
theorem dX8_foretell_159 : decode cX8_foretell 159 = .ok (.iload 7, 2) := by decide +kernel
theorem dX8_foretell_161 : decode cX8_foretell 161 = .ok (.iconst 3, 1) := by decide +kernel
theorem dX8_foretell_162 : decode cX8_foretell 162 = .ok (.if_icmp .lt 11, 3) := by decide +kernel
theorem dX8_foretell_165 : decode cX8_foretell 165 = .ok (.iload 8, 2) := by decide +kernel
theorem dX8_foretell_167 : decode cX8_foretell 167 = .ok (.iload 7, 2) := by decide +kernel
theorem dX8_foretell_169 : decode cX8_foretell 169 = .ok (.invokestatic 46, 3) := by decide +kernel
theorem dX8_foretell_172 : decode cX8_foretell 172 = .ok (.ireturn, 1) := by decide +kernel
theorem dX8_foretell_173 : decode cX8_foretell 173 = .ok (.iload 9, 2) := by decide +kernel
theorem dX8_foretell_175 : decode cX8_foretell 175 = .ok (.iconst 3, 1) := by decide +kernel
theorem dX8_foretell_176 : decode cX8_foretell 176 = .ok (.if_icmp .lt 13, 3) := by decide +kernel
theorem dX8_foretell_179 : decode cX8_foretell 179 = .ok (.iload 10, 2) := by decide +kernel
theorem dX8_foretell_181 : decode cX8_foretell 181 = .ok (.iload 9, 2) := by decide +kernel
theorem dX8_foretell_183 : decode cX8_foretell 183 = .ok (.invokestatic 46, 3) := by decide +kernel
theorem dX8_foretell_186 : decode cX8_foretell 186 = .ok (.goto 10, 3) := by decide +kernel
theorem dX8_foretell_189 : decode cX8_foretell 189 = .ok (.iload 12, 2) := by decide +kernel
theorem dX8_foretell_191 : decode cX8_foretell 191 = .ok (.iload 11, 2) := by decide +kernel
theorem dX8_foretell_193 : decode cX8_foretell 193 = .ok (.invokestatic 46, 3) := by decide +kernel
theorem dX8_foretell_196 : decode cX8_foretell 196 = .ok (.ireturn, 1) := by decide +kernel
theorem dX8_mean_0 : decode cX8_mean 0 = .ok (.iload_n 1, 1) := by decide +kernel
theorem dX8_mean_1 : decode cX8_mean 1 = .ok (.ifCond .ne 7, 3) := by decide +kernel
theorem dX8_mean_4 : decode cX8_mean 4 = .ok (.iconst 0, 1) := by decide +kernel
theorem dX8_mean_5 : decode cX8_mean 5 = .ok (.goto 12, 3) := by decide +kernel
theorem dX8_mean_8 : decode cX8_mean 8 = .ok (.iconst 2, 1) := by decide +kernel
theorem dX8_mean_9 : decode cX8_mean 9 = .ok (.iload_n 0, 1) := by decide +kernel
theorem dX8_mean_10 : decode cX8_mean 10 = .ok (.imul, 1) := by decide +kernel
theorem dX8_mean_11 : decode cX8_mean 11 = .ok (.iload_n 1, 1) := by decide +kernel
theorem dX8_mean_12 : decode cX8_mean 12 = .ok (.iadd, 1) := by decide +kernel
theorem dX8_mean_13 : decode cX8_mean 13 = .ok (.iconst 2, 1) := by decide +kernel
theorem dX8_mean_14 : decode cX8_mean 14 = .ok (.iload_n 1, 1) := by decide +kernel
theorem dX8_mean_15 : decode cX8_mean 15 = .ok (.imul, 1) := by decide +kernel
theorem dX8_mean_16 : decode cX8_mean 16 = .ok (.idiv, 1) := by decide +kernel
theorem dX8_mean_17 : decode cX8_mean 17 = .ok (.ireturn, 1) := by decide +kernel
theorem dX8_askedEarly_0 : decode cX8_askedEarly 0 = .ok (.iconst 0, 1) := by decide +kernel
theorem dX8_askedEarly_1 : decode cX8_askedEarly 1 = .ok (.istore 5, 2) := by decide +kernel
theorem dX8_askedEarly_3 : decode cX8_askedEarly 3 = .ok (.iconst 0, 1) := by decide +kernel
theorem dX8_askedEarly_4 : decode cX8_askedEarly 4 = .ok (.istore 6, 2) := by decide +kernel
theorem dX8_askedEarly_6 : decode cX8_askedEarly 6 = .ok (.iload 6, 2) := by decide +kernel
theorem dX8_askedEarly_8 : decode cX8_askedEarly 8 = .ok (.aload_n 0, 1) := by decide +kernel
theorem dX8_askedEarly_9 : decode cX8_askedEarly 9 = .ok (.getfield 33, 3) := by decide +kernel
theorem dX8_askedEarly_12 : decode cX8_askedEarly 12 = .ok (.if_icmp .ge 93, 3) := by decide +kernel
theorem dX8_askedEarly_15 : decode cX8_askedEarly 15 = .ok (.aload_n 0, 1) := by decide +kernel
theorem dX8_askedEarly_16 : decode cX8_askedEarly 16 = .ok (.getfield 18, 3) := by decide +kernel
theorem dX8_askedEarly_19 : decode cX8_askedEarly 19 = .ok (.iload 6, 2) := by decide +kernel
theorem dX8_askedEarly_21 : decode cX8_askedEarly 21 = .ok (.iaload, 1) := by decide +kernel
theorem dX8_askedEarly_22 : decode cX8_askedEarly 22 = .ok (.bipush 24, 2) := by decide +kernel
theorem dX8_askedEarly_24 : decode cX8_askedEarly 24 = .ok (.irem, 1) := by decide +kernel
theorem dX8_askedEarly_25 : decode cX8_askedEarly 25 = .ok (.bipush 13, 2) := by decide +kernel
theorem dX8_askedEarly_27 : decode cX8_askedEarly 27 = .ok (.if_icmp .gt 7, 3) := by decide +kernel
theorem dX8_askedEarly_30 : decode cX8_askedEarly 30 = .ok (.iconst 1, 1) := by decide +kernel
theorem dX8_askedEarly_31 : decode cX8_askedEarly 31 = .ok (.goto 4, 3) := by decide +kernel
theorem dX8_askedEarly_34 : decode cX8_askedEarly 34 = .ok (.iconst 0, 1) := by decide +kernel
theorem dX8_askedEarly_35 : decode cX8_askedEarly 35 = .ok (.istore 7, 2) := by decide +kernel
theorem dX8_askedEarly_37 : decode cX8_askedEarly 37 = .ok (.aload_n 0, 1) := by decide +kernel
theorem dX8_askedEarly_38 : decode cX8_askedEarly 38 = .ok (.getfield 18, 3) := by decide +kernel
theorem dX8_askedEarly_41 : decode cX8_askedEarly 41 = .ok (.iload 6, 2) := by decide +kernel
theorem dX8_askedEarly_43 : decode cX8_askedEarly 43 = .ok (.iaload, 1) := by decide +kernel
theorem dX8_askedEarly_44 : decode cX8_askedEarly 44 = .ok (.bipush 24, 2) := by decide +kernel
theorem dX8_askedEarly_46 : decode cX8_askedEarly 46 = .ok (.idiv, 1) := by decide +kernel
theorem dX8_askedEarly_47 : decode cX8_askedEarly 47 = .ok (.istore 8, 2) := by decide +kernel
theorem dX8_askedEarly_49 : decode cX8_askedEarly 49 = .ok (.iload 7, 2) := by decide +kernel
theorem dX8_askedEarly_51 : decode cX8_askedEarly 51 = .ok (.ifCond .eq 48, 3) := by decide +kernel
theorem dX8_askedEarly_54 : decode cX8_askedEarly 54 = .ok (.aload_n 0, 1) := by decide +kernel
theorem dX8_askedEarly_55 : decode cX8_askedEarly 55 = .ok (.getfield 9, 3) := by decide +kernel
theorem dX8_askedEarly_58 : decode cX8_askedEarly 58 = .ok (.iload 6, 2) := by decide +kernel
theorem dX8_askedEarly_60 : decode cX8_askedEarly 60 = .ok (.iaload, 1) := by decide +kernel
theorem dX8_askedEarly_61 : decode cX8_askedEarly 61 = .ok (.iload_n 1, 1) := by decide +kernel
theorem dX8_askedEarly_62 : decode cX8_askedEarly 62 = .ok (.if_icmp .ne 37, 3) := by decide +kernel
theorem dX8_askedEarly_65 : decode cX8_askedEarly 65 = .ok (.aload_n 0, 1) := by decide +kernel
theorem dX8_askedEarly_66 : decode cX8_askedEarly 66 = .ok (.getfield 15, 3) := by decide +kernel
theorem dX8_askedEarly_69 : decode cX8_askedEarly 69 = .ok (.iload 6, 2) := by decide +kernel
theorem dX8_askedEarly_71 : decode cX8_askedEarly 71 = .ok (.iaload, 1) := by decide +kernel
theorem dX8_askedEarly_72 : decode cX8_askedEarly 72 = .ok (.iload_n 2, 1) := by decide +kernel
theorem dX8_askedEarly_73 : decode cX8_askedEarly 73 = .ok (.if_icmp .ne 26, 3) := by decide +kernel
theorem dX8_askedEarly_76 : decode cX8_askedEarly 76 = .ok (.iload_n 3, 1) := by decide +kernel
theorem dX8_askedEarly_77 : decode cX8_askedEarly 77 = .ok (.iload 8, 2) := by decide +kernel
theorem dX8_askedEarly_79 : decode cX8_askedEarly 79 = .ok (.iload 4, 2) := by decide +kernel
theorem dX8_askedEarly_81 : decode cX8_askedEarly 81 = .ok (.invokestatic 50, 3) := by decide +kernel
theorem dX8_askedEarly_84 : decode cX8_askedEarly 84 = .ok (.ifCond .eq 15, 3) := by decide +kernel
theorem dX8_askedEarly_87 : decode cX8_askedEarly 87 = .ok (.iload 5, 2) := by decide +kernel
theorem dX8_askedEarly_89 : decode cX8_askedEarly 89 = .ok (.aload_n 0, 1) := by decide +kernel
theorem dX8_askedEarly_90 : decode cX8_askedEarly 90 = .ok (.getfield 27, 3) := by decide +kernel
theorem dX8_askedEarly_93 : decode cX8_askedEarly 93 = .ok (.iload 6, 2) := by decide +kernel
theorem dX8_askedEarly_95 : decode cX8_askedEarly 95 = .ok (.iaload, 1) := by decide +kernel
theorem dX8_askedEarly_96 : decode cX8_askedEarly 96 = .ok (.iadd, 1) := by decide +kernel
theorem dX8_askedEarly_97 : decode cX8_askedEarly 97 = .ok (.istore 5, 2) := by decide +kernel
theorem dX8_askedEarly_99 : decode cX8_askedEarly 99 = .ok (.iinc 6 1, 3) := by decide +kernel
theorem dX8_askedEarly_102 : decode cX8_askedEarly 102 = .ok (.goto (-96), 3) := by decide +kernel
theorem dX8_askedEarly_105 : decode cX8_askedEarly 105 = .ok (.iload 5, 2) := by decide +kernel
theorem dX8_askedEarly_107 : decode cX8_askedEarly 107 = .ok (.ireturn, 1) := by decide +kernel
theorem dX8_sumDays_0 : decode cX8_sumDays 0 = .ok (.iconst (-1), 1) := by decide +kernel
theorem dX8_sumDays_1 : decode cX8_sumDays 1 = .ok (.istore 6, 2) := by decide +kernel
theorem dX8_sumDays_3 : decode cX8_sumDays 3 = .ok (.aload_n 0, 1) := by decide +kernel
theorem dX8_sumDays_4 : decode cX8_sumDays 4 = .ok (.iconst 0, 1) := by decide +kernel
theorem dX8_sumDays_5 : decode cX8_sumDays 5 = .ok (.putfield 40, 3) := by decide +kernel
theorem dX8_sumDays_8 : decode cX8_sumDays 8 = .ok (.iconst 0, 1) := by decide +kernel
theorem dX8_sumDays_9 : decode cX8_sumDays 9 = .ok (.istore 7, 2) := by decide +kernel
theorem dX8_sumDays_11 : decode cX8_sumDays 11 = .ok (.iload 7, 2) := by decide +kernel
theorem dX8_sumDays_13 : decode cX8_sumDays 13 = .ok (.aload_n 0, 1) := by decide +kernel
theorem dX8_sumDays_14 : decode cX8_sumDays 14 = .ok (.getfield 33, 3) := by decide +kernel
theorem dX8_sumDays_17 : decode cX8_sumDays 17 = .ok (.if_icmp .ge 146, 3) := by decide +kernel
theorem dX8_sumDays_20 : decode cX8_sumDays 20 = .ok (.aload_n 0, 1) := by decide +kernel
theorem dX8_sumDays_21 : decode cX8_sumDays 21 = .ok (.getfield 18, 3) := by decide +kernel
theorem dX8_sumDays_24 : decode cX8_sumDays 24 = .ok (.iload 7, 2) := by decide +kernel
theorem dX8_sumDays_26 : decode cX8_sumDays 26 = .ok (.iaload, 1) := by decide +kernel
theorem dX8_sumDays_27 : decode cX8_sumDays 27 = .ok (.bipush 24, 2) := by decide +kernel
theorem dX8_sumDays_29 : decode cX8_sumDays 29 = .ok (.idiv, 1) := by decide +kernel
theorem dX8_sumDays_30 : decode cX8_sumDays 30 = .ok (.iload 5, 2) := by decide +kernel
theorem dX8_sumDays_32 : decode cX8_sumDays 32 = .ok (.if_icmp .gt 131, 3) := by decide +kernel
theorem dX8_sumDays_35 : decode cX8_sumDays 35 = .ok (.aload_n 0, 1) := by decide +kernel
theorem dX8_sumDays_36 : decode cX8_sumDays 36 = .ok (.getfield 18, 3) := by decide +kernel
theorem dX8_sumDays_39 : decode cX8_sumDays 39 = .ok (.iload 7, 2) := by decide +kernel
theorem dX8_sumDays_41 : decode cX8_sumDays 41 = .ok (.iaload, 1) := by decide +kernel
theorem dX8_sumDays_42 : decode cX8_sumDays 42 = .ok (.bipush 24, 2) := by decide +kernel
theorem dX8_sumDays_44 : decode cX8_sumDays 44 = .ok (.idiv, 1) := by decide +kernel
theorem dX8_sumDays_45 : decode cX8_sumDays 45 = .ok (.istore 8, 2) := by decide +kernel
theorem dX8_sumDays_47 : decode cX8_sumDays 47 = .ok (.aload_n 0, 1) := by decide +kernel
theorem dX8_sumDays_48 : decode cX8_sumDays 48 = .ok (.getfield 9, 3) := by decide +kernel
theorem dX8_sumDays_51 : decode cX8_sumDays 51 = .ok (.iload 7, 2) := by decide +kernel
theorem dX8_sumDays_53 : decode cX8_sumDays 53 = .ok (.iaload, 1) := by decide +kernel
theorem dX8_sumDays_54 : decode cX8_sumDays 54 = .ok (.iload_n 1, 1) := by decide +kernel
theorem dX8_sumDays_55 : decode cX8_sumDays 55 = .ok (.if_icmp .ne 30, 3) := by decide +kernel
theorem dX8_sumDays_58 : decode cX8_sumDays 58 = .ok (.aload_n 0, 1) := by decide +kernel
theorem dX8_sumDays_59 : decode cX8_sumDays 59 = .ok (.getfield 15, 3) := by decide +kernel
theorem dX8_sumDays_62 : decode cX8_sumDays 62 = .ok (.iload 7, 2) := by decide +kernel
theorem dX8_sumDays_64 : decode cX8_sumDays 64 = .ok (.iaload, 1) := by decide +kernel
theorem dX8_sumDays_65 : decode cX8_sumDays 65 = .ok (.iload_n 2, 1) := by decide +kernel
theorem dX8_sumDays_66 : decode cX8_sumDays 66 = .ok (.if_icmp .ne 19, 3) := by decide +kernel
theorem dX8_sumDays_69 : decode cX8_sumDays 69 = .ok (.aload_n 0, 1) := by decide +kernel
theorem dX8_sumDays_70 : decode cX8_sumDays 70 = .ok (.getfield 24, 3) := by decide +kernel
theorem dX8_sumDays_73 : decode cX8_sumDays 73 = .ok (.iload 7, 2) := by decide +kernel
theorem dX8_sumDays_75 : decode cX8_sumDays 75 = .ok (.iaload, 1) := by decide +kernel
theorem dX8_sumDays_76 : decode cX8_sumDays 76 = .ok (.iload 4, 2) := by decide +kernel
theorem dX8_sumDays_78 : decode cX8_sumDays 78 = .ok (.if_icmp .ne 7, 3) := by decide +kernel
theorem dX8_sumDays_81 : decode cX8_sumDays 81 = .ok (.iconst 1, 1) := by decide +kernel
theorem dX8_sumDays_82 : decode cX8_sumDays 82 = .ok (.goto 4, 3) := by decide +kernel
theorem dX8_sumDays_85 : decode cX8_sumDays 85 = .ok (.iconst 0, 1) := by decide +kernel
theorem dX8_sumDays_86 : decode cX8_sumDays 86 = .ok (.istore 9, 2) := by decide +kernel
theorem dX8_sumDays_88 : decode cX8_sumDays 88 = .ok (.iload 9, 2) := by decide +kernel
theorem dX8_sumDays_90 : decode cX8_sumDays 90 = .ok (.ifCond .eq 67, 3) := by decide +kernel
theorem dX8_sumDays_93 : decode cX8_sumDays 93 = .ok (.iload 8, 2) := by decide +kernel
theorem dX8_sumDays_95 : decode cX8_sumDays 95 = .ok (.bipush 7, 2) := by decide +kernel
theorem dX8_sumDays_97 : decode cX8_sumDays 97 = .ok (.irem, 1) := by decide +kernel
theorem dX8_sumDays_98 : decode cX8_sumDays 98 = .ok (.iload_n 3, 1) := by decide +kernel
theorem dX8_sumDays_99 : decode cX8_sumDays 99 = .ok (.if_icmp .eq 6, 3) := by decide +kernel
theorem dX8_sumDays_102 : decode cX8_sumDays 102 = .ok (.goto 55, 3) := by decide +kernel
theorem dX8_sumDays_105 : decode cX8_sumDays 105 = .ok (.iload 8, 2) := by decide +kernel
theorem dX8_sumDays_107 : decode cX8_sumDays 107 = .ok (.iload 6, 2) := by decide +kernel
theorem dX8_sumDays_109 : decode cX8_sumDays 109 = .ok (.if_icmp .eq 27, 3) := by decide +kernel
theorem dX8_sumDays_112 : decode cX8_sumDays 112 = .ok (.aload_n 0, 1) := by decide +kernel
theorem dX8_sumDays_113 : decode cX8_sumDays 113 = .ok (.getfield 37, 3) := by decide +kernel
theorem dX8_sumDays_116 : decode cX8_sumDays 116 = .ok (.aload_n 0, 1) := by decide +kernel
theorem dX8_sumDays_117 : decode cX8_sumDays 117 = .ok (.getfield 40, 3) := by decide +kernel
theorem dX8_sumDays_120 : decode cX8_sumDays 120 = .ok (.iconst 0, 1) := by decide +kernel
theorem dX8_sumDays_121 : decode cX8_sumDays 121 = .ok (.iastore, 1) := by decide +kernel
theorem dX8_sumDays_122 : decode cX8_sumDays 122 = .ok (.aload_n 0, 1) := by decide +kernel
theorem dX8_sumDays_123 : decode cX8_sumDays 123 = .ok (.dup, 1) := by decide +kernel
theorem dX8_sumDays_124 : decode cX8_sumDays 124 = .ok (.getfield 40, 3) := by decide +kernel
theorem dX8_sumDays_127 : decode cX8_sumDays 127 = .ok (.iconst 1, 1) := by decide +kernel
theorem dX8_sumDays_128 : decode cX8_sumDays 128 = .ok (.iadd, 1) := by decide +kernel
theorem dX8_sumDays_129 : decode cX8_sumDays 129 = .ok (.putfield 40, 3) := by decide +kernel
theorem dX8_sumDays_132 : decode cX8_sumDays 132 = .ok (.iload 8, 2) := by decide +kernel
theorem dX8_sumDays_134 : decode cX8_sumDays 134 = .ok (.istore 6, 2) := by decide +kernel
theorem dX8_sumDays_136 : decode cX8_sumDays 136 = .ok (.aload_n 0, 1) := by decide +kernel
theorem dX8_sumDays_137 : decode cX8_sumDays 137 = .ok (.getfield 37, 3) := by decide +kernel
theorem dX8_sumDays_140 : decode cX8_sumDays 140 = .ok (.aload_n 0, 1) := by decide +kernel
theorem dX8_sumDays_141 : decode cX8_sumDays 141 = .ok (.getfield 40, 3) := by decide +kernel
theorem dX8_sumDays_144 : decode cX8_sumDays 144 = .ok (.iconst 1, 1) := by decide +kernel
theorem dX8_sumDays_145 : decode cX8_sumDays 145 = .ok (.isub, 1) := by decide +kernel
theorem dX8_sumDays_146 : decode cX8_sumDays 146 = .ok (.dup2, 1) := by decide +kernel
theorem dX8_sumDays_147 : decode cX8_sumDays 147 = .ok (.iaload, 1) := by decide +kernel
theorem dX8_sumDays_148 : decode cX8_sumDays 148 = .ok (.aload_n 0, 1) := by decide +kernel
theorem dX8_sumDays_149 : decode cX8_sumDays 149 = .ok (.getfield 27, 3) := by decide +kernel
theorem dX8_sumDays_152 : decode cX8_sumDays 152 = .ok (.iload 7, 2) := by decide +kernel
theorem dX8_sumDays_154 : decode cX8_sumDays 154 = .ok (.iaload, 1) := by decide +kernel
theorem dX8_sumDays_155 : decode cX8_sumDays 155 = .ok (.iadd, 1) := by decide +kernel
theorem dX8_sumDays_156 : decode cX8_sumDays 156 = .ok (.iastore, 1) := by decide +kernel
theorem dX8_sumDays_157 : decode cX8_sumDays 157 = .ok (.iinc 7 1, 3) := by decide +kernel
theorem dX8_sumDays_160 : decode cX8_sumDays 160 = .ok (.goto (-149), 3) := by decide +kernel
theorem dX8_sumDays_163 : decode cX8_sumDays 163 = .ok (.return_, 1) := by decide +kernel
theorem dX8_lossOf_0 : decode cX8_lossOf 0 = .ok (.lconst 0, 1) := by decide +kernel
theorem dX8_lossOf_1 : decode cX8_lossOf 1 = .ok (.lstore 4, 2) := by decide +kernel
theorem dX8_lossOf_3 : decode cX8_lossOf 3 = .ok (.iconst 0, 1) := by decide +kernel
theorem dX8_lossOf_4 : decode cX8_lossOf 4 = .ok (.istore 6, 2) := by decide +kernel
theorem dX8_lossOf_6 : decode cX8_lossOf 6 = .ok (.iload 6, 2) := by decide +kernel
theorem dX8_lossOf_8 : decode cX8_lossOf 8 = .ok (.aload_n 0, 1) := by decide +kernel
theorem dX8_lossOf_9 : decode cX8_lossOf 9 = .ok (.getfield 40, 3) := by decide +kernel
theorem dX8_lossOf_12 : decode cX8_lossOf 12 = .ok (.if_icmp .ge 47, 3) := by decide +kernel
theorem dX8_lossOf_15 : decode cX8_lossOf 15 = .ok (.aload_n 0, 1) := by decide +kernel
theorem dX8_lossOf_16 : decode cX8_lossOf 16 = .ok (.getfield 37, 3) := by decide +kernel
theorem dX8_lossOf_19 : decode cX8_lossOf 19 = .ok (.iload 6, 2) := by decide +kernel
theorem dX8_lossOf_21 : decode cX8_lossOf 21 = .ok (.iaload, 1) := by decide +kernel
theorem dX8_lossOf_22 : decode cX8_lossOf 22 = .ok (.iload_n 1, 1) := by decide +kernel
theorem dX8_lossOf_23 : decode cX8_lossOf 23 = .ok (.isub, 1) := by decide +kernel
theorem dX8_lossOf_24 : decode cX8_lossOf 24 = .ok (.i2l, 1) := by decide +kernel
theorem dX8_lossOf_25 : decode cX8_lossOf 25 = .ok (.lstore 7, 2) := by decide +kernel
theorem dX8_lossOf_27 : decode cX8_lossOf 27 = .ok (.lload 4, 2) := by decide +kernel
theorem dX8_lossOf_29 : decode cX8_lossOf 29 = .ok (.lload 7, 2) := by decide +kernel
theorem dX8_lossOf_31 : decode cX8_lossOf 31 = .ok (.lconst 0, 1) := by decide +kernel
theorem dX8_lossOf_32 : decode cX8_lossOf 32 = .ok (.lcmp, 1) := by decide +kernel
theorem dX8_lossOf_33 : decode cX8_lossOf 33 = .ok (.ifCond .le 11, 3) := by decide +kernel
theorem dX8_lossOf_36 : decode cX8_lossOf 36 = .ok (.lload 7, 2) := by decide +kernel
theorem dX8_lossOf_38 : decode cX8_lossOf 38 = .ok (.iload_n 2, 1) := by decide +kernel
theorem dX8_lossOf_39 : decode cX8_lossOf 39 = .ok (.i2l, 1) := by decide +kernel
theorem dX8_lossOf_40 : decode cX8_lossOf 40 = .ok (.lmul, 1) := by decide +kernel
theorem dX8_lossOf_41 : decode cX8_lossOf 41 = .ok (.goto 9, 3) := by decide +kernel
theorem dX8_lossOf_44 : decode cX8_lossOf 44 = .ok (.lload 7, 2) := by decide +kernel
theorem dX8_lossOf_46 : decode cX8_lossOf 46 = .ok (.lneg, 1) := by decide +kernel
theorem dX8_lossOf_47 : decode cX8_lossOf 47 = .ok (.iload_n 3, 1) := by decide +kernel
theorem dX8_lossOf_48 : decode cX8_lossOf 48 = .ok (.i2l, 1) := by decide +kernel
theorem dX8_lossOf_49 : decode cX8_lossOf 49 = .ok (.lmul, 1) := by decide +kernel
theorem dX8_lossOf_50 : decode cX8_lossOf 50 = .ok (.ladd, 1) := by decide +kernel
theorem dX8_lossOf_51 : decode cX8_lossOf 51 = .ok (.lstore 4, 2) := by decide +kernel
theorem dX8_lossOf_53 : decode cX8_lossOf 53 = .ok (.iinc 6 1, 3) := by decide +kernel
theorem dX8_lossOf_56 : decode cX8_lossOf 56 = .ok (.goto (-50), 3) := by decide +kernel
theorem dX8_lossOf_59 : decode cX8_lossOf 59 = .ok (.lload 4, 2) := by decide +kernel
theorem dX8_lossOf_61 : decode cX8_lossOf 61 = .ok (.lreturn, 1) := by decide +kernel
theorem dX8_leastLoss_0 : decode cX8_leastLoss 0 = .ok (.aload_n 0, 1) := by decide +kernel
theorem dX8_leastLoss_1 : decode cX8_leastLoss 1 = .ok (.getfield 43, 3) := by decide +kernel
theorem dX8_leastLoss_4 : decode cX8_leastLoss 4 = .ok (.iconst 0, 1) := by decide +kernel
theorem dX8_leastLoss_5 : decode cX8_leastLoss 5 = .ok (.invokestatic 54, 3) := by decide +kernel
theorem dX8_leastLoss_8 : decode cX8_leastLoss 8 = .ok (.iconst 0, 1) := by decide +kernel
theorem dX8_leastLoss_9 : decode cX8_leastLoss 9 = .ok (.istore_n 3, 1) := by decide +kernel
theorem dX8_leastLoss_10 : decode cX8_leastLoss 10 = .ok (.iload_n 3, 1) := by decide +kernel
theorem dX8_leastLoss_11 : decode cX8_leastLoss 11 = .ok (.aload_n 0, 1) := by decide +kernel
theorem dX8_leastLoss_12 : decode cX8_leastLoss 12 = .ok (.getfield 40, 3) := by decide +kernel
theorem dX8_leastLoss_15 : decode cX8_leastLoss 15 = .ok (.if_icmp .ge 36, 3) := by decide +kernel
theorem dX8_leastLoss_18 : decode cX8_leastLoss 18 = .ok (.aload_n 0, 1) := by decide +kernel
theorem dX8_leastLoss_19 : decode cX8_leastLoss 19 = .ok (.getfield 37, 3) := by decide +kernel
theorem dX8_leastLoss_22 : decode cX8_leastLoss 22 = .ok (.iload_n 3, 1) := by decide +kernel
theorem dX8_leastLoss_23 : decode cX8_leastLoss 23 = .ok (.iaload, 1) := by decide +kernel
theorem dX8_leastLoss_24 : decode cX8_leastLoss 24 = .ok (.sipush 999, 3) := by decide +kernel
theorem dX8_leastLoss_27 : decode cX8_leastLoss 27 = .ok (.if_icmp .gt 18, 3) := by decide +kernel
theorem dX8_leastLoss_30 : decode cX8_leastLoss 30 = .ok (.aload_n 0, 1) := by decide +kernel
theorem dX8_leastLoss_31 : decode cX8_leastLoss 31 = .ok (.getfield 43, 3) := by decide +kernel
theorem dX8_leastLoss_34 : decode cX8_leastLoss 34 = .ok (.aload_n 0, 1) := by decide +kernel
theorem dX8_leastLoss_35 : decode cX8_leastLoss 35 = .ok (.getfield 37, 3) := by decide +kernel
theorem dX8_leastLoss_38 : decode cX8_leastLoss 38 = .ok (.iload_n 3, 1) := by decide +kernel
theorem dX8_leastLoss_39 : decode cX8_leastLoss 39 = .ok (.iaload, 1) := by decide +kernel
theorem dX8_leastLoss_40 : decode cX8_leastLoss 40 = .ok (.dup2, 1) := by decide +kernel
theorem dX8_leastLoss_41 : decode cX8_leastLoss 41 = .ok (.iaload, 1) := by decide +kernel
theorem dX8_leastLoss_42 : decode cX8_leastLoss 42 = .ok (.iconst 1, 1) := by decide +kernel
theorem dX8_leastLoss_43 : decode cX8_leastLoss 43 = .ok (.iadd, 1) := by decide +kernel
theorem dX8_leastLoss_44 : decode cX8_leastLoss 44 = .ok (.iastore, 1) := by decide +kernel
theorem dX8_leastLoss_45 : decode cX8_leastLoss 45 = .ok (.iinc 3 1, 3) := by decide +kernel
theorem dX8_leastLoss_48 : decode cX8_leastLoss 48 = .ok (.goto (-38), 3) := by decide +kernel
theorem dX8_leastLoss_51 : decode cX8_leastLoss 51 = .ok (.lconst 0, 1) := by decide +kernel
theorem dX8_leastLoss_52 : decode cX8_leastLoss 52 = .ok (.lstore_n 3, 1) := by decide +kernel
theorem dX8_leastLoss_53 : decode cX8_leastLoss 53 = .ok (.iconst 0, 1) := by decide +kernel
theorem dX8_leastLoss_54 : decode cX8_leastLoss 54 = .ok (.istore 5, 2) := by decide +kernel
theorem dX8_leastLoss_56 : decode cX8_leastLoss 56 = .ok (.iload 5, 2) := by decide +kernel
theorem dX8_leastLoss_58 : decode cX8_leastLoss 58 = .ok (.sipush 999, 3) := by decide +kernel
theorem dX8_leastLoss_61 : decode cX8_leastLoss 61 = .ok (.if_icmp .ge 41, 3) := by decide +kernel
theorem dX8_leastLoss_64 : decode cX8_leastLoss 64 = .ok (.lload_n 3, 1) := by decide +kernel
theorem dX8_leastLoss_65 : decode cX8_leastLoss 65 = .ok (.aload_n 0, 1) := by decide +kernel
theorem dX8_leastLoss_66 : decode cX8_leastLoss 66 = .ok (.getfield 43, 3) := by decide +kernel
theorem dX8_leastLoss_69 : decode cX8_leastLoss 69 = .ok (.iload 5, 2) := by decide +kernel
theorem dX8_leastLoss_71 : decode cX8_leastLoss 71 = .ok (.iaload, 1) := by decide +kernel
theorem dX8_leastLoss_72 : decode cX8_leastLoss 72 = .ok (.i2l, 1) := by decide +kernel
theorem dX8_leastLoss_73 : decode cX8_leastLoss 73 = .ok (.ladd, 1) := by decide +kernel
theorem dX8_leastLoss_74 : decode cX8_leastLoss 74 = .ok (.lstore_n 3, 1) := by decide +kernel
theorem dX8_leastLoss_75 : decode cX8_leastLoss 75 = .ok (.lload_n 3, 1) := by decide +kernel
theorem dX8_leastLoss_76 : decode cX8_leastLoss 76 = .ok (.iload_n 2, 1) := by decide +kernel
theorem dX8_leastLoss_77 : decode cX8_leastLoss 77 = .ok (.i2l, 1) := by decide +kernel
theorem dX8_leastLoss_78 : decode cX8_leastLoss 78 = .ok (.lmul, 1) := by decide +kernel
theorem dX8_leastLoss_79 : decode cX8_leastLoss 79 = .ok (.aload_n 0, 1) := by decide +kernel
theorem dX8_leastLoss_80 : decode cX8_leastLoss 80 = .ok (.getfield 40, 3) := by decide +kernel
theorem dX8_leastLoss_83 : decode cX8_leastLoss 83 = .ok (.i2l, 1) := by decide +kernel
theorem dX8_leastLoss_84 : decode cX8_leastLoss 84 = .ok (.lload_n 3, 1) := by decide +kernel
theorem dX8_leastLoss_85 : decode cX8_leastLoss 85 = .ok (.lsub, 1) := by decide +kernel
theorem dX8_leastLoss_86 : decode cX8_leastLoss 86 = .ok (.iload_n 1, 1) := by decide +kernel
theorem dX8_leastLoss_87 : decode cX8_leastLoss 87 = .ok (.i2l, 1) := by decide +kernel
theorem dX8_leastLoss_88 : decode cX8_leastLoss 88 = .ok (.lmul, 1) := by decide +kernel
theorem dX8_leastLoss_89 : decode cX8_leastLoss 89 = .ok (.lcmp, 1) := by decide +kernel
theorem dX8_leastLoss_90 : decode cX8_leastLoss 90 = .ok (.ifCond .lt 6, 3) := by decide +kernel
theorem dX8_leastLoss_93 : decode cX8_leastLoss 93 = .ok (.iload 5, 2) := by decide +kernel
theorem dX8_leastLoss_95 : decode cX8_leastLoss 95 = .ok (.ireturn, 1) := by decide +kernel
theorem dX8_leastLoss_96 : decode cX8_leastLoss 96 = .ok (.iinc 5 1, 3) := by decide +kernel
theorem dX8_leastLoss_99 : decode cX8_leastLoss 99 = .ok (.goto (-43), 3) := by decide +kernel
theorem dX8_leastLoss_102 : decode cX8_leastLoss 102 = .ok (.sipush 999, 3) := by decide +kernel
theorem dX8_leastLoss_105 : decode cX8_leastLoss 105 = .ok (.ireturn, 1) := by decide +kernel
theorem dX9_init_0 : decode cX9_init 0 = .ok (.aload_n 0, 1) := by decide +kernel
theorem dX9_init_1 : decode cX9_init 1 = .ok (.invokespecial 3, 3) := by decide +kernel
theorem dX9_init_4 : decode cX9_init 4 = .ok (.aload_n 0, 1) := by decide +kernel
theorem dX9_init_5 : decode cX9_init 5 = .ok (.new 9, 3) := by decide +kernel
theorem dX9_init_8 : decode cX9_init 8 = .ok (.dup, 1) := by decide +kernel
theorem dX9_init_9 : decode cX9_init 9 = .ok (.bipush 12, 2) := by decide +kernel
theorem dX9_init_11 : decode cX9_init 11 = .ok (.invokespecial 11, 3) := by decide +kernel
theorem dX9_init_14 : decode cX9_init 14 = .ok (.putfield 14, 3) := by decide +kernel
theorem dX9_init_17 : decode cX9_init 17 = .ok (.aload_n 0, 1) := by decide +kernel
theorem dX9_init_18 : decode cX9_init 18 = .ok (.bipush 12, 2) := by decide +kernel
theorem dX9_init_20 : decode cX9_init 20 = .ok (.newarray .int, 2) := by decide +kernel
theorem dX9_init_22 : decode cX9_init 22 = .ok (.putfield 20, 3) := by decide +kernel
theorem dX9_init_25 : decode cX9_init 25 = .ok (.aload_n 0, 1) := by decide +kernel
theorem dX9_init_26 : decode cX9_init 26 = .ok (.bipush 12, 2) := by decide +kernel
theorem dX9_init_28 : decode cX9_init 28 = .ok (.newarray .int, 2) := by decide +kernel
theorem dX9_init_30 : decode cX9_init 30 = .ok (.putfield 24, 3) := by decide +kernel
theorem dX9_init_33 : decode cX9_init 33 = .ok (.aload_n 0, 1) := by decide +kernel
theorem dX9_init_34 : decode cX9_init 34 = .ok (.bipush 12, 2) := by decide +kernel
theorem dX9_init_36 : decode cX9_init 36 = .ok (.bipush 10, 2) := by decide +kernel
theorem dX9_init_38 : decode cX9_init 38 = .ok (.multianewarray 27 2, 4) := by decide +kernel
theorem dX9_init_42 : decode cX9_init 42 = .ok (.putfield 29, 3) := by decide +kernel
theorem dX9_init_45 : decode cX9_init 45 = .ok (.aload_n 0, 1) := by decide +kernel
theorem dX9_init_46 : decode cX9_init 46 = .ok (.bipush 12, 2) := by decide +kernel
theorem dX9_init_48 : decode cX9_init 48 = .ok (.bipush 10, 2) := by decide +kernel
theorem dX9_init_50 : decode cX9_init 50 = .ok (.multianewarray 27 2, 4) := by decide +kernel
theorem dX9_init_54 : decode cX9_init 54 = .ok (.putfield 32, 3) := by decide +kernel
theorem dX9_init_57 : decode cX9_init 57 = .ok (.aload_n 0, 1) := by decide +kernel
theorem dX9_init_58 : decode cX9_init 58 = .ok (.getfield 24, 3) := by decide +kernel
theorem dX9_init_61 : decode cX9_init 61 = .ok (.iconst (-1), 1) := by decide +kernel
theorem dX9_init_62 : decode cX9_init 62 = .ok (.invokestatic 35, 3) := by decide +kernel
theorem dX9_init_65 : decode cX9_init 65 = .ok (.return_, 1) := by decide +kernel
theorem dX9_clearDay_0 : decode cX9_clearDay 0 = .ok (.iconst 0, 1) := by decide +kernel
theorem dX9_clearDay_1 : decode cX9_clearDay 1 = .ok (.istore_n 1, 1) := by decide +kernel
theorem dX9_clearDay_2 : decode cX9_clearDay 2 = .ok (.iload_n 1, 1) := by decide +kernel
theorem dX9_clearDay_3 : decode cX9_clearDay 3 = .ok (.bipush 12, 2) := by decide +kernel
theorem dX9_clearDay_5 : decode cX9_clearDay 5 = .ok (.if_icmp .ge 29, 3) := by decide +kernel
theorem dX9_clearDay_8 : decode cX9_clearDay 8 = .ok (.aload_n 0, 1) := by decide +kernel
theorem dX9_clearDay_9 : decode cX9_clearDay 9 = .ok (.getfield 29, 3) := by decide +kernel
theorem dX9_clearDay_12 : decode cX9_clearDay 12 = .ok (.iload_n 1, 1) := by decide +kernel
theorem dX9_clearDay_13 : decode cX9_clearDay 13 = .ok (.aaload, 1) := by decide +kernel
theorem dX9_clearDay_14 : decode cX9_clearDay 14 = .ok (.iconst 0, 1) := by decide +kernel
theorem dX9_clearDay_15 : decode cX9_clearDay 15 = .ok (.invokestatic 35, 3) := by decide +kernel
theorem dX9_clearDay_18 : decode cX9_clearDay 18 = .ok (.aload_n 0, 1) := by decide +kernel
theorem dX9_clearDay_19 : decode cX9_clearDay 19 = .ok (.getfield 32, 3) := by decide +kernel
theorem dX9_clearDay_22 : decode cX9_clearDay 22 = .ok (.iload_n 1, 1) := by decide +kernel
theorem dX9_clearDay_23 : decode cX9_clearDay 23 = .ok (.aaload, 1) := by decide +kernel
theorem dX9_clearDay_24 : decode cX9_clearDay 24 = .ok (.iconst 0, 1) := by decide +kernel
theorem dX9_clearDay_25 : decode cX9_clearDay 25 = .ok (.invokestatic 35, 3) := by decide +kernel
theorem dX9_clearDay_28 : decode cX9_clearDay 28 = .ok (.iinc 1 1, 3) := by decide +kernel
theorem dX9_clearDay_31 : decode cX9_clearDay 31 = .ok (.goto (-29), 3) := by decide +kernel
theorem dX9_clearDay_34 : decode cX9_clearDay 34 = .ok (.return_, 1) := by decide +kernel
theorem dX9_howManyDrawn_0 : decode cX9_howManyDrawn 0 = .ok (.iconst 0, 1) := by decide +kernel
theorem dX9_howManyDrawn_1 : decode cX9_howManyDrawn 1 = .ok (.istore_n 2, 1) := by decide +kernel
theorem dX9_howManyDrawn_2 : decode cX9_howManyDrawn 2 = .ok (.iconst 0, 1) := by decide +kernel
theorem dX9_howManyDrawn_3 : decode cX9_howManyDrawn 3 = .ok (.istore_n 3, 1) := by decide +kernel
theorem dX9_howManyDrawn_4 : decode cX9_howManyDrawn 4 = .ok (.iload_n 3, 1) := by decide +kernel
theorem dX9_howManyDrawn_5 : decode cX9_howManyDrawn 5 = .ok (.aload_n 0, 1) := by decide +kernel
theorem dX9_howManyDrawn_6 : decode cX9_howManyDrawn 6 = .ok (.getfield 14, 3) := by decide +kernel
theorem dX9_howManyDrawn_9 : decode cX9_howManyDrawn 9 = .ok (.getfield 41, 3) := by decide +kernel
theorem dX9_howManyDrawn_12 : decode cX9_howManyDrawn 12 = .ok (.if_icmp .ge 22, 3) := by decide +kernel
theorem dX9_howManyDrawn_15 : decode cX9_howManyDrawn 15 = .ok (.aload_n 0, 1) := by decide +kernel
theorem dX9_howManyDrawn_16 : decode cX9_howManyDrawn 16 = .ok (.getfield 24, 3) := by decide +kernel
theorem dX9_howManyDrawn_19 : decode cX9_howManyDrawn 19 = .ok (.iload_n 3, 1) := by decide +kernel
theorem dX9_howManyDrawn_20 : decode cX9_howManyDrawn 20 = .ok (.iaload, 1) := by decide +kernel
theorem dX9_howManyDrawn_21 : decode cX9_howManyDrawn 21 = .ok (.iload_n 1, 1) := by decide +kernel
theorem dX9_howManyDrawn_22 : decode cX9_howManyDrawn 22 = .ok (.if_icmp .ne 6, 3) := by decide +kernel
theorem dX9_howManyDrawn_25 : decode cX9_howManyDrawn 25 = .ok (.iinc 2 1, 3) := by decide +kernel
theorem dX9_howManyDrawn_28 : decode cX9_howManyDrawn 28 = .ok (.iinc 3 1, 3) := by decide +kernel
theorem dX9_howManyDrawn_31 : decode cX9_howManyDrawn 31 = .ok (.goto (-27), 3) := by decide +kernel
theorem dX9_howManyDrawn_34 : decode cX9_howManyDrawn 34 = .ok (.iload_n 2, 1) := by decide +kernel
theorem dX9_howManyDrawn_35 : decode cX9_howManyDrawn 35 = .ok (.ireturn, 1) := by decide +kernel
theorem dX10_init_0 : decode cX10_init 0 = .ok (.aload_n 0, 1) := by decide +kernel
theorem dX10_init_1 : decode cX10_init 1 = .ok (.invokespecial 3, 3) := by decide +kernel
theorem dX10_init_4 : decode cX10_init 4 = .ok (.aload_n 0, 1) := by decide +kernel
theorem dX10_init_5 : decode cX10_init 5 = .ok (.sipush 160, 3) := by decide +kernel
theorem dX10_init_8 : decode cX10_init 8 = .ok (.newarray .int, 2) := by decide +kernel
theorem dX10_init_10 : decode cX10_init 10 = .ok (.putfield 9, 3) := by decide +kernel
theorem dX10_init_13 : decode cX10_init 13 = .ok (.aload_n 0, 1) := by decide +kernel
theorem dX10_init_14 : decode cX10_init 14 = .ok (.iconst 0, 1) := by decide +kernel
theorem dX10_init_15 : decode cX10_init 15 = .ok (.putfield 15, 3) := by decide +kernel
theorem dX10_init_18 : decode cX10_init 18 = .ok (.aload_n 0, 1) := by decide +kernel
theorem dX10_init_19 : decode cX10_init 19 = .ok (.iconst 0, 1) := by decide +kernel
theorem dX10_init_20 : decode cX10_init 20 = .ok (.putfield 19, 3) := by decide +kernel
theorem dX10_init_23 : decode cX10_init 23 = .ok (.aload_n 0, 1) := by decide +kernel
theorem dX10_init_24 : decode cX10_init 24 = .ok (.iconst 0, 1) := by decide +kernel
theorem dX10_init_25 : decode cX10_init 25 = .ok (.newarray .int, 2) := by decide +kernel
theorem dX10_init_27 : decode cX10_init 27 = .ok (.putfield 22, 3) := by decide +kernel
theorem dX10_init_30 : decode cX10_init 30 = .ok (.aload_n 0, 1) := by decide +kernel
theorem dX10_init_31 : decode cX10_init 31 = .ok (.iconst 0, 1) := by decide +kernel
theorem dX10_init_32 : decode cX10_init 32 = .ok (.putfield 25, 3) := by decide +kernel
theorem dX10_init_35 : decode cX10_init 35 = .ok (.return_, 1) := by decide +kernel
theorem dX10_take_0 : decode cX10_take 0 = .ok (.bipush 24, 2) := by decide +kernel
theorem dX10_take_2 : decode cX10_take 2 = .ok (.istore_n 2, 1) := by decide +kernel
theorem dX10_take_3 : decode cX10_take 3 = .ok (.iload_n 2, 1) := by decide +kernel
theorem dX10_take_4 : decode cX10_take 4 = .ok (.ifCond .lt 45, 3) := by decide +kernel
theorem dX10_take_7 : decode cX10_take 7 = .ok (.aload_n 0, 1) := by decide +kernel
theorem dX10_take_8 : decode cX10_take 8 = .ok (.getfield 15, 3) := by decide +kernel
theorem dX10_take_11 : decode cX10_take 11 = .ok (.sipush 160, 3) := by decide +kernel
theorem dX10_take_14 : decode cX10_take 14 = .ok (.if_icmp .ge 35, 3) := by decide +kernel
theorem dX10_take_17 : decode cX10_take 17 = .ok (.aload_n 0, 1) := by decide +kernel
theorem dX10_take_18 : decode cX10_take 18 = .ok (.getfield 9, 3) := by decide +kernel
theorem dX10_take_21 : decode cX10_take 21 = .ok (.aload_n 0, 1) := by decide +kernel
theorem dX10_take_22 : decode cX10_take 22 = .ok (.getfield 15, 3) := by decide +kernel
theorem dX10_take_25 : decode cX10_take 25 = .ok (.iload_n 1, 1) := by decide +kernel
theorem dX10_take_26 : decode cX10_take 26 = .ok (.iload_n 2, 1) := by decide +kernel
theorem dX10_take_27 : decode cX10_take 27 = .ok (.iushr, 1) := by decide +kernel
theorem dX10_take_28 : decode cX10_take 28 = .ok (.sipush 255, 3) := by decide +kernel
theorem dX10_take_31 : decode cX10_take 31 = .ok (.iand, 1) := by decide +kernel
theorem dX10_take_32 : decode cX10_take 32 = .ok (.iastore, 1) := by decide +kernel
theorem dX10_take_33 : decode cX10_take 33 = .ok (.aload_n 0, 1) := by decide +kernel
theorem dX10_take_34 : decode cX10_take 34 = .ok (.dup, 1) := by decide +kernel
theorem dX10_take_35 : decode cX10_take 35 = .ok (.getfield 15, 3) := by decide +kernel
theorem dX10_take_38 : decode cX10_take 38 = .ok (.iconst 1, 1) := by decide +kernel
theorem dX10_take_39 : decode cX10_take 39 = .ok (.iadd, 1) := by decide +kernel
theorem dX10_take_40 : decode cX10_take 40 = .ok (.putfield 15, 3) := by decide +kernel
theorem dX10_take_43 : decode cX10_take 43 = .ok (.iinc 2 (-8), 3) := by decide +kernel
theorem dX10_take_46 : decode cX10_take 46 = .ok (.goto (-43), 3) := by decide +kernel
theorem dX10_take_49 : decode cX10_take 49 = .ok (.return_, 1) := by decide +kernel
theorem dX10_read_0 : decode cX10_read 0 = .ok (.aload_n 0, 1) := by decide +kernel
theorem dX10_read_1 : decode cX10_read 1 = .ok (.aload_n 1, 1) := by decide +kernel
theorem dX10_read_2 : decode cX10_read 2 = .ok (.putfield 22, 3) := by decide +kernel
theorem dX10_read_5 : decode cX10_read 5 = .ok (.aload_n 0, 1) := by decide +kernel
theorem dX10_read_6 : decode cX10_read 6 = .ok (.iconst 0, 1) := by decide +kernel
theorem dX10_read_7 : decode cX10_read 7 = .ok (.putfield 25, 3) := by decide +kernel
theorem dX10_read_10 : decode cX10_read 10 = .ok (.aload_n 0, 1) := by decide +kernel
theorem dX10_read_11 : decode cX10_read 11 = .ok (.iconst 0, 1) := by decide +kernel
theorem dX10_read_12 : decode cX10_read 12 = .ok (.putfield 19, 3) := by decide +kernel
theorem dX10_read_15 : decode cX10_read 15 = .ok (.iconst 0, 1) := by decide +kernel
theorem dX10_read_16 : decode cX10_read 16 = .ok (.istore_n 2, 1) := by decide +kernel
theorem dX10_read_17 : decode cX10_read 17 = .ok (.iload_n 2, 1) := by decide +kernel
theorem dX10_read_18 : decode cX10_read 18 = .ok (.aload_n 0, 1) := by decide +kernel
theorem dX10_read_19 : decode cX10_read 19 = .ok (.getfield 15, 3) := by decide +kernel
theorem dX10_read_22 : decode cX10_read 22 = .ok (.if_icmp .gt 43, 3) := by decide +kernel
theorem dX10_read_25 : decode cX10_read 25 = .ok (.aload_n 0, 1) := by decide +kernel
theorem dX10_read_26 : decode cX10_read 26 = .ok (.invokevirtual 28, 3) := by decide +kernel
theorem dX10_read_29 : decode cX10_read 29 = .ok (.ifCond .eq 36, 3) := by decide +kernel
theorem dX10_read_32 : decode cX10_read 32 = .ok (.aload_n 0, 1) := by decide +kernel
theorem dX10_read_33 : decode cX10_read 33 = .ok (.getfield 19, 3) := by decide +kernel
theorem dX10_read_36 : decode cX10_read 36 = .ok (.aload_n 0, 1) := by decide +kernel
theorem dX10_read_37 : decode cX10_read 37 = .ok (.getfield 15, 3) := by decide +kernel
theorem dX10_read_40 : decode cX10_read 40 = .ok (.if_icmp .lt 5, 3) := by decide +kernel
theorem dX10_read_43 : decode cX10_read 43 = .ok (.iconst (-1), 1) := by decide +kernel
theorem dX10_read_44 : decode cX10_read 44 = .ok (.ireturn, 1) := by decide +kernel
theorem dX10_read_45 : decode cX10_read 45 = .ok (.aload_n 0, 1) := by decide +kernel
theorem dX10_read_46 : decode cX10_read 46 = .ok (.bipush 59, 2) := by decide +kernel
theorem dX10_read_48 : decode cX10_read 48 = .ok (.invokevirtual 32, 3) := by decide +kernel
theorem dX10_read_51 : decode cX10_read 51 = .ok (.ifCond .ne 8, 3) := by decide +kernel
theorem dX10_read_54 : decode cX10_read 54 = .ok (.aload_n 0, 1) := by decide +kernel
theorem dX10_read_55 : decode cX10_read 55 = .ok (.getfield 19, 3) := by decide +kernel
theorem dX10_read_58 : decode cX10_read 58 = .ok (.ireturn, 1) := by decide +kernel
theorem dX10_read_59 : decode cX10_read 59 = .ok (.iinc 2 1, 3) := by decide +kernel
theorem dX10_read_62 : decode cX10_read 62 = .ok (.goto (-45), 3) := by decide +kernel
theorem dX10_read_65 : decode cX10_read 65 = .ok (.aload_n 0, 1) := by decide +kernel
theorem dX10_read_66 : decode cX10_read 66 = .ok (.getfield 19, 3) := by decide +kernel
theorem dX10_read_69 : decode cX10_read 69 = .ok (.ireturn, 1) := by decide +kernel
theorem dX10_next_0 : decode cX10_next 0 = .ok (.aload_n 0, 1) := by decide +kernel
theorem dX10_next_1 : decode cX10_next 1 = .ok (.getfield 19, 3) := by decide +kernel
theorem dX10_next_4 : decode cX10_next 4 = .ok (.aload_n 0, 1) := by decide +kernel
theorem dX10_next_5 : decode cX10_next 5 = .ok (.getfield 15, 3) := by decide +kernel
theorem dX10_next_8 : decode cX10_next 8 = .ok (.if_icmp .ge 15, 3) := by decide +kernel
theorem dX10_next_11 : decode cX10_next 11 = .ok (.aload_n 0, 1) := by decide +kernel
theorem dX10_next_12 : decode cX10_next 12 = .ok (.getfield 9, 3) := by decide +kernel
theorem dX10_next_15 : decode cX10_next 15 = .ok (.aload_n 0, 1) := by decide +kernel
theorem dX10_next_16 : decode cX10_next 16 = .ok (.getfield 19, 3) := by decide +kernel
theorem dX10_next_19 : decode cX10_next 19 = .ok (.iaload, 1) := by decide +kernel
theorem dX10_next_20 : decode cX10_next 20 = .ok (.goto 4, 3) := by decide +kernel
theorem dX10_next_23 : decode cX10_next 23 = .ok (.iconst (-1), 1) := by decide +kernel
theorem dX10_next_24 : decode cX10_next 24 = .ok (.ireturn, 1) := by decide +kernel
theorem dX10_goesOn_0 : decode cX10_goesOn 0 = .ok (.aload_n 0, 1) := by decide +kernel
theorem dX10_goesOn_1 : decode cX10_goesOn 1 = .ok (.invokevirtual 36, 3) := by decide +kernel
theorem dX10_goesOn_4 : decode cX10_goesOn 4 = .ok (.iload_n 1, 1) := by decide +kernel
theorem dX10_goesOn_5 : decode cX10_goesOn 5 = .ok (.if_icmp .eq 5, 3) := by decide +kernel
theorem dX10_goesOn_8 : decode cX10_goesOn 8 = .ok (.iconst 0, 1) := by decide +kernel
theorem dX10_goesOn_9 : decode cX10_goesOn 9 = .ok (.ireturn, 1) := by decide +kernel
theorem dX10_goesOn_10 : decode cX10_goesOn 10 = .ok (.aload_n 0, 1) := by decide +kernel
theorem dX10_goesOn_11 : decode cX10_goesOn 11 = .ok (.dup, 1) := by decide +kernel
theorem dX10_goesOn_12 : decode cX10_goesOn 12 = .ok (.getfield 19, 3) := by decide +kernel
theorem dX10_goesOn_15 : decode cX10_goesOn 15 = .ok (.iconst 1, 1) := by decide +kernel
theorem dX10_goesOn_16 : decode cX10_goesOn 16 = .ok (.iadd, 1) := by decide +kernel
theorem dX10_goesOn_17 : decode cX10_goesOn 17 = .ok (.putfield 19, 3) := by decide +kernel
theorem dX10_goesOn_20 : decode cX10_goesOn 20 = .ok (.iconst 1, 1) := by decide +kernel
theorem dX10_goesOn_21 : decode cX10_goesOn 21 = .ok (.ireturn, 1) := by decide +kernel
theorem dX10_write_0 : decode cX10_write 0 = .ok (.aload_n 0, 1) := by decide +kernel
theorem dX10_write_1 : decode cX10_write 1 = .ok (.getfield 25, 3) := by decide +kernel
theorem dX10_write_4 : decode cX10_write 4 = .ok (.aload_n 0, 1) := by decide +kernel
theorem dX10_write_5 : decode cX10_write 5 = .ok (.getfield 22, 3) := by decide +kernel
theorem dX10_write_8 : decode cX10_write 8 = .ok (.arraylength, 1) := by decide +kernel
theorem dX10_write_9 : decode cX10_write 9 = .ok (.if_icmp .ge 23, 3) := by decide +kernel
theorem dX10_write_12 : decode cX10_write 12 = .ok (.aload_n 0, 1) := by decide +kernel
theorem dX10_write_13 : decode cX10_write 13 = .ok (.getfield 22, 3) := by decide +kernel
theorem dX10_write_16 : decode cX10_write 16 = .ok (.aload_n 0, 1) := by decide +kernel
theorem dX10_write_17 : decode cX10_write 17 = .ok (.getfield 25, 3) := by decide +kernel
theorem dX10_write_20 : decode cX10_write 20 = .ok (.iload_n 1, 1) := by decide +kernel
theorem dX10_write_21 : decode cX10_write 21 = .ok (.iastore, 1) := by decide +kernel
theorem dX10_write_22 : decode cX10_write 22 = .ok (.aload_n 0, 1) := by decide +kernel
theorem dX10_write_23 : decode cX10_write 23 = .ok (.dup, 1) := by decide +kernel
theorem dX10_write_24 : decode cX10_write 24 = .ok (.getfield 25, 3) := by decide +kernel
theorem dX10_write_27 : decode cX10_write 27 = .ok (.iconst 1, 1) := by decide +kernel
theorem dX10_write_28 : decode cX10_write 28 = .ok (.iadd, 1) := by decide +kernel
theorem dX10_write_29 : decode cX10_write 29 = .ok (.putfield 25, 3) := by decide +kernel
theorem dX10_write_32 : decode cX10_write 32 = .ok (.return_, 1) := by decide +kernel
theorem dX10_readClause_0 : decode cX10_readClause 0 = .ok (.aload_n 0, 1) := by decide +kernel
theorem dX10_readClause_1 : decode cX10_readClause 1 = .ok (.iconst 0, 1) := by decide +kernel
theorem dX10_readClause_2 : decode cX10_readClause 2 = .ok (.iconst 0, 1) := by decide +kernel
theorem dX10_readClause_3 : decode cX10_readClause 3 = .ok (.invokevirtual 40, 3) := by decide +kernel
theorem dX10_readClause_6 : decode cX10_readClause 6 = .ok (.ifCond .ne 5, 3) := by decide +kernel
theorem dX10_readClause_9 : decode cX10_readClause 9 = .ok (.iconst 0, 1) := by decide +kernel
theorem dX10_readClause_10 : decode cX10_readClause 10 = .ok (.ireturn, 1) := by decide +kernel
theorem dX10_readClause_11 : decode cX10_readClause 11 = .ok (.aload_n 0, 1) := by decide +kernel
theorem dX10_readClause_12 : decode cX10_readClause 12 = .ok (.bipush 44, 2) := by decide +kernel
theorem dX10_readClause_14 : decode cX10_readClause 14 = .ok (.invokevirtual 32, 3) := by decide +kernel
theorem dX10_readClause_17 : decode cX10_readClause 17 = .ok (.ifCond .eq 20, 3) := by decide +kernel
theorem dX10_readClause_20 : decode cX10_readClause 20 = .ok (.aload_n 0, 1) := by decide +kernel
theorem dX10_readClause_21 : decode cX10_readClause 21 = .ok (.bipush (-44), 2) := by decide +kernel
theorem dX10_readClause_23 : decode cX10_readClause 23 = .ok (.invokevirtual 44, 3) := by decide +kernel
theorem dX10_readClause_26 : decode cX10_readClause 26 = .ok (.aload_n 0, 1) := by decide +kernel
theorem dX10_readClause_27 : decode cX10_readClause 27 = .ok (.iconst 0, 1) := by decide +kernel
theorem dX10_readClause_28 : decode cX10_readClause 28 = .ok (.iconst 0, 1) := by decide +kernel
theorem dX10_readClause_29 : decode cX10_readClause 29 = .ok (.invokevirtual 40, 3) := by decide +kernel
theorem dX10_readClause_32 : decode cX10_readClause 32 = .ok (.ifCond .ne 5, 3) := by decide +kernel
theorem dX10_readClause_35 : decode cX10_readClause 35 = .ok (.iconst 0, 1) := by decide +kernel
theorem dX10_readClause_36 : decode cX10_readClause 36 = .ok (.ireturn, 1) := by decide +kernel
theorem dX10_readClause_37 : decode cX10_readClause 37 = .ok (.aload_n 0, 1) := by decide +kernel
theorem dX10_readClause_38 : decode cX10_readClause 38 = .ok (.bipush (-59), 2) := by decide +kernel
theorem dX10_readClause_40 : decode cX10_readClause 40 = .ok (.invokevirtual 44, 3) := by decide +kernel
theorem dX10_readClause_43 : decode cX10_readClause 43 = .ok (.iconst 1, 1) := by decide +kernel
theorem dX10_readClause_44 : decode cX10_readClause 44 = .ok (.ireturn, 1) := by decide +kernel
theorem dX10_tightness_0 : decode cX10_tightness 0 = .ok (.iload_n 0, 1) := by decide +kernel
theorem dX10_tightness_1 : decode cX10_tightness 1 = .ok (.lookupswitch 93 #[(38, 85), (42, 91), (43, 89), (45, 89), (47, 91), (60, 87), (61, 87), (62, 87), (124, 83)], 83) := by decide +kernel
theorem dX10_tightness_84 : decode cX10_tightness 84 = .ok (.iconst 0, 1) := by decide +kernel
theorem dX10_tightness_85 : decode cX10_tightness 85 = .ok (.ireturn, 1) := by decide +kernel
theorem dX10_tightness_86 : decode cX10_tightness 86 = .ok (.iconst 1, 1) := by decide +kernel
theorem dX10_tightness_87 : decode cX10_tightness 87 = .ok (.ireturn, 1) := by decide +kernel
theorem dX10_tightness_88 : decode cX10_tightness 88 = .ok (.iconst 2, 1) := by decide +kernel
theorem dX10_tightness_89 : decode cX10_tightness 89 = .ok (.ireturn, 1) := by decide +kernel
theorem dX10_tightness_90 : decode cX10_tightness 90 = .ok (.iconst 3, 1) := by decide +kernel
theorem dX10_tightness_91 : decode cX10_tightness 91 = .ok (.ireturn, 1) := by decide +kernel
theorem dX10_tightness_92 : decode cX10_tightness 92 = .ok (.iconst 4, 1) := by decide +kernel
theorem dX10_tightness_93 : decode cX10_tightness 93 = .ok (.ireturn, 1) := by decide +kernel
theorem dX10_tightness_94 : decode cX10_tightness 94 = .ok (.bipush 6, 2) := by decide +kernel
theorem dX10_tightness_96 : decode cX10_tightness 96 = .ok (.ireturn, 1) := by decide +kernel
theorem dX10_readJoined_0 : decode cX10_readJoined 0 = .ok (.iload_n 1, 1) := by decide +kernel
theorem dX10_readJoined_1 : decode cX10_readJoined 1 = .ok (.iconst 5, 1) := by decide +kernel
theorem dX10_readJoined_2 : decode cX10_readJoined 2 = .ok (.if_icmp .lt 9, 3) := by decide +kernel
theorem dX10_readJoined_5 : decode cX10_readJoined 5 = .ok (.aload_n 0, 1) := by decide +kernel
theorem dX10_readJoined_6 : decode cX10_readJoined 6 = .ok (.iload_n 2, 1) := by decide +kernel
theorem dX10_readJoined_7 : decode cX10_readJoined 7 = .ok (.invokevirtual 48, 3) := by decide +kernel
theorem dX10_readJoined_10 : decode cX10_readJoined 10 = .ok (.ireturn, 1) := by decide +kernel
theorem dX10_readJoined_11 : decode cX10_readJoined 11 = .ok (.aload_n 0, 1) := by decide +kernel
theorem dX10_readJoined_12 : decode cX10_readJoined 12 = .ok (.iload_n 1, 1) := by decide +kernel
theorem dX10_readJoined_13 : decode cX10_readJoined 13 = .ok (.iconst 1, 1) := by decide +kernel
theorem dX10_readJoined_14 : decode cX10_readJoined 14 = .ok (.iadd, 1) := by decide +kernel
theorem dX10_readJoined_15 : decode cX10_readJoined 15 = .ok (.iload_n 2, 1) := by decide +kernel
theorem dX10_readJoined_16 : decode cX10_readJoined 16 = .ok (.invokevirtual 40, 3) := by decide +kernel
theorem dX10_readJoined_19 : decode cX10_readJoined 19 = .ok (.ifCond .ne 5, 3) := by decide +kernel
theorem dX10_readJoined_22 : decode cX10_readJoined 22 = .ok (.iconst 0, 1) := by decide +kernel
theorem dX10_readJoined_23 : decode cX10_readJoined 23 = .ok (.ireturn, 1) := by decide +kernel
theorem dX10_readJoined_24 : decode cX10_readJoined 24 = .ok (.iconst 0, 1) := by decide +kernel
theorem dX10_readJoined_25 : decode cX10_readJoined 25 = .ok (.istore_n 3, 1) := by decide +kernel
theorem dX10_readJoined_26 : decode cX10_readJoined 26 = .ok (.iload_n 3, 1) := by decide +kernel
theorem dX10_readJoined_27 : decode cX10_readJoined 27 = .ok (.aload_n 0, 1) := by decide +kernel
theorem dX10_readJoined_28 : decode cX10_readJoined 28 = .ok (.getfield 15, 3) := by decide +kernel
theorem dX10_readJoined_31 : decode cX10_readJoined 31 = .ok (.if_icmp .ge 63, 3) := by decide +kernel
theorem dX10_readJoined_34 : decode cX10_readJoined 34 = .ok (.aload_n 0, 1) := by decide +kernel
theorem dX10_readJoined_35 : decode cX10_readJoined 35 = .ok (.invokevirtual 36, 3) := by decide +kernel
theorem dX10_readJoined_38 : decode cX10_readJoined 38 = .ok (.invokestatic 51, 3) := by decide +kernel
theorem dX10_readJoined_41 : decode cX10_readJoined 41 = .ok (.iload_n 1, 1) := by decide +kernel
theorem dX10_readJoined_42 : decode cX10_readJoined 42 = .ok (.if_icmp .ne 52, 3) := by decide +kernel
theorem dX10_readJoined_45 : decode cX10_readJoined 45 = .ok (.aload_n 0, 1) := by decide +kernel
theorem dX10_readJoined_46 : decode cX10_readJoined 46 = .ok (.invokevirtual 36, 3) := by decide +kernel
theorem dX10_readJoined_49 : decode cX10_readJoined 49 = .ok (.istore 4, 2) := by decide +kernel
theorem dX10_readJoined_51 : decode cX10_readJoined 51 = .ok (.aload_n 0, 1) := by decide +kernel
theorem dX10_readJoined_52 : decode cX10_readJoined 52 = .ok (.dup, 1) := by decide +kernel
theorem dX10_readJoined_53 : decode cX10_readJoined 53 = .ok (.getfield 19, 3) := by decide +kernel
theorem dX10_readJoined_56 : decode cX10_readJoined 56 = .ok (.iconst 1, 1) := by decide +kernel
theorem dX10_readJoined_57 : decode cX10_readJoined 57 = .ok (.iadd, 1) := by decide +kernel
theorem dX10_readJoined_58 : decode cX10_readJoined 58 = .ok (.putfield 19, 3) := by decide +kernel
theorem dX10_readJoined_61 : decode cX10_readJoined 61 = .ok (.aload_n 0, 1) := by decide +kernel
theorem dX10_readJoined_62 : decode cX10_readJoined 62 = .ok (.iload_n 1, 1) := by decide +kernel
theorem dX10_readJoined_63 : decode cX10_readJoined 63 = .ok (.iconst 1, 1) := by decide +kernel
theorem dX10_readJoined_64 : decode cX10_readJoined 64 = .ok (.iadd, 1) := by decide +kernel
theorem dX10_readJoined_65 : decode cX10_readJoined 65 = .ok (.iload_n 2, 1) := by decide +kernel
theorem dX10_readJoined_66 : decode cX10_readJoined 66 = .ok (.invokevirtual 40, 3) := by decide +kernel
theorem dX10_readJoined_69 : decode cX10_readJoined 69 = .ok (.ifCond .ne 5, 3) := by decide +kernel
theorem dX10_readJoined_72 : decode cX10_readJoined 72 = .ok (.iconst 0, 1) := by decide +kernel
theorem dX10_readJoined_73 : decode cX10_readJoined 73 = .ok (.ireturn, 1) := by decide +kernel
theorem dX10_readJoined_74 : decode cX10_readJoined 74 = .ok (.aload_n 0, 1) := by decide +kernel
theorem dX10_readJoined_75 : decode cX10_readJoined 75 = .ok (.iload 4, 2) := by decide +kernel
theorem dX10_readJoined_77 : decode cX10_readJoined 77 = .ok (.ineg, 1) := by decide +kernel
theorem dX10_readJoined_78 : decode cX10_readJoined 78 = .ok (.invokevirtual 44, 3) := by decide +kernel
theorem dX10_readJoined_81 : decode cX10_readJoined 81 = .ok (.iload_n 1, 1) := by decide +kernel
theorem dX10_readJoined_82 : decode cX10_readJoined 82 = .ok (.iconst 2, 1) := by decide +kernel
theorem dX10_readJoined_83 : decode cX10_readJoined 83 = .ok (.if_icmp .ne 5, 3) := by decide +kernel
theorem dX10_readJoined_86 : decode cX10_readJoined 86 = .ok (.iconst 1, 1) := by decide +kernel
theorem dX10_readJoined_87 : decode cX10_readJoined 87 = .ok (.ireturn, 1) := by decide +kernel
theorem dX10_readJoined_88 : decode cX10_readJoined 88 = .ok (.iinc 3 1, 3) := by decide +kernel
theorem dX10_readJoined_91 : decode cX10_readJoined 91 = .ok (.goto (-65), 3) := by decide +kernel
theorem dX10_readJoined_94 : decode cX10_readJoined 94 = .ok (.iconst 1, 1) := by decide +kernel
theorem dX10_readJoined_95 : decode cX10_readJoined 95 = .ok (.ireturn, 1) := by decide +kernel
theorem dX10_readOperand_0 : decode cX10_readOperand 0 = .ok (.aload_n 0, 1) := by decide +kernel
theorem dX10_readOperand_1 : decode cX10_readOperand 1 = .ok (.invokevirtual 36, 3) := by decide +kernel
theorem dX10_readOperand_4 : decode cX10_readOperand 4 = .ok (.istore_n 2, 1) := by decide +kernel
theorem dX10_readOperand_5 : decode cX10_readOperand 5 = .ok (.bipush 48, 2) := by decide +kernel
theorem dX10_readOperand_7 : decode cX10_readOperand 7 = .ok (.iload_n 2, 1) := by decide +kernel
theorem dX10_readOperand_8 : decode cX10_readOperand 8 = .ok (.bipush 57, 2) := by decide +kernel
theorem dX10_readOperand_10 : decode cX10_readOperand 10 = .ok (.invokestatic 55, 3) := by decide +kernel
theorem dX10_readOperand_13 : decode cX10_readOperand 13 = .ok (.ifCond .eq 9, 3) := by decide +kernel
theorem dX10_readOperand_16 : decode cX10_readOperand 16 = .ok (.aload_n 0, 1) := by decide +kernel
theorem dX10_readOperand_17 : decode cX10_readOperand 17 = .ok (.invokevirtual 59, 3) := by decide +kernel
theorem dX10_readOperand_20 : decode cX10_readOperand 20 = .ok (.iconst 1, 1) := by decide +kernel
theorem dX10_readOperand_21 : decode cX10_readOperand 21 = .ok (.ireturn, 1) := by decide +kernel
theorem dX10_readOperand_22 : decode cX10_readOperand 22 = .ok (.iload_n 2, 1) := by decide +kernel
theorem dX10_readOperand_23 : decode cX10_readOperand 23 = .ok (.invokestatic 62, 3) := by decide +kernel
theorem dX10_readOperand_26 : decode cX10_readOperand 26 = .ok (.ifCond .eq 21, 3) := by decide +kernel
theorem dX10_readOperand_29 : decode cX10_readOperand 29 = .ok (.aload_n 0, 1) := by decide +kernel
theorem dX10_readOperand_30 : decode cX10_readOperand 30 = .ok (.iload_n 2, 1) := by decide +kernel
theorem dX10_readOperand_31 : decode cX10_readOperand 31 = .ok (.ineg, 1) := by decide +kernel
theorem dX10_readOperand_32 : decode cX10_readOperand 32 = .ok (.invokevirtual 44, 3) := by decide +kernel
theorem dX10_readOperand_35 : decode cX10_readOperand 35 = .ok (.aload_n 0, 1) := by decide +kernel
theorem dX10_readOperand_36 : decode cX10_readOperand 36 = .ok (.dup, 1) := by decide +kernel
theorem dX10_readOperand_37 : decode cX10_readOperand 37 = .ok (.getfield 19, 3) := by decide +kernel
theorem dX10_readOperand_40 : decode cX10_readOperand 40 = .ok (.iconst 1, 1) := by decide +kernel
theorem dX10_readOperand_41 : decode cX10_readOperand 41 = .ok (.iadd, 1) := by decide +kernel
theorem dX10_readOperand_42 : decode cX10_readOperand 42 = .ok (.putfield 19, 3) := by decide +kernel
theorem dX10_readOperand_45 : decode cX10_readOperand 45 = .ok (.iconst 1, 1) := by decide +kernel
theorem dX10_readOperand_46 : decode cX10_readOperand 46 = .ok (.ireturn, 1) := by decide +kernel
theorem dX10_readOperand_47 : decode cX10_readOperand 47 = .ok (.iload_n 2, 1) := by decide +kernel
theorem dX10_readOperand_48 : decode cX10_readOperand 48 = .ok (.bipush 33, 2) := by decide +kernel
theorem dX10_readOperand_50 : decode cX10_readOperand 50 = .ok (.if_icmp .eq 9, 3) := by decide +kernel
theorem dX10_readOperand_53 : decode cX10_readOperand 53 = .ok (.iload_n 2, 1) := by decide +kernel
theorem dX10_readOperand_54 : decode cX10_readOperand 54 = .ok (.bipush 40, 2) := by decide +kernel
theorem dX10_readOperand_56 : decode cX10_readOperand 56 = .ok (.if_icmp .ne 9, 3) := by decide +kernel
theorem dX10_readOperand_59 : decode cX10_readOperand 59 = .ok (.iload_n 1, 1) := by decide +kernel
theorem dX10_readOperand_60 : decode cX10_readOperand 60 = .ok (.bipush 9, 2) := by decide +kernel
theorem dX10_readOperand_62 : decode cX10_readOperand 62 = .ok (.if_icmp .lt 5, 3) := by decide +kernel
theorem dX10_readOperand_65 : decode cX10_readOperand 65 = .ok (.iconst 0, 1) := by decide +kernel
theorem dX10_readOperand_66 : decode cX10_readOperand 66 = .ok (.ireturn, 1) := by decide +kernel
theorem dX10_readOperand_67 : decode cX10_readOperand 67 = .ok (.aload_n 0, 1) := by decide +kernel
theorem dX10_readOperand_68 : decode cX10_readOperand 68 = .ok (.dup, 1) := by decide +kernel
theorem dX10_readOperand_69 : decode cX10_readOperand 69 = .ok (.getfield 19, 3) := by decide +kernel
theorem dX10_readOperand_72 : decode cX10_readOperand 72 = .ok (.iconst 1, 1) := by decide +kernel
theorem dX10_readOperand_73 : decode cX10_readOperand 73 = .ok (.iadd, 1) := by decide +kernel
theorem dX10_readOperand_74 : decode cX10_readOperand 74 = .ok (.putfield 19, 3) := by decide +kernel
theorem dX10_readOperand_77 : decode cX10_readOperand 77 = .ok (.iload_n 2, 1) := by decide +kernel
theorem dX10_readOperand_78 : decode cX10_readOperand 78 = .ok (.bipush 40, 2) := by decide +kernel
theorem dX10_readOperand_80 : decode cX10_readOperand 80 = .ok (.if_icmp .ne 29, 3) := by decide +kernel
theorem dX10_readOperand_83 : decode cX10_readOperand 83 = .ok (.aload_n 0, 1) := by decide +kernel
theorem dX10_readOperand_84 : decode cX10_readOperand 84 = .ok (.iconst 0, 1) := by decide +kernel
theorem dX10_readOperand_85 : decode cX10_readOperand 85 = .ok (.iload_n 1, 1) := by decide +kernel
theorem dX10_readOperand_86 : decode cX10_readOperand 86 = .ok (.iconst 1, 1) := by decide +kernel
theorem dX10_readOperand_87 : decode cX10_readOperand 87 = .ok (.iadd, 1) := by decide +kernel
theorem dX10_readOperand_88 : decode cX10_readOperand 88 = .ok (.invokevirtual 40, 3) := by decide +kernel
theorem dX10_readOperand_91 : decode cX10_readOperand 91 = .ok (.ifCond .eq 16, 3) := by decide +kernel
theorem dX10_readOperand_94 : decode cX10_readOperand 94 = .ok (.aload_n 0, 1) := by decide +kernel
theorem dX10_readOperand_95 : decode cX10_readOperand 95 = .ok (.bipush 41, 2) := by decide +kernel
theorem dX10_readOperand_97 : decode cX10_readOperand 97 = .ok (.invokevirtual 32, 3) := by decide +kernel
theorem dX10_readOperand_100 : decode cX10_readOperand 100 = .ok (.ifCond .eq 7, 3) := by decide +kernel
theorem dX10_readOperand_103 : decode cX10_readOperand 103 = .ok (.iconst 1, 1) := by decide +kernel
theorem dX10_readOperand_104 : decode cX10_readOperand 104 = .ok (.goto 4, 3) := by decide +kernel
theorem dX10_readOperand_107 : decode cX10_readOperand 107 = .ok (.iconst 0, 1) := by decide +kernel
theorem dX10_readOperand_108 : decode cX10_readOperand 108 = .ok (.ireturn, 1) := by decide +kernel
theorem dX10_readOperand_109 : decode cX10_readOperand 109 = .ok (.aload_n 0, 1) := by decide +kernel
theorem dX10_readOperand_110 : decode cX10_readOperand 110 = .ok (.iload_n 1, 1) := by decide +kernel
theorem dX10_readOperand_111 : decode cX10_readOperand 111 = .ok (.iconst 1, 1) := by decide +kernel
theorem dX10_readOperand_112 : decode cX10_readOperand 112 = .ok (.iadd, 1) := by decide +kernel
theorem dX10_readOperand_113 : decode cX10_readOperand 113 = .ok (.invokevirtual 48, 3) := by decide +kernel
theorem dX10_readOperand_116 : decode cX10_readOperand 116 = .ok (.ifCond .ne 5, 3) := by decide +kernel
theorem dX10_readOperand_119 : decode cX10_readOperand 119 = .ok (.iconst 0, 1) := by decide +kernel
theorem dX10_readOperand_120 : decode cX10_readOperand 120 = .ok (.ireturn, 1) := by decide +kernel
theorem dX10_readOperand_121 : decode cX10_readOperand 121 = .ok (.aload_n 0, 1) := by decide +kernel
theorem dX10_readOperand_122 : decode cX10_readOperand 122 = .ok (.iload_n 2, 1) := by decide +kernel
theorem dX10_readOperand_123 : decode cX10_readOperand 123 = .ok (.ineg, 1) := by decide +kernel
theorem dX10_readOperand_124 : decode cX10_readOperand 124 = .ok (.invokevirtual 44, 3) := by decide +kernel
theorem dX10_readOperand_127 : decode cX10_readOperand 127 = .ok (.iconst 1, 1) := by decide +kernel
theorem dX10_readOperand_128 : decode cX10_readOperand 128 = .ok (.ireturn, 1) := by decide +kernel
theorem dX10_readNumber_0 : decode cX10_readNumber 0 = .ok (.iconst 0, 1) := by decide +kernel
theorem dX10_readNumber_1 : decode cX10_readNumber 1 = .ok (.istore_n 1, 1) := by decide +kernel
theorem dX10_readNumber_2 : decode cX10_readNumber 2 = .ok (.iconst 0, 1) := by decide +kernel
theorem dX10_readNumber_3 : decode cX10_readNumber 3 = .ok (.istore_n 2, 1) := by decide +kernel
theorem dX10_readNumber_4 : decode cX10_readNumber 4 = .ok (.iload_n 2, 1) := by decide +kernel
theorem dX10_readNumber_5 : decode cX10_readNumber 5 = .ok (.iconst 4, 1) := by decide +kernel
theorem dX10_readNumber_6 : decode cX10_readNumber 6 = .ok (.if_icmp .ge 46, 3) := by decide +kernel
theorem dX10_readNumber_9 : decode cX10_readNumber 9 = .ok (.bipush 48, 2) := by decide +kernel
theorem dX10_readNumber_11 : decode cX10_readNumber 11 = .ok (.aload_n 0, 1) := by decide +kernel
theorem dX10_readNumber_12 : decode cX10_readNumber 12 = .ok (.invokevirtual 36, 3) := by decide +kernel
theorem dX10_readNumber_15 : decode cX10_readNumber 15 = .ok (.bipush 57, 2) := by decide +kernel
theorem dX10_readNumber_17 : decode cX10_readNumber 17 = .ok (.invokestatic 55, 3) := by decide +kernel
theorem dX10_readNumber_20 : decode cX10_readNumber 20 = .ok (.ifCond .eq 32, 3) := by decide +kernel
theorem dX10_readNumber_23 : decode cX10_readNumber 23 = .ok (.iload_n 1, 1) := by decide +kernel
theorem dX10_readNumber_24 : decode cX10_readNumber 24 = .ok (.bipush 10, 2) := by decide +kernel
theorem dX10_readNumber_26 : decode cX10_readNumber 26 = .ok (.imul, 1) := by decide +kernel
theorem dX10_readNumber_27 : decode cX10_readNumber 27 = .ok (.aload_n 0, 1) := by decide +kernel
theorem dX10_readNumber_28 : decode cX10_readNumber 28 = .ok (.invokevirtual 36, 3) := by decide +kernel
theorem dX10_readNumber_31 : decode cX10_readNumber 31 = .ok (.iadd, 1) := by decide +kernel
theorem dX10_readNumber_32 : decode cX10_readNumber 32 = .ok (.bipush 48, 2) := by decide +kernel
theorem dX10_readNumber_34 : decode cX10_readNumber 34 = .ok (.isub, 1) := by decide +kernel
theorem dX10_readNumber_35 : decode cX10_readNumber 35 = .ok (.istore_n 1, 1) := by decide +kernel
theorem dX10_readNumber_36 : decode cX10_readNumber 36 = .ok (.aload_n 0, 1) := by decide +kernel
theorem dX10_readNumber_37 : decode cX10_readNumber 37 = .ok (.dup, 1) := by decide +kernel
theorem dX10_readNumber_38 : decode cX10_readNumber 38 = .ok (.getfield 19, 3) := by decide +kernel
theorem dX10_readNumber_41 : decode cX10_readNumber 41 = .ok (.iconst 1, 1) := by decide +kernel
theorem dX10_readNumber_42 : decode cX10_readNumber 42 = .ok (.iadd, 1) := by decide +kernel
theorem dX10_readNumber_43 : decode cX10_readNumber 43 = .ok (.putfield 19, 3) := by decide +kernel
theorem dX10_readNumber_46 : decode cX10_readNumber 46 = .ok (.iinc 2 1, 3) := by decide +kernel
theorem dX10_readNumber_49 : decode cX10_readNumber 49 = .ok (.goto (-45), 3) := by decide +kernel
theorem dX10_readNumber_52 : decode cX10_readNumber 52 = .ok (.aload_n 0, 1) := by decide +kernel
theorem dX10_readNumber_53 : decode cX10_readNumber 53 = .ok (.iload_n 1, 1) := by decide +kernel
theorem dX10_readNumber_54 : decode cX10_readNumber 54 = .ok (.invokevirtual 44, 3) := by decide +kernel
theorem dX10_readNumber_57 : decode cX10_readNumber 57 = .ok (.return_, 1) := by decide +kernel
theorem dX11_init_0 : decode cX11_init 0 = .ok (.aload_n 0, 1) := by decide +kernel
theorem dX11_init_1 : decode cX11_init 1 = .ok (.invokespecial 1, 3) := by decide +kernel
theorem dX11_init_4 : decode cX11_init 4 = .ok (.aload_n 0, 1) := by decide +kernel
theorem dX11_init_5 : decode cX11_init 5 = .ok (.new 7, 3) := by decide +kernel
theorem dX11_init_8 : decode cX11_init 8 = .ok (.dup, 1) := by decide +kernel
theorem dX11_init_9 : decode cX11_init 9 = .ok (.invokespecial 9, 3) := by decide +kernel
theorem dX11_init_12 : decode cX11_init 12 = .ok (.putfield 10, 3) := by decide +kernel
theorem dX11_init_15 : decode cX11_init 15 = .ok (.aload_n 0, 1) := by decide +kernel
theorem dX11_init_16 : decode cX11_init 16 = .ok (.new 16, 3) := by decide +kernel
theorem dX11_init_19 : decode cX11_init 19 = .ok (.dup, 1) := by decide +kernel
theorem dX11_init_20 : decode cX11_init 20 = .ok (.invokespecial 18, 3) := by decide +kernel
theorem dX11_init_23 : decode cX11_init 23 = .ok (.putfield 19, 3) := by decide +kernel
theorem dX11_init_26 : decode cX11_init 26 = .ok (.aload_n 0, 1) := by decide +kernel
theorem dX11_init_27 : decode cX11_init 27 = .ok (.new 23, 3) := by decide +kernel
theorem dX11_init_30 : decode cX11_init 30 = .ok (.dup, 1) := by decide +kernel
theorem dX11_init_31 : decode cX11_init 31 = .ok (.invokespecial 25, 3) := by decide +kernel
theorem dX11_init_34 : decode cX11_init 34 = .ok (.putfield 26, 3) := by decide +kernel
theorem dX11_init_37 : decode cX11_init 37 = .ok (.aload_n 0, 1) := by decide +kernel
theorem dX11_init_38 : decode cX11_init 38 = .ok (.new 30, 3) := by decide +kernel
theorem dX11_init_41 : decode cX11_init 41 = .ok (.dup, 1) := by decide +kernel
theorem dX11_init_42 : decode cX11_init 42 = .ok (.invokespecial 32, 3) := by decide +kernel
theorem dX11_init_45 : decode cX11_init 45 = .ok (.putfield 33, 3) := by decide +kernel
theorem dX11_init_48 : decode cX11_init 48 = .ok (.aload_n 0, 1) := by decide +kernel
theorem dX11_init_49 : decode cX11_init 49 = .ok (.new 37, 3) := by decide +kernel
theorem dX11_init_52 : decode cX11_init 52 = .ok (.dup, 1) := by decide +kernel
theorem dX11_init_53 : decode cX11_init 53 = .ok (.invokespecial 39, 3) := by decide +kernel
theorem dX11_init_56 : decode cX11_init 56 = .ok (.putfield 40, 3) := by decide +kernel
theorem dX11_init_59 : decode cX11_init 59 = .ok (.aload_n 0, 1) := by decide +kernel
theorem dX11_init_60 : decode cX11_init 60 = .ok (.new 44, 3) := by decide +kernel
theorem dX11_init_63 : decode cX11_init 63 = .ok (.dup, 1) := by decide +kernel
theorem dX11_init_64 : decode cX11_init 64 = .ok (.invokespecial 46, 3) := by decide +kernel
theorem dX11_init_67 : decode cX11_init 67 = .ok (.putfield 47, 3) := by decide +kernel
theorem dX11_init_70 : decode cX11_init 70 = .ok (.aload_n 0, 1) := by decide +kernel
theorem dX11_init_71 : decode cX11_init 71 = .ok (.new 51, 3) := by decide +kernel
theorem dX11_init_74 : decode cX11_init 74 = .ok (.dup, 1) := by decide +kernel
theorem dX11_init_75 : decode cX11_init 75 = .ok (.invokespecial 53, 3) := by decide +kernel
theorem dX11_init_78 : decode cX11_init 78 = .ok (.putfield 54, 3) := by decide +kernel
theorem dX11_init_81 : decode cX11_init 81 = .ok (.aload_n 0, 1) := by decide +kernel
theorem dX11_init_82 : decode cX11_init 82 = .ok (.new 58, 3) := by decide +kernel
theorem dX11_init_85 : decode cX11_init 85 = .ok (.dup, 1) := by decide +kernel
theorem dX11_init_86 : decode cX11_init 86 = .ok (.invokespecial 60, 3) := by decide +kernel
theorem dX11_init_89 : decode cX11_init 89 = .ok (.putfield 61, 3) := by decide +kernel
theorem dX11_init_92 : decode cX11_init 92 = .ok (.aload_n 0, 1) := by decide +kernel
theorem dX11_init_93 : decode cX11_init 93 = .ok (.new 65, 3) := by decide +kernel
theorem dX11_init_96 : decode cX11_init 96 = .ok (.dup, 1) := by decide +kernel
theorem dX11_init_97 : decode cX11_init 97 = .ok (.invokespecial 67, 3) := by decide +kernel
theorem dX11_init_100 : decode cX11_init 100 = .ok (.putfield 68, 3) := by decide +kernel
theorem dX11_init_103 : decode cX11_init 103 = .ok (.aload_n 0, 1) := by decide +kernel
theorem dX11_init_104 : decode cX11_init 104 = .ok (.new 72, 3) := by decide +kernel
theorem dX11_init_107 : decode cX11_init 107 = .ok (.dup, 1) := by decide +kernel
theorem dX11_init_108 : decode cX11_init 108 = .ok (.invokespecial 74, 3) := by decide +kernel
theorem dX11_init_111 : decode cX11_init 111 = .ok (.putfield 75, 3) := by decide +kernel
theorem dX11_init_114 : decode cX11_init 114 = .ok (.aload_n 0, 1) := by decide +kernel
theorem dX11_init_115 : decode cX11_init 115 = .ok (.new 79, 3) := by decide +kernel
theorem dX11_init_118 : decode cX11_init 118 = .ok (.dup, 1) := by decide +kernel
theorem dX11_init_119 : decode cX11_init 119 = .ok (.bipush 10, 2) := by decide +kernel
theorem dX11_init_121 : decode cX11_init 121 = .ok (.invokespecial 81, 3) := by decide +kernel
theorem dX11_init_124 : decode cX11_init 124 = .ok (.putfield 84, 3) := by decide +kernel
theorem dX11_init_127 : decode cX11_init 127 = .ok (.aload_n 0, 1) := by decide +kernel
theorem dX11_init_128 : decode cX11_init 128 = .ok (.bipush 10, 2) := by decide +kernel
theorem dX11_init_130 : decode cX11_init 130 = .ok (.newarray .int, 2) := by decide +kernel
theorem dX11_init_132 : decode cX11_init 132 = .ok (.putfield 88, 3) := by decide +kernel
theorem dX11_init_135 : decode cX11_init 135 = .ok (.aload_n 0, 1) := by decide +kernel
theorem dX11_init_136 : decode cX11_init 136 = .ok (.bipush 10, 2) := by decide +kernel
theorem dX11_init_138 : decode cX11_init 138 = .ok (.newarray .int, 2) := by decide +kernel
theorem dX11_init_140 : decode cX11_init 140 = .ok (.putfield 92, 3) := by decide +kernel
theorem dX11_init_143 : decode cX11_init 143 = .ok (.aload_n 0, 1) := by decide +kernel
theorem dX11_init_144 : decode cX11_init 144 = .ok (.iconst 0, 1) := by decide +kernel
theorem dX11_init_145 : decode cX11_init 145 = .ok (.putfield 95, 3) := by decide +kernel
theorem dX11_init_148 : decode cX11_init 148 = .ok (.return_, 1) := by decide +kernel
theorem dX11_shop_0 : decode cX11_shop 0 = .ok (.iload_n 1, 1) := by decide +kernel
theorem dX11_shop_1 : decode cX11_shop 1 = .ok (.sipush 10000, 3) := by decide +kernel
theorem dX11_shop_4 : decode cX11_shop 4 = .ok (.invokestatic 99, 3) := by decide +kernel
theorem dX11_shop_7 : decode cX11_shop 7 = .ok (.ifCond .ne 5, 3) := by decide +kernel
theorem dX11_shop_10 : decode cX11_shop 10 = .ok (.iconst (-1), 1) := by decide +kernel
theorem dX11_shop_11 : decode cX11_shop 11 = .ok (.ireturn, 1) := by decide +kernel
theorem dX11_shop_12 : decode cX11_shop 12 = .ok (.aload_n 0, 1) := by decide +kernel
theorem dX11_shop_13 : decode cX11_shop 13 = .ok (.getfield 19, 3) := by decide +kernel
theorem dX11_shop_16 : decode cX11_shop 16 = .ok (.getfield 103, 3) := by decide +kernel
theorem dX11_shop_19 : decode cX11_shop 19 = .ok (.iload_n 1, 1) := by decide +kernel
theorem dX11_shop_20 : decode cX11_shop 20 = .ok (.invokevirtual 106, 3) := by decide +kernel
theorem dX11_shop_23 : decode cX11_shop 23 = .ok (.ireturn, 1) := by decide +kernel
theorem dX11_kind_0 : decode cX11_kind 0 = .ok (.iconst 1, 1) := by decide +kernel
theorem dX11_kind_1 : decode cX11_kind 1 = .ok (.iload_n 1, 1) := by decide +kernel
theorem dX11_kind_2 : decode cX11_kind 2 = .ok (.sipush 9999, 3) := by decide +kernel
theorem dX11_kind_5 : decode cX11_kind 5 = .ok (.invokestatic 110, 3) := by decide +kernel
theorem dX11_kind_8 : decode cX11_kind 8 = .ok (.ifCond .eq 14, 3) := by decide +kernel
theorem dX11_kind_11 : decode cX11_kind 11 = .ok (.iconst 0, 1) := by decide +kernel
theorem dX11_kind_12 : decode cX11_kind 12 = .ok (.iload_n 2, 1) := by decide +kernel
theorem dX11_kind_13 : decode cX11_kind 13 = .ok (.sipush 9999, 3) := by decide +kernel
theorem dX11_kind_16 : decode cX11_kind 16 = .ok (.invokestatic 110, 3) := by decide +kernel
theorem dX11_kind_19 : decode cX11_kind 19 = .ok (.ifCond .ne 5, 3) := by decide +kernel
theorem dX11_kind_22 : decode cX11_kind 22 = .ok (.iconst (-1), 1) := by decide +kernel
theorem dX11_kind_23 : decode cX11_kind 23 = .ok (.ireturn, 1) := by decide +kernel
theorem dX11_kind_24 : decode cX11_kind 24 = .ok (.iconst 1, 1) := by decide +kernel
theorem dX11_kind_25 : decode cX11_kind 25 = .ok (.iload_n 3, 1) := by decide +kernel
theorem dX11_kind_26 : decode cX11_kind 26 = .ok (.sipush 9999, 3) := by decide +kernel
theorem dX11_kind_29 : decode cX11_kind 29 = .ok (.invokestatic 110, 3) := by decide +kernel
theorem dX11_kind_32 : decode cX11_kind 32 = .ok (.ifCond .eq 13, 3) := by decide +kernel
theorem dX11_kind_35 : decode cX11_kind 35 = .ok (.iconst 0, 1) := by decide +kernel
theorem dX11_kind_36 : decode cX11_kind 36 = .ok (.iload 4, 2) := by decide +kernel
theorem dX11_kind_38 : decode cX11_kind 38 = .ok (.iconst 1, 1) := by decide +kernel
theorem dX11_kind_39 : decode cX11_kind 39 = .ok (.invokestatic 110, 3) := by decide +kernel
theorem dX11_kind_42 : decode cX11_kind 42 = .ok (.ifCond .ne 5, 3) := by decide +kernel
theorem dX11_kind_45 : decode cX11_kind 45 = .ok (.iconst (-1), 1) := by decide +kernel
theorem dX11_kind_46 : decode cX11_kind 46 = .ok (.ireturn, 1) := by decide +kernel
theorem dX11_kind_47 : decode cX11_kind 47 = .ok (.aload_n 0, 1) := by decide +kernel
theorem dX11_kind_48 : decode cX11_kind 48 = .ok (.getfield 26, 3) := by decide +kernel
theorem dX11_kind_51 : decode cX11_kind 51 = .ok (.iload_n 1, 1) := by decide +kernel
theorem dX11_kind_52 : decode cX11_kind 52 = .ok (.iload_n 2, 1) := by decide +kernel
theorem dX11_kind_53 : decode cX11_kind 53 = .ok (.iload_n 3, 1) := by decide +kernel
theorem dX11_kind_54 : decode cX11_kind 54 = .ok (.iload 4, 2) := by decide +kernel
theorem dX11_kind_56 : decode cX11_kind 56 = .ok (.invokevirtual 114, 3) := by decide +kernel
theorem dX11_kind_59 : decode cX11_kind 59 = .ok (.ireturn, 1) := by decide +kernel
theorem dX11_priceAt_0 : decode cX11_priceAt 0 = .ok (.aload_n 0, 1) := by decide +kernel
theorem dX11_priceAt_1 : decode cX11_priceAt 1 = .ok (.getfield 26, 3) := by decide +kernel
theorem dX11_priceAt_4 : decode cX11_priceAt 4 = .ok (.iload_n 1, 1) := by decide +kernel
theorem dX11_priceAt_5 : decode cX11_priceAt 5 = .ok (.invokevirtual 117, 3) := by decide +kernel
theorem dX11_priceAt_8 : decode cX11_priceAt 8 = .ok (.ifCond .eq 11, 3) := by decide +kernel
theorem dX11_priceAt_11 : decode cX11_priceAt 11 = .ok (.iload_n 2, 1) := by decide +kernel
theorem dX11_priceAt_12 : decode cX11_priceAt 12 = .ok (.iconst 4, 1) := by decide +kernel
theorem dX11_priceAt_13 : decode cX11_priceAt 13 = .ok (.invokestatic 99, 3) := by decide +kernel
theorem dX11_priceAt_16 : decode cX11_priceAt 16 = .ok (.ifCond .ne 5, 3) := by decide +kernel
theorem dX11_priceAt_19 : decode cX11_priceAt 19 = .ok (.iconst (-1), 1) := by decide +kernel
theorem dX11_priceAt_20 : decode cX11_priceAt 20 = .ok (.ireturn, 1) := by decide +kernel
theorem dX11_priceAt_21 : decode cX11_priceAt 21 = .ok (.aload_n 0, 1) := by decide +kernel
theorem dX11_priceAt_22 : decode cX11_priceAt 22 = .ok (.getfield 26, 3) := by decide +kernel
theorem dX11_priceAt_25 : decode cX11_priceAt 25 = .ok (.iload_n 1, 1) := by decide +kernel
theorem dX11_priceAt_26 : decode cX11_priceAt 26 = .ok (.iload_n 2, 1) := by decide +kernel
theorem dX11_priceAt_27 : decode cX11_priceAt 27 = .ok (.invokevirtual 121, 3) := by decide +kernel
theorem dX11_priceAt_30 : decode cX11_priceAt 30 = .ok (.ireturn, 1) := by decide +kernel
theorem dX11_throwing_0 : decode cX11_throwing 0 = .ok (.aload_n 0, 1) := by decide +kernel
theorem dX11_throwing_1 : decode cX11_throwing 1 = .ok (.getfield 26, 3) := by decide +kernel
theorem dX11_throwing_4 : decode cX11_throwing 4 = .ok (.iload_n 1, 1) := by decide +kernel
theorem dX11_throwing_5 : decode cX11_throwing 5 = .ok (.invokevirtual 117, 3) := by decide +kernel
theorem dX11_throwing_8 : decode cX11_throwing 8 = .ok (.ifCond .eq 14, 3) := by decide +kernel
theorem dX11_throwing_11 : decode cX11_throwing 11 = .ok (.iconst 0, 1) := by decide +kernel
theorem dX11_throwing_12 : decode cX11_throwing 12 = .ok (.iload_n 2, 1) := by decide +kernel
theorem dX11_throwing_13 : decode cX11_throwing 13 = .ok (.sipush 9999, 3) := by decide +kernel
theorem dX11_throwing_16 : decode cX11_throwing 16 = .ok (.invokestatic 110, 3) := by decide +kernel
theorem dX11_throwing_19 : decode cX11_throwing 19 = .ok (.ifCond .ne 5, 3) := by decide +kernel
theorem dX11_throwing_22 : decode cX11_throwing 22 = .ok (.iconst (-1), 1) := by decide +kernel
theorem dX11_throwing_23 : decode cX11_throwing 23 = .ok (.ireturn, 1) := by decide +kernel
theorem dX11_throwing_24 : decode cX11_throwing 24 = .ok (.aload_n 0, 1) := by decide +kernel
theorem dX11_throwing_25 : decode cX11_throwing 25 = .ok (.getfield 26, 3) := by decide +kernel
theorem dX11_throwing_28 : decode cX11_throwing 28 = .ok (.getfield 125, 3) := by decide +kernel
theorem dX11_throwing_31 : decode cX11_throwing 31 = .ok (.iload_n 1, 1) := by decide +kernel
theorem dX11_throwing_32 : decode cX11_throwing 32 = .ok (.iaload, 1) := by decide +kernel
theorem dX11_throwing_33 : decode cX11_throwing 33 = .ok (.istore_n 3, 1) := by decide +kernel
theorem dX11_throwing_34 : decode cX11_throwing 34 = .ok (.aload_n 0, 1) := by decide +kernel
theorem dX11_throwing_35 : decode cX11_throwing 35 = .ok (.getfield 26, 3) := by decide +kernel
theorem dX11_throwing_38 : decode cX11_throwing 38 = .ok (.getfield 125, 3) := by decide +kernel
theorem dX11_throwing_41 : decode cX11_throwing 41 = .ok (.iload_n 1, 1) := by decide +kernel
theorem dX11_throwing_42 : decode cX11_throwing 42 = .ok (.iload_n 2, 1) := by decide +kernel
theorem dX11_throwing_43 : decode cX11_throwing 43 = .ok (.iastore, 1) := by decide +kernel
theorem dX11_throwing_44 : decode cX11_throwing 44 = .ok (.iload_n 3, 1) := by decide +kernel
theorem dX11_throwing_45 : decode cX11_throwing 45 = .ok (.ireturn, 1) := by decide +kernel
theorem dX11_weather_0 : decode cX11_weather 0 = .ok (.iload_n 1, 1) := by decide +kernel
theorem dX11_weather_1 : decode cX11_weather 1 = .ok (.sipush 1500, 3) := by decide +kernel
theorem dX11_weather_4 : decode cX11_weather 4 = .ok (.invokestatic 99, 3) := by decide +kernel
theorem dX11_weather_7 : decode cX11_weather 7 = .ok (.ifCond .eq 11, 3) := by decide +kernel
theorem dX11_weather_10 : decode cX11_weather 10 = .ok (.iload_n 2, 1) := by decide +kernel
theorem dX11_weather_11 : decode cX11_weather 11 = .ok (.iconst 3, 1) := by decide +kernel
theorem dX11_weather_12 : decode cX11_weather 12 = .ok (.invokestatic 99, 3) := by decide +kernel
theorem dX11_weather_15 : decode cX11_weather 15 = .ok (.ifCond .ne 5, 3) := by decide +kernel
theorem dX11_weather_18 : decode cX11_weather 18 = .ok (.iconst (-1), 1) := by decide +kernel
theorem dX11_weather_19 : decode cX11_weather 19 = .ok (.ireturn, 1) := by decide +kernel
theorem dX11_weather_20 : decode cX11_weather 20 = .ok (.aload_n 0, 1) := by decide +kernel
theorem dX11_weather_21 : decode cX11_weather 21 = .ok (.getfield 10, 3) := by decide +kernel
theorem dX11_weather_24 : decode cX11_weather 24 = .ok (.getfield 128, 3) := by decide +kernel
theorem dX11_weather_27 : decode cX11_weather 27 = .ok (.iload_n 1, 1) := by decide +kernel
theorem dX11_weather_28 : decode cX11_weather 28 = .ok (.iaload, 1) := by decide +kernel
theorem dX11_weather_29 : decode cX11_weather 29 = .ok (.istore_n 3, 1) := by decide +kernel
theorem dX11_weather_30 : decode cX11_weather 30 = .ok (.aload_n 0, 1) := by decide +kernel
theorem dX11_weather_31 : decode cX11_weather 31 = .ok (.getfield 10, 3) := by decide +kernel
theorem dX11_weather_34 : decode cX11_weather 34 = .ok (.getfield 128, 3) := by decide +kernel
theorem dX11_weather_37 : decode cX11_weather 37 = .ok (.iload_n 1, 1) := by decide +kernel
theorem dX11_weather_38 : decode cX11_weather 38 = .ok (.iload_n 2, 1) := by decide +kernel
theorem dX11_weather_39 : decode cX11_weather 39 = .ok (.iastore, 1) := by decide +kernel
theorem dX11_weather_40 : decode cX11_weather 40 = .ok (.iload_n 3, 1) := by decide +kernel
theorem dX11_weather_41 : decode cX11_weather 41 = .ok (.ireturn, 1) := by decide +kernel
theorem dX11_hours_0 : decode cX11_hours 0 = .ok (.iconst 1, 1) := by decide +kernel
theorem dX11_hours_1 : decode cX11_hours 1 = .ok (.iload_n 1, 1) := by decide +kernel
theorem dX11_hours_2 : decode cX11_hours 2 = .ok (.sipush 240, 3) := by decide +kernel
theorem dX11_hours_5 : decode cX11_hours 5 = .ok (.invokestatic 110, 3) := by decide +kernel
theorem dX11_hours_8 : decode cX11_hours 8 = .ok (.ifCond .eq 17, 3) := by decide +kernel
theorem dX11_hours_11 : decode cX11_hours 11 = .ok (.iload_n 1, 1) := by decide +kernel
theorem dX11_hours_12 : decode cX11_hours 12 = .ok (.ldc 131, 2) := by decide +kernel
theorem dX11_hours_14 : decode cX11_hours 14 = .ok (.aload_n 0, 1) := by decide +kernel
theorem dX11_hours_15 : decode cX11_hours 15 = .ok (.getfield 10, 3) := by decide +kernel
theorem dX11_hours_18 : decode cX11_hours 18 = .ok (.getfield 132, 3) := by decide +kernel
theorem dX11_hours_21 : decode cX11_hours 21 = .ok (.isub, 1) := by decide +kernel
theorem dX11_hours_22 : decode cX11_hours 22 = .ok (.if_icmp .le 5, 3) := by decide +kernel
theorem dX11_hours_25 : decode cX11_hours 25 = .ok (.iconst (-1), 1) := by decide +kernel
theorem dX11_hours_26 : decode cX11_hours 26 = .ok (.ireturn, 1) := by decide +kernel
theorem dX11_hours_27 : decode cX11_hours 27 = .ok (.iconst 0, 1) := by decide +kernel
theorem dX11_hours_28 : decode cX11_hours 28 = .ok (.istore_n 2, 1) := by decide +kernel
theorem dX11_hours_29 : decode cX11_hours 29 = .ok (.iload_n 2, 1) := by decide +kernel
theorem dX11_hours_30 : decode cX11_hours 30 = .ok (.iload_n 1, 1) := by decide +kernel
theorem dX11_hours_31 : decode cX11_hours 31 = .ok (.if_icmp .ge 36, 3) := by decide +kernel
theorem dX11_hours_34 : decode cX11_hours 34 = .ok (.aload_n 0, 1) := by decide +kernel
theorem dX11_hours_35 : decode cX11_hours 35 = .ok (.getfield 10, 3) := by decide +kernel
theorem dX11_hours_38 : decode cX11_hours 38 = .ok (.dup, 1) := by decide +kernel
theorem dX11_hours_39 : decode cX11_hours 39 = .ok (.getfield 132, 3) := by decide +kernel
theorem dX11_hours_42 : decode cX11_hours 42 = .ok (.iconst 1, 1) := by decide +kernel
theorem dX11_hours_43 : decode cX11_hours 43 = .ok (.iadd, 1) := by decide +kernel
theorem dX11_hours_44 : decode cX11_hours 44 = .ok (.putfield 132, 3) := by decide +kernel
theorem dX11_hours_47 : decode cX11_hours 47 = .ok (.aload_n 0, 1) := by decide +kernel
theorem dX11_hours_48 : decode cX11_hours 48 = .ok (.getfield 10, 3) := by decide +kernel
theorem dX11_hours_51 : decode cX11_hours 51 = .ok (.invokevirtual 135, 3) := by decide +kernel
theorem dX11_hours_54 : decode cX11_hours 54 = .ok (.ifCond .ne 7, 3) := by decide +kernel
theorem dX11_hours_57 : decode cX11_hours 57 = .ok (.aload_n 0, 1) := by decide +kernel
theorem dX11_hours_58 : decode cX11_hours 58 = .ok (.invokevirtual 139, 3) := by decide +kernel
theorem dX11_hours_61 : decode cX11_hours 61 = .ok (.iinc 2 1, 3) := by decide +kernel
theorem dX11_hours_64 : decode cX11_hours 64 = .ok (.goto (-35), 3) := by decide +kernel
theorem dX11_hours_67 : decode cX11_hours 67 = .ok (.aload_n 0, 1) := by decide +kernel
theorem dX11_hours_68 : decode cX11_hours 68 = .ok (.getfield 10, 3) := by decide +kernel
theorem dX11_hours_71 : decode cX11_hours 71 = .ok (.getfield 132, 3) := by decide +kernel
theorem dX11_hours_74 : decode cX11_hours 74 = .ok (.ireturn, 1) := by decide +kernel
theorem dX11_cut_0 : decode cX11_cut 0 = .ok (.aload_n 0, 1) := by decide +kernel
theorem dX11_cut_1 : decode cX11_cut 1 = .ok (.iload_n 1, 1) := by decide +kernel
theorem dX11_cut_2 : decode cX11_cut 2 = .ok (.iload_n 2, 1) := by decide +kernel
theorem dX11_cut_3 : decode cX11_cut 3 = .ok (.invokevirtual 142, 3) := by decide +kernel
theorem dX11_cut_6 : decode cX11_cut 6 = .ok (.ifCond .eq 11, 3) := by decide +kernel
theorem dX11_cut_9 : decode cX11_cut 9 = .ok (.iload_n 3, 1) := by decide +kernel
theorem dX11_cut_10 : decode cX11_cut 10 = .ok (.iconst 4, 1) := by decide +kernel
theorem dX11_cut_11 : decode cX11_cut 11 = .ok (.invokestatic 99, 3) := by decide +kernel
theorem dX11_cut_14 : decode cX11_cut 14 = .ok (.ifCond .ne 5, 3) := by decide +kernel
theorem dX11_cut_17 : decode cX11_cut 17 = .ok (.iconst (-1), 1) := by decide +kernel
theorem dX11_cut_18 : decode cX11_cut 18 = .ok (.ireturn, 1) := by decide +kernel
theorem dX11_cut_19 : decode cX11_cut 19 = .ok (.aload_n 0, 1) := by decide +kernel
theorem dX11_cut_20 : decode cX11_cut 20 = .ok (.getfield 19, 3) := by decide +kernel
theorem dX11_cut_23 : decode cX11_cut 23 = .ok (.getfield 145, 3) := by decide +kernel
theorem dX11_cut_26 : decode cX11_cut 26 = .ok (.iload_n 1, 1) := by decide +kernel
theorem dX11_cut_27 : decode cX11_cut 27 = .ok (.aaload, 1) := by decide +kernel
theorem dX11_cut_28 : decode cX11_cut 28 = .ok (.iload_n 2, 1) := by decide +kernel
theorem dX11_cut_29 : decode cX11_cut 29 = .ok (.iaload, 1) := by decide +kernel
theorem dX11_cut_30 : decode cX11_cut 30 = .ok (.istore 4, 2) := by decide +kernel
theorem dX11_cut_32 : decode cX11_cut 32 = .ok (.iload_n 3, 1) := by decide +kernel
theorem dX11_cut_33 : decode cX11_cut 33 = .ok (.iload 4, 2) := by decide +kernel
theorem dX11_cut_35 : decode cX11_cut 35 = .ok (.if_icmp .gt 6, 3) := by decide +kernel
theorem dX11_cut_38 : decode cX11_cut 38 = .ok (.bipush (-2), 2) := by decide +kernel
theorem dX11_cut_40 : decode cX11_cut 40 = .ok (.ireturn, 1) := by decide +kernel
theorem dX11_cut_41 : decode cX11_cut 41 = .ok (.aload_n 0, 1) := by decide +kernel
theorem dX11_cut_42 : decode cX11_cut 42 = .ok (.getfield 19, 3) := by decide +kernel
theorem dX11_cut_45 : decode cX11_cut 45 = .ok (.getfield 145, 3) := by decide +kernel
theorem dX11_cut_48 : decode cX11_cut 48 = .ok (.iload_n 1, 1) := by decide +kernel
theorem dX11_cut_49 : decode cX11_cut 49 = .ok (.aaload, 1) := by decide +kernel
theorem dX11_cut_50 : decode cX11_cut 50 = .ok (.iload_n 2, 1) := by decide +kernel
theorem dX11_cut_51 : decode cX11_cut 51 = .ok (.iload_n 3, 1) := by decide +kernel
theorem dX11_cut_52 : decode cX11_cut 52 = .ok (.iastore, 1) := by decide +kernel
theorem dX11_cut_53 : decode cX11_cut 53 = .ok (.iload 4, 2) := by decide +kernel
theorem dX11_cut_55 : decode cX11_cut 55 = .ok (.ireturn, 1) := by decide +kernel
theorem dX11_step_0 : decode cX11_step 0 = .ok (.aload_n 0, 1) := by decide +kernel
theorem dX11_step_1 : decode cX11_step 1 = .ok (.iload_n 1, 1) := by decide +kernel
theorem dX11_step_2 : decode cX11_step 2 = .ok (.iload_n 2, 1) := by decide +kernel
theorem dX11_step_3 : decode cX11_step 3 = .ok (.invokevirtual 142, 3) := by decide +kernel
theorem dX11_step_6 : decode cX11_step 6 = .ok (.ifCond .ne 5, 3) := by decide +kernel
theorem dX11_step_9 : decode cX11_step 9 = .ok (.iconst (-1), 1) := by decide +kernel
theorem dX11_step_10 : decode cX11_step 10 = .ok (.ireturn, 1) := by decide +kernel
theorem dX11_step_11 : decode cX11_step 11 = .ok (.aload_n 0, 1) := by decide +kernel
theorem dX11_step_12 : decode cX11_step 12 = .ok (.getfield 19, 3) := by decide +kernel
theorem dX11_step_15 : decode cX11_step 15 = .ok (.getfield 145, 3) := by decide +kernel
theorem dX11_step_18 : decode cX11_step 18 = .ok (.iload_n 1, 1) := by decide +kernel
theorem dX11_step_19 : decode cX11_step 19 = .ok (.aaload, 1) := by decide +kernel
theorem dX11_step_20 : decode cX11_step 20 = .ok (.iload_n 2, 1) := by decide +kernel
theorem dX11_step_21 : decode cX11_step 21 = .ok (.iaload, 1) := by decide +kernel
theorem dX11_step_22 : decode cX11_step 22 = .ok (.ireturn, 1) := by decide +kernel
theorem dX11_warm_0 : decode cX11_warm 0 = .ok (.aload_n 0, 1) := by decide +kernel
theorem dX11_warm_1 : decode cX11_warm 1 = .ok (.iload_n 1, 1) := by decide +kernel
theorem dX11_warm_2 : decode cX11_warm 2 = .ok (.iload_n 2, 1) := by decide +kernel
theorem dX11_warm_3 : decode cX11_warm 3 = .ok (.invokevirtual 142, 3) := by decide +kernel
theorem dX11_warm_6 : decode cX11_warm 6 = .ok (.ifCond .eq 13, 3) := by decide +kernel
theorem dX11_warm_9 : decode cX11_warm 9 = .ok (.iconst 0, 1) := by decide +kernel
theorem dX11_warm_10 : decode cX11_warm 10 = .ok (.iload_n 3, 1) := by decide +kernel
theorem dX11_warm_11 : decode cX11_warm 11 = .ok (.bipush 24, 2) := by decide +kernel
theorem dX11_warm_13 : decode cX11_warm 13 = .ok (.invokestatic 110, 3) := by decide +kernel
theorem dX11_warm_16 : decode cX11_warm 16 = .ok (.ifCond .ne 5, 3) := by decide +kernel
theorem dX11_warm_19 : decode cX11_warm 19 = .ok (.iconst (-1), 1) := by decide +kernel
theorem dX11_warm_20 : decode cX11_warm 20 = .ok (.ireturn, 1) := by decide +kernel
theorem dX11_warm_21 : decode cX11_warm 21 = .ok (.aload_n 0, 1) := by decide +kernel
theorem dX11_warm_22 : decode cX11_warm 22 = .ok (.getfield 19, 3) := by decide +kernel
theorem dX11_warm_25 : decode cX11_warm 25 = .ok (.getfield 149, 3) := by decide +kernel
theorem dX11_warm_28 : decode cX11_warm 28 = .ok (.iload_n 1, 1) := by decide +kernel
theorem dX11_warm_29 : decode cX11_warm 29 = .ok (.aaload, 1) := by decide +kernel
theorem dX11_warm_30 : decode cX11_warm 30 = .ok (.iload_n 2, 1) := by decide +kernel
theorem dX11_warm_31 : decode cX11_warm 31 = .ok (.iaload, 1) := by decide +kernel
theorem dX11_warm_32 : decode cX11_warm 32 = .ok (.istore 4, 2) := by decide +kernel
theorem dX11_warm_34 : decode cX11_warm 34 = .ok (.aload_n 0, 1) := by decide +kernel
theorem dX11_warm_35 : decode cX11_warm 35 = .ok (.getfield 19, 3) := by decide +kernel
theorem dX11_warm_38 : decode cX11_warm 38 = .ok (.getfield 149, 3) := by decide +kernel
theorem dX11_warm_41 : decode cX11_warm 41 = .ok (.iload_n 1, 1) := by decide +kernel
theorem dX11_warm_42 : decode cX11_warm 42 = .ok (.aaload, 1) := by decide +kernel
theorem dX11_warm_43 : decode cX11_warm 43 = .ok (.iload_n 2, 1) := by decide +kernel
theorem dX11_warm_44 : decode cX11_warm 44 = .ok (.iload_n 3, 1) := by decide +kernel
theorem dX11_warm_45 : decode cX11_warm 45 = .ok (.iastore, 1) := by decide +kernel
theorem dX11_warm_46 : decode cX11_warm 46 = .ok (.iload 4, 2) := by decide +kernel
theorem dX11_warm_48 : decode cX11_warm 48 = .ok (.ireturn, 1) := by decide +kernel
theorem dX11_batch_0 : decode cX11_batch 0 = .ok (.iload_n 2, 1) := by decide +kernel
theorem dX11_batch_1 : decode cX11_batch 1 = .ok (.ifCond .lt 15, 3) := by decide +kernel
theorem dX11_batch_4 : decode cX11_batch 4 = .ok (.aload_n 0, 1) := by decide +kernel
theorem dX11_batch_5 : decode cX11_batch 5 = .ok (.iload_n 1, 1) := by decide +kernel
theorem dX11_batch_6 : decode cX11_batch 6 = .ok (.iload_n 2, 1) := by decide +kernel
theorem dX11_batch_7 : decode cX11_batch 7 = .ok (.bipush 100, 2) := by decide +kernel
theorem dX11_batch_9 : decode cX11_batch 9 = .ok (.idiv, 1) := by decide +kernel
theorem dX11_batch_10 : decode cX11_batch 10 = .ok (.invokevirtual 142, 3) := by decide +kernel
theorem dX11_batch_13 : decode cX11_batch 13 = .ok (.ifCond .ne 5, 3) := by decide +kernel
theorem dX11_batch_16 : decode cX11_batch 16 = .ok (.iconst (-1), 1) := by decide +kernel
theorem dX11_batch_17 : decode cX11_batch 17 = .ok (.ireturn, 1) := by decide +kernel
theorem dX11_batch_18 : decode cX11_batch 18 = .ok (.aload_n 0, 1) := by decide +kernel
theorem dX11_batch_19 : decode cX11_batch 19 = .ok (.getfield 10, 3) := by decide +kernel
theorem dX11_batch_22 : decode cX11_batch 22 = .ok (.invokevirtual 152, 3) := by decide +kernel
theorem dX11_batch_25 : decode cX11_batch 25 = .ok (.istore 5, 2) := by decide +kernel
theorem dX11_batch_27 : decode cX11_batch 27 = .ok (.iconst 0, 1) := by decide +kernel
theorem dX11_batch_28 : decode cX11_batch 28 = .ok (.iload_n 3, 1) := by decide +kernel
theorem dX11_batch_29 : decode cX11_batch 29 = .ok (.bipush 9, 2) := by decide +kernel
theorem dX11_batch_31 : decode cX11_batch 31 = .ok (.invokestatic 110, 3) := by decide +kernel
theorem dX11_batch_34 : decode cX11_batch 34 = .ok (.ifCond .eq 21, 3) := by decide +kernel
theorem dX11_batch_37 : decode cX11_batch 37 = .ok (.iload_n 3, 1) := by decide +kernel
theorem dX11_batch_38 : decode cX11_batch 38 = .ok (.iload 5, 2) := by decide +kernel
theorem dX11_batch_40 : decode cX11_batch 40 = .ok (.if_icmp .gt 15, 3) := by decide +kernel
theorem dX11_batch_43 : decode cX11_batch 43 = .ok (.iconst 1, 1) := by decide +kernel
theorem dX11_batch_44 : decode cX11_batch 44 = .ok (.iload 4, 2) := by decide +kernel
theorem dX11_batch_46 : decode cX11_batch 46 = .ok (.sipush 999, 3) := by decide +kernel
theorem dX11_batch_49 : decode cX11_batch 49 = .ok (.invokestatic 110, 3) := by decide +kernel
theorem dX11_batch_52 : decode cX11_batch 52 = .ok (.ifCond .ne 5, 3) := by decide +kernel
theorem dX11_batch_55 : decode cX11_batch 55 = .ok (.iconst (-1), 1) := by decide +kernel
theorem dX11_batch_56 : decode cX11_batch 56 = .ok (.ireturn, 1) := by decide +kernel
theorem dX11_batch_57 : decode cX11_batch 57 = .ok (.aload_n 0, 1) := by decide +kernel
theorem dX11_batch_58 : decode cX11_batch 58 = .ok (.getfield 33, 3) := by decide +kernel
theorem dX11_batch_61 : decode cX11_batch 61 = .ok (.invokevirtual 155, 3) := by decide +kernel
theorem dX11_batch_64 : decode cX11_batch 64 = .ok (.ifCond .ne 6, 3) := by decide +kernel
theorem dX11_batch_67 : decode cX11_batch 67 = .ok (.bipush (-3), 2) := by decide +kernel
theorem dX11_batch_69 : decode cX11_batch 69 = .ok (.ireturn, 1) := by decide +kernel
theorem dX11_batch_70 : decode cX11_batch 70 = .ok (.aload_n 0, 1) := by decide +kernel
theorem dX11_batch_71 : decode cX11_batch 71 = .ok (.getfield 33, 3) := by decide +kernel
theorem dX11_batch_74 : decode cX11_batch 74 = .ok (.iload_n 1, 1) := by decide +kernel
theorem dX11_batch_75 : decode cX11_batch 75 = .ok (.iload_n 2, 1) := by decide +kernel
theorem dX11_batch_76 : decode cX11_batch 76 = .ok (.iload 5, 2) := by decide +kernel
theorem dX11_batch_78 : decode cX11_batch 78 = .ok (.iload_n 3, 1) := by decide +kernel
theorem dX11_batch_79 : decode cX11_batch 79 = .ok (.isub, 1) := by decide +kernel
theorem dX11_batch_80 : decode cX11_batch 80 = .ok (.iload 4, 2) := by decide +kernel
theorem dX11_batch_82 : decode cX11_batch 82 = .ok (.invokevirtual 158, 3) := by decide +kernel
theorem dX11_batch_85 : decode cX11_batch 85 = .ok (.istore 6, 2) := by decide +kernel
theorem dX11_batch_87 : decode cX11_batch 87 = .ok (.aload_n 0, 1) := by decide +kernel
theorem dX11_batch_88 : decode cX11_batch 88 = .ok (.getfield 33, 3) := by decide +kernel
theorem dX11_batch_91 : decode cX11_batch 91 = .ok (.getfield 159, 3) := by decide +kernel
theorem dX11_batch_94 : decode cX11_batch 94 = .ok (.iload 6, 2) := by decide +kernel
theorem dX11_batch_96 : decode cX11_batch 96 = .ok (.aaload, 1) := by decide +kernel
theorem dX11_batch_97 : decode cX11_batch 97 = .ok (.bipush 13, 2) := by decide +kernel
theorem dX11_batch_99 : decode cX11_batch 99 = .ok (.iload 5, 2) := by decide +kernel
theorem dX11_batch_101 : decode cX11_batch 101 = .ok (.iastore, 1) := by decide +kernel
theorem dX11_batch_102 : decode cX11_batch 102 = .ok (.aload_n 0, 1) := by decide +kernel
theorem dX11_batch_103 : decode cX11_batch 103 = .ok (.dup, 1) := by decide +kernel
theorem dX11_batch_104 : decode cX11_batch 104 = .ok (.getfield 95, 3) := by decide +kernel
theorem dX11_batch_107 : decode cX11_batch 107 = .ok (.iload 4, 2) := by decide +kernel
theorem dX11_batch_109 : decode cX11_batch 109 = .ok (.aload_n 0, 1) := by decide +kernel
theorem dX11_batch_110 : decode cX11_batch 110 = .ok (.getfield 26, 3) := by decide +kernel
theorem dX11_batch_113 : decode cX11_batch 113 = .ok (.getfield 162, 3) := by decide +kernel
theorem dX11_batch_116 : decode cX11_batch 116 = .ok (.iload_n 2, 1) := by decide +kernel
theorem dX11_batch_117 : decode cX11_batch 117 = .ok (.bipush 100, 2) := by decide +kernel
theorem dX11_batch_119 : decode cX11_batch 119 = .ok (.idiv, 1) := by decide +kernel
theorem dX11_batch_120 : decode cX11_batch 120 = .ok (.iaload, 1) := by decide +kernel
theorem dX11_batch_121 : decode cX11_batch 121 = .ok (.imul, 1) := by decide +kernel
theorem dX11_batch_122 : decode cX11_batch 122 = .ok (.iadd, 1) := by decide +kernel
theorem dX11_batch_123 : decode cX11_batch 123 = .ok (.putfield 95, 3) := by decide +kernel
theorem dX11_batch_126 : decode cX11_batch 126 = .ok (.iload 6, 2) := by decide +kernel
theorem dX11_batch_128 : decode cX11_batch 128 = .ok (.ireturn, 1) := by decide +kernel
theorem dX11_ofBatch_0 : decode cX11_ofBatch 0 = .ok (.aload_n 0, 1) := by decide +kernel
theorem dX11_ofBatch_1 : decode cX11_ofBatch 1 = .ok (.getfield 33, 3) := by decide +kernel
theorem dX11_ofBatch_4 : decode cX11_ofBatch 4 = .ok (.iload_n 1, 1) := by decide +kernel
theorem dX11_ofBatch_5 : decode cX11_ofBatch 5 = .ok (.invokevirtual 165, 3) := by decide +kernel
theorem dX11_ofBatch_8 : decode cX11_ofBatch 8 = .ok (.ifCond .eq 13, 3) := by decide +kernel
theorem dX11_ofBatch_11 : decode cX11_ofBatch 11 = .ok (.iconst 0, 1) := by decide +kernel
theorem dX11_ofBatch_12 : decode cX11_ofBatch 12 = .ok (.iload_n 2, 1) := by decide +kernel
theorem dX11_ofBatch_13 : decode cX11_ofBatch 13 = .ok (.bipush 12, 2) := by decide +kernel
theorem dX11_ofBatch_15 : decode cX11_ofBatch 15 = .ok (.invokestatic 110, 3) := by decide +kernel
theorem dX11_ofBatch_18 : decode cX11_ofBatch 18 = .ok (.ifCond .ne 6, 3) := by decide +kernel
theorem dX11_ofBatch_21 : decode cX11_ofBatch 21 = .ok (.ldc 166, 2) := by decide +kernel
theorem dX11_ofBatch_23 : decode cX11_ofBatch 23 = .ok (.ireturn, 1) := by decide +kernel
theorem dX11_ofBatch_24 : decode cX11_ofBatch 24 = .ok (.aload_n 0, 1) := by decide +kernel
theorem dX11_ofBatch_25 : decode cX11_ofBatch 25 = .ok (.getfield 33, 3) := by decide +kernel
theorem dX11_ofBatch_28 : decode cX11_ofBatch 28 = .ok (.getfield 159, 3) := by decide +kernel
theorem dX11_ofBatch_31 : decode cX11_ofBatch 31 = .ok (.iload_n 1, 1) := by decide +kernel
theorem dX11_ofBatch_32 : decode cX11_ofBatch 32 = .ok (.aaload, 1) := by decide +kernel
theorem dX11_ofBatch_33 : decode cX11_ofBatch 33 = .ok (.iload_n 2, 1) := by decide +kernel
theorem dX11_ofBatch_34 : decode cX11_ofBatch 34 = .ok (.iaload, 1) := by decide +kernel
theorem dX11_ofBatch_35 : decode cX11_ofBatch 35 = .ok (.ireturn, 1) := by decide +kernel
theorem dX11_shelf_0 : decode cX11_shelf 0 = .ok (.aload_n 0, 1) := by decide +kernel
theorem dX11_shelf_1 : decode cX11_shelf 1 = .ok (.iload_n 1, 1) := by decide +kernel
theorem dX11_shelf_2 : decode cX11_shelf 2 = .ok (.iload_n 2, 1) := by decide +kernel
theorem dX11_shelf_3 : decode cX11_shelf 3 = .ok (.invokevirtual 142, 3) := by decide +kernel
theorem dX11_shelf_6 : decode cX11_shelf 6 = .ok (.ifCond .eq 12, 3) := by decide +kernel
theorem dX11_shelf_9 : decode cX11_shelf 9 = .ok (.iconst 0, 1) := by decide +kernel
theorem dX11_shelf_10 : decode cX11_shelf 10 = .ok (.iload_n 3, 1) := by decide +kernel
theorem dX11_shelf_11 : decode cX11_shelf 11 = .ok (.iconst 2, 1) := by decide +kernel
theorem dX11_shelf_12 : decode cX11_shelf 12 = .ok (.invokestatic 110, 3) := by decide +kernel
theorem dX11_shelf_15 : decode cX11_shelf 15 = .ok (.ifCond .ne 5, 3) := by decide +kernel
theorem dX11_shelf_18 : decode cX11_shelf 18 = .ok (.iconst (-1), 1) := by decide +kernel
theorem dX11_shelf_19 : decode cX11_shelf 19 = .ok (.ireturn, 1) := by decide +kernel
theorem dX11_shelf_20 : decode cX11_shelf 20 = .ok (.iload_n 3, 1) := by decide +kernel
theorem dX11_shelf_21 : decode cX11_shelf 21 = .ok (.ifCond .ne 13, 3) := by decide +kernel
theorem dX11_shelf_24 : decode cX11_shelf 24 = .ok (.aload_n 0, 1) := by decide +kernel
theorem dX11_shelf_25 : decode cX11_shelf 25 = .ok (.getfield 33, 3) := by decide +kernel
theorem dX11_shelf_28 : decode cX11_shelf 28 = .ok (.iload_n 1, 1) := by decide +kernel
theorem dX11_shelf_29 : decode cX11_shelf 29 = .ok (.iload_n 2, 1) := by decide +kernel
theorem dX11_shelf_30 : decode cX11_shelf 30 = .ok (.invokevirtual 167, 3) := by decide +kernel
theorem dX11_shelf_33 : decode cX11_shelf 33 = .ok (.ireturn, 1) := by decide +kernel
theorem dX11_shelf_34 : decode cX11_shelf 34 = .ok (.aload_n 0, 1) := by decide +kernel
theorem dX11_shelf_35 : decode cX11_shelf 35 = .ok (.iload_n 1, 1) := by decide +kernel
theorem dX11_shelf_36 : decode cX11_shelf 36 = .ok (.iload_n 2, 1) := by decide +kernel
theorem dX11_shelf_37 : decode cX11_shelf 37 = .ok (.iload_n 3, 1) := by decide +kernel
theorem dX11_shelf_38 : decode cX11_shelf 38 = .ok (.iconst 1, 1) := by decide +kernel
theorem dX11_shelf_39 : decode cX11_shelf 39 = .ok (.if_icmp .ne 7, 3) := by decide +kernel
theorem dX11_shelf_42 : decode cX11_shelf 42 = .ok (.iconst 0, 1) := by decide +kernel
theorem dX11_shelf_43 : decode cX11_shelf 43 = .ok (.goto 4, 3) := by decide +kernel
theorem dX11_shelf_46 : decode cX11_shelf 46 = .ok (.iconst 1, 1) := by decide +kernel
theorem dX11_shelf_47 : decode cX11_shelf 47 = .ok (.invokevirtual 170, 3) := by decide +kernel
theorem dX11_shelf_50 : decode cX11_shelf 50 = .ok (.ireturn, 1) := by decide +kernel
theorem dX11_feed_0 : decode cX11_feed 0 = .ok (.aload_n 0, 1) := by decide +kernel
theorem dX11_feed_1 : decode cX11_feed 1 = .ok (.getfield 40, 3) := by decide +kernel
theorem dX11_feed_4 : decode cX11_feed 4 = .ok (.getfield 174, 3) := by decide +kernel
theorem dX11_feed_7 : decode cX11_feed 7 = .ok (.sipush 140, 3) := by decide +kernel
theorem dX11_feed_10 : decode cX11_feed 10 = .ok (.if_icmp .le 6, 3) := by decide +kernel
theorem dX11_feed_13 : decode cX11_feed 13 = .ok (.bipush (-3), 2) := by decide +kernel
theorem dX11_feed_15 : decode cX11_feed 15 = .ok (.ireturn, 1) := by decide +kernel
theorem dX11_feed_16 : decode cX11_feed 16 = .ok (.aload_n 0, 1) := by decide +kernel
theorem dX11_feed_17 : decode cX11_feed 17 = .ok (.getfield 40, 3) := by decide +kernel
theorem dX11_feed_20 : decode cX11_feed 20 = .ok (.iload_n 1, 1) := by decide +kernel
theorem dX11_feed_21 : decode cX11_feed 21 = .ok (.invokevirtual 177, 3) := by decide +kernel
theorem dX11_feed_24 : decode cX11_feed 24 = .ok (.aload_n 0, 1) := by decide +kernel
theorem dX11_feed_25 : decode cX11_feed 25 = .ok (.getfield 40, 3) := by decide +kernel
theorem dX11_feed_28 : decode cX11_feed 28 = .ok (.iload_n 2, 1) := by decide +kernel
theorem dX11_feed_29 : decode cX11_feed 29 = .ok (.invokevirtual 177, 3) := by decide +kernel
theorem dX11_feed_32 : decode cX11_feed 32 = .ok (.aload_n 0, 1) := by decide +kernel
theorem dX11_feed_33 : decode cX11_feed 33 = .ok (.getfield 40, 3) := by decide +kernel
theorem dX11_feed_36 : decode cX11_feed 36 = .ok (.iload_n 3, 1) := by decide +kernel
theorem dX11_feed_37 : decode cX11_feed 37 = .ok (.invokevirtual 177, 3) := by decide +kernel
theorem dX11_feed_40 : decode cX11_feed 40 = .ok (.aload_n 0, 1) := by decide +kernel
theorem dX11_feed_41 : decode cX11_feed 41 = .ok (.getfield 40, 3) := by decide +kernel
theorem dX11_feed_44 : decode cX11_feed 44 = .ok (.iload 4, 2) := by decide +kernel
theorem dX11_feed_46 : decode cX11_feed 46 = .ok (.invokevirtual 177, 3) := by decide +kernel
theorem dX11_feed_49 : decode cX11_feed 49 = .ok (.aload_n 0, 1) := by decide +kernel
theorem dX11_feed_50 : decode cX11_feed 50 = .ok (.getfield 40, 3) := by decide +kernel
theorem dX11_feed_53 : decode cX11_feed 53 = .ok (.iload 5, 2) := by decide +kernel
theorem dX11_feed_55 : decode cX11_feed 55 = .ok (.invokevirtual 177, 3) := by decide +kernel
theorem dX11_feed_58 : decode cX11_feed 58 = .ok (.aload_n 0, 1) := by decide +kernel
theorem dX11_feed_59 : decode cX11_feed 59 = .ok (.getfield 40, 3) := by decide +kernel
theorem dX11_feed_62 : decode cX11_feed 62 = .ok (.getfield 174, 3) := by decide +kernel
theorem dX11_feed_65 : decode cX11_feed 65 = .ok (.ireturn, 1) := by decide +kernel
theorem dX11_end_0 : decode cX11_end 0 = .ok (.iconst 0, 1) := by decide +kernel
theorem dX11_end_1 : decode cX11_end 1 = .ok (.iload_n 1, 1) := by decide +kernel
theorem dX11_end_2 : decode cX11_end 2 = .ok (.aload_n 0, 1) := by decide +kernel
theorem dX11_end_3 : decode cX11_end 3 = .ok (.getfield 40, 3) := by decide +kernel
theorem dX11_end_6 : decode cX11_end 6 = .ok (.getfield 174, 3) := by decide +kernel
theorem dX11_end_9 : decode cX11_end 9 = .ok (.invokestatic 110, 3) := by decide +kernel
theorem dX11_end_12 : decode cX11_end 12 = .ok (.ifCond .ne 5, 3) := by decide +kernel
theorem dX11_end_15 : decode cX11_end 15 = .ok (.iconst (-1), 1) := by decide +kernel
theorem dX11_end_16 : decode cX11_end 16 = .ok (.ireturn, 1) := by decide +kernel
theorem dX11_end_17 : decode cX11_end 17 = .ok (.aload_n 0, 1) := by decide +kernel
theorem dX11_end_18 : decode cX11_end 18 = .ok (.getfield 40, 3) := by decide +kernel
theorem dX11_end_21 : decode cX11_end 21 = .ok (.iload_n 1, 1) := by decide +kernel
theorem dX11_end_22 : decode cX11_end 22 = .ok (.putfield 174, 3) := by decide +kernel
theorem dX11_end_25 : decode cX11_end 25 = .ok (.iload_n 1, 1) := by decide +kernel
theorem dX11_end_26 : decode cX11_end 26 = .ok (.ireturn, 1) := by decide +kernel
theorem dX11_law_0 : decode cX11_law 0 = .ok (.iconst 0, 1) := by decide +kernel
theorem dX11_law_1 : decode cX11_law 1 = .ok (.iload_n 1, 1) := by decide +kernel
theorem dX11_law_2 : decode cX11_law 2 = .ok (.iconst 1, 1) := by decide +kernel
theorem dX11_law_3 : decode cX11_law 3 = .ok (.invokestatic 110, 3) := by decide +kernel
theorem dX11_law_6 : decode cX11_law 6 = .ok (.ifCond .eq 13, 3) := by decide +kernel
theorem dX11_law_9 : decode cX11_law 9 = .ok (.iload_n 2, 1) := by decide +kernel
theorem dX11_law_10 : decode cX11_law 10 = .ok (.sipush 1500, 3) := by decide +kernel
theorem dX11_law_13 : decode cX11_law 13 = .ok (.invokestatic 99, 3) := by decide +kernel
theorem dX11_law_16 : decode cX11_law 16 = .ok (.ifCond .ne 5, 3) := by decide +kernel
theorem dX11_law_19 : decode cX11_law 19 = .ok (.iconst (-1), 1) := by decide +kernel
theorem dX11_law_20 : decode cX11_law 20 = .ok (.ireturn, 1) := by decide +kernel
theorem dX11_law_21 : decode cX11_law 21 = .ok (.aload_n 0, 1) := by decide +kernel
theorem dX11_law_22 : decode cX11_law 22 = .ok (.getfield 47, 3) := by decide +kernel
theorem dX11_law_25 : decode cX11_law 25 = .ok (.getfield 180, 3) := by decide +kernel
theorem dX11_law_28 : decode cX11_law 28 = .ok (.bipush 16, 2) := by decide +kernel
theorem dX11_law_30 : decode cX11_law 30 = .ok (.if_icmp .lt 6, 3) := by decide +kernel
theorem dX11_law_33 : decode cX11_law 33 = .ok (.bipush (-3), 2) := by decide +kernel
theorem dX11_law_35 : decode cX11_law 35 = .ok (.ireturn, 1) := by decide +kernel
theorem dX11_law_36 : decode cX11_law 36 = .ok (.aload_n 0, 1) := by decide +kernel
theorem dX11_law_37 : decode cX11_law 37 = .ok (.getfield 40, 3) := by decide +kernel
theorem dX11_law_40 : decode cX11_law 40 = .ok (.aload_n 0, 1) := by decide +kernel
theorem dX11_law_41 : decode cX11_law 41 = .ok (.getfield 47, 3) := by decide +kernel
theorem dX11_law_44 : decode cX11_law 44 = .ok (.getfield 183, 3) := by decide +kernel
theorem dX11_law_47 : decode cX11_law 47 = .ok (.aload_n 0, 1) := by decide +kernel
theorem dX11_law_48 : decode cX11_law 48 = .ok (.getfield 47, 3) := by decide +kernel
theorem dX11_law_51 : decode cX11_law 51 = .ok (.getfield 180, 3) := by decide +kernel
theorem dX11_law_54 : decode cX11_law 54 = .ok (.aaload, 1) := by decide +kernel
theorem dX11_law_55 : decode cX11_law 55 = .ok (.invokevirtual 186, 3) := by decide +kernel
theorem dX11_law_58 : decode cX11_law 58 = .ok (.istore_n 3, 1) := by decide +kernel
theorem dX11_law_59 : decode cX11_law 59 = .ok (.aload_n 0, 1) := by decide +kernel
theorem dX11_law_60 : decode cX11_law 60 = .ok (.getfield 40, 3) := by decide +kernel
theorem dX11_law_63 : decode cX11_law 63 = .ok (.iconst 0, 1) := by decide +kernel
theorem dX11_law_64 : decode cX11_law 64 = .ok (.putfield 174, 3) := by decide +kernel
theorem dX11_law_67 : decode cX11_law 67 = .ok (.iload_n 3, 1) := by decide +kernel
theorem dX11_law_68 : decode cX11_law 68 = .ok (.iconst (-1), 1) := by decide +kernel
theorem dX11_law_69 : decode cX11_law 69 = .ok (.if_icmp .eq 8, 3) := by decide +kernel
theorem dX11_law_72 : decode cX11_law 72 = .ok (.bipush (-100), 2) := by decide +kernel
theorem dX11_law_74 : decode cX11_law 74 = .ok (.iload_n 3, 1) := by decide +kernel
theorem dX11_law_75 : decode cX11_law 75 = .ok (.isub, 1) := by decide +kernel
theorem dX11_law_76 : decode cX11_law 76 = .ok (.ireturn, 1) := by decide +kernel
theorem dX11_law_77 : decode cX11_law 77 = .ok (.aload_n 0, 1) := by decide +kernel
theorem dX11_law_78 : decode cX11_law 78 = .ok (.getfield 47, 3) := by decide +kernel
theorem dX11_law_81 : decode cX11_law 81 = .ok (.aload_n 0, 1) := by decide +kernel
theorem dX11_law_82 : decode cX11_law 82 = .ok (.getfield 40, 3) := by decide +kernel
theorem dX11_law_85 : decode cX11_law 85 = .ok (.getfield 190, 3) := by decide +kernel
theorem dX11_law_88 : decode cX11_law 88 = .ok (.iload_n 1, 1) := by decide +kernel
theorem dX11_law_89 : decode cX11_law 89 = .ok (.iload_n 2, 1) := by decide +kernel
theorem dX11_law_90 : decode cX11_law 90 = .ok (.aload_n 0, 1) := by decide +kernel
theorem dX11_law_91 : decode cX11_law 91 = .ok (.getfield 10, 3) := by decide +kernel
theorem dX11_law_94 : decode cX11_law 94 = .ok (.invokevirtual 152, 3) := by decide +kernel
theorem dX11_law_97 : decode cX11_law 97 = .ok (.invokevirtual 193, 3) := by decide +kernel
theorem dX11_law_100 : decode cX11_law 100 = .ok (.ireturn, 1) := by decide +kernel
theorem dX11_inForce_0 : decode cX11_inForce 0 = .ok (.iconst 0, 1) := by decide +kernel
theorem dX11_inForce_1 : decode cX11_inForce 1 = .ok (.iload_n 1, 1) := by decide +kernel
theorem dX11_inForce_2 : decode cX11_inForce 2 = .ok (.iconst 1, 1) := by decide +kernel
theorem dX11_inForce_3 : decode cX11_inForce 3 = .ok (.invokestatic 110, 3) := by decide +kernel
theorem dX11_inForce_6 : decode cX11_inForce 6 = .ok (.ifCond .eq 23, 3) := by decide +kernel
theorem dX11_inForce_9 : decode cX11_inForce 9 = .ok (.iload_n 2, 1) := by decide +kernel
theorem dX11_inForce_10 : decode cX11_inForce 10 = .ok (.sipush 1500, 3) := by decide +kernel
theorem dX11_inForce_13 : decode cX11_inForce 13 = .ok (.invokestatic 99, 3) := by decide +kernel
theorem dX11_inForce_16 : decode cX11_inForce 16 = .ok (.ifCond .eq 13, 3) := by decide +kernel
theorem dX11_inForce_19 : decode cX11_inForce 19 = .ok (.iload_n 3, 1) := by decide +kernel
theorem dX11_inForce_20 : decode cX11_inForce 20 = .ok (.sipush 1500, 3) := by decide +kernel
theorem dX11_inForce_23 : decode cX11_inForce 23 = .ok (.invokestatic 99, 3) := by decide +kernel
theorem dX11_inForce_26 : decode cX11_inForce 26 = .ok (.ifCond .ne 5, 3) := by decide +kernel
theorem dX11_inForce_29 : decode cX11_inForce 29 = .ok (.iconst (-1), 1) := by decide +kernel
theorem dX11_inForce_30 : decode cX11_inForce 30 = .ok (.ireturn, 1) := by decide +kernel
theorem dX11_inForce_31 : decode cX11_inForce 31 = .ok (.aload_n 0, 1) := by decide +kernel
theorem dX11_inForce_32 : decode cX11_inForce 32 = .ok (.getfield 47, 3) := by decide +kernel
theorem dX11_inForce_35 : decode cX11_inForce 35 = .ok (.iload_n 1, 1) := by decide +kernel
theorem dX11_inForce_36 : decode cX11_inForce 36 = .ok (.iload_n 2, 1) := by decide +kernel
theorem dX11_inForce_37 : decode cX11_inForce 37 = .ok (.iload_n 3, 1) := by decide +kernel
theorem dX11_inForce_38 : decode cX11_inForce 38 = .ok (.invokevirtual 194, 3) := by decide +kernel
theorem dX11_inForce_41 : decode cX11_inForce 41 = .ok (.ireturn, 1) := by decide +kernel
theorem dX11_says_0 : decode cX11_says 0 = .ok (.iload_n 1, 1) := by decide +kernel
theorem dX11_says_1 : decode cX11_says 1 = .ok (.aload_n 0, 1) := by decide +kernel
theorem dX11_says_2 : decode cX11_says 2 = .ok (.getfield 47, 3) := by decide +kernel
theorem dX11_says_5 : decode cX11_says 5 = .ok (.getfield 180, 3) := by decide +kernel
theorem dX11_says_8 : decode cX11_says 8 = .ok (.invokestatic 99, 3) := by decide +kernel
theorem dX11_says_11 : decode cX11_says 11 = .ok (.ifCond .eq 14, 3) := by decide +kernel
theorem dX11_says_14 : decode cX11_says 14 = .ok (.aload_n 0, 1) := by decide +kernel
theorem dX11_says_15 : decode cX11_says 15 = .ok (.getfield 33, 3) := by decide +kernel
theorem dX11_says_18 : decode cX11_says 18 = .ok (.iload_n 2, 1) := by decide +kernel
theorem dX11_says_19 : decode cX11_says 19 = .ok (.invokevirtual 165, 3) := by decide +kernel
theorem dX11_says_22 : decode cX11_says 22 = .ok (.ifCond .ne 6, 3) := by decide +kernel
theorem dX11_says_25 : decode cX11_says 25 = .ok (.ldc 166, 2) := by decide +kernel
theorem dX11_says_27 : decode cX11_says 27 = .ok (.ireturn, 1) := by decide +kernel
theorem dX11_says_28 : decode cX11_says 28 = .ok (.aload_n 0, 1) := by decide +kernel
theorem dX11_says_29 : decode cX11_says 29 = .ok (.iload_n 1, 1) := by decide +kernel
theorem dX11_says_30 : decode cX11_says 30 = .ok (.iload_n 2, 1) := by decide +kernel
theorem dX11_says_31 : decode cX11_says 31 = .ok (.invokevirtual 197, 3) := by decide +kernel
theorem dX11_says_34 : decode cX11_says 34 = .ok (.ireturn, 1) := by decide +kernel
theorem dX11_buy_0 : decode cX11_buy 0 = .ok (.aload_n 0, 1) := by decide +kernel
theorem dX11_buy_1 : decode cX11_buy 1 = .ok (.iload_n 1, 1) := by decide +kernel
theorem dX11_buy_2 : decode cX11_buy 2 = .ok (.iload_n 2, 1) := by decide +kernel
theorem dX11_buy_3 : decode cX11_buy 3 = .ok (.invokevirtual 142, 3) := by decide +kernel
theorem dX11_buy_6 : decode cX11_buy 6 = .ok (.ifCond .eq 14, 3) := by decide +kernel
theorem dX11_buy_9 : decode cX11_buy 9 = .ok (.iconst 0, 1) := by decide +kernel
theorem dX11_buy_10 : decode cX11_buy 10 = .ok (.iload_n 3, 1) := by decide +kernel
theorem dX11_buy_11 : decode cX11_buy 11 = .ok (.sipush 999, 3) := by decide +kernel
theorem dX11_buy_14 : decode cX11_buy 14 = .ok (.invokestatic 110, 3) := by decide +kernel
theorem dX11_buy_17 : decode cX11_buy 17 = .ok (.ifCond .ne 5, 3) := by decide +kernel
theorem dX11_buy_20 : decode cX11_buy 20 = .ok (.iconst (-1), 1) := by decide +kernel
theorem dX11_buy_21 : decode cX11_buy 21 = .ok (.ireturn, 1) := by decide +kernel
theorem dX11_buy_22 : decode cX11_buy 22 = .ok (.aload_n 0, 1) := by decide +kernel
theorem dX11_buy_23 : decode cX11_buy 23 = .ok (.iload_n 1, 1) := by decide +kernel
theorem dX11_buy_24 : decode cX11_buy 24 = .ok (.iload_n 2, 1) := by decide +kernel
theorem dX11_buy_25 : decode cX11_buy 25 = .ok (.invokevirtual 200, 3) := by decide +kernel
theorem dX11_buy_28 : decode cX11_buy 28 = .ok (.ifCond .ne 6, 3) := by decide +kernel
theorem dX11_buy_31 : decode cX11_buy 31 = .ok (.bipush (-2), 2) := by decide +kernel
theorem dX11_buy_33 : decode cX11_buy 33 = .ok (.ireturn, 1) := by decide +kernel
theorem dX11_buy_34 : decode cX11_buy 34 = .ok (.aload_n 0, 1) := by decide +kernel
theorem dX11_buy_35 : decode cX11_buy 35 = .ok (.getfield 61, 3) := by decide +kernel
theorem dX11_buy_38 : decode cX11_buy 38 = .ok (.getfield 203, 3) := by decide +kernel
theorem dX11_buy_41 : decode cX11_buy 41 = .ok (.sipush 600, 3) := by decide +kernel
theorem dX11_buy_44 : decode cX11_buy 44 = .ok (.if_icmp .lt 6, 3) := by decide +kernel
theorem dX11_buy_47 : decode cX11_buy 47 = .ok (.bipush (-3), 2) := by decide +kernel
theorem dX11_buy_49 : decode cX11_buy 49 = .ok (.ireturn, 1) := by decide +kernel
theorem dX11_buy_50 : decode cX11_buy 50 = .ok (.aload_n 0, 1) := by decide +kernel
theorem dX11_buy_51 : decode cX11_buy 51 = .ok (.iload_n 1, 1) := by decide +kernel
theorem dX11_buy_52 : decode cX11_buy 52 = .ok (.iload_n 2, 1) := by decide +kernel
theorem dX11_buy_53 : decode cX11_buy 53 = .ok (.iconst 0, 1) := by decide +kernel
theorem dX11_buy_54 : decode cX11_buy 54 = .ok (.invokevirtual 170, 3) := by decide +kernel
theorem dX11_buy_57 : decode cX11_buy 57 = .ok (.pop, 1) := by decide +kernel
theorem dX11_buy_58 : decode cX11_buy 58 = .ok (.aload_n 0, 1) := by decide +kernel
theorem dX11_buy_59 : decode cX11_buy 59 = .ok (.getfield 33, 3) := by decide +kernel
theorem dX11_buy_62 : decode cX11_buy 62 = .ok (.iload_n 3, 1) := by decide +kernel
theorem dX11_buy_63 : decode cX11_buy 63 = .ok (.bipush 6, 2) := by decide +kernel
theorem dX11_buy_65 : decode cX11_buy 65 = .ok (.invokevirtual 204, 3) := by decide +kernel
theorem dX11_buy_68 : decode cX11_buy 68 = .ok (.istore 4, 2) := by decide +kernel
theorem dX11_buy_70 : decode cX11_buy 70 = .ok (.aload_n 0, 1) := by decide +kernel
theorem dX11_buy_71 : decode cX11_buy 71 = .ok (.getfield 19, 3) := by decide +kernel
theorem dX11_buy_74 : decode cX11_buy 74 = .ok (.getfield 145, 3) := by decide +kernel
theorem dX11_buy_77 : decode cX11_buy 77 = .ok (.iload_n 1, 1) := by decide +kernel
theorem dX11_buy_78 : decode cX11_buy 78 = .ok (.aaload, 1) := by decide +kernel
theorem dX11_buy_79 : decode cX11_buy 79 = .ok (.iload_n 2, 1) := by decide +kernel
theorem dX11_buy_80 : decode cX11_buy 80 = .ok (.iaload, 1) := by decide +kernel
theorem dX11_buy_81 : decode cX11_buy 81 = .ok (.istore 5, 2) := by decide +kernel
theorem dX11_buy_83 : decode cX11_buy 83 = .ok (.aload_n 0, 1) := by decide +kernel
theorem dX11_buy_84 : decode cX11_buy 84 = .ok (.getfield 19, 3) := by decide +kernel
theorem dX11_buy_87 : decode cX11_buy 87 = .ok (.getfield 207, 3) := by decide +kernel
theorem dX11_buy_90 : decode cX11_buy 90 = .ok (.iload_n 1, 1) := by decide +kernel
theorem dX11_buy_91 : decode cX11_buy 91 = .ok (.dup2, 1) := by decide +kernel
theorem dX11_buy_92 : decode cX11_buy 92 = .ok (.iaload, 1) := by decide +kernel
theorem dX11_buy_93 : decode cX11_buy 93 = .ok (.iload 4, 2) := by decide +kernel
theorem dX11_buy_95 : decode cX11_buy 95 = .ok (.aload_n 0, 1) := by decide +kernel
theorem dX11_buy_96 : decode cX11_buy 96 = .ok (.getfield 26, 3) := by decide +kernel
theorem dX11_buy_99 : decode cX11_buy 99 = .ok (.iload_n 2, 1) := by decide +kernel
theorem dX11_buy_100 : decode cX11_buy 100 = .ok (.iload 5, 2) := by decide +kernel
theorem dX11_buy_102 : decode cX11_buy 102 = .ok (.invokevirtual 121, 3) := by decide +kernel
theorem dX11_buy_105 : decode cX11_buy 105 = .ok (.imul, 1) := by decide +kernel
theorem dX11_buy_106 : decode cX11_buy 106 = .ok (.iadd, 1) := by decide +kernel
theorem dX11_buy_107 : decode cX11_buy 107 = .ok (.iastore, 1) := by decide +kernel
theorem dX11_buy_108 : decode cX11_buy 108 = .ok (.aload_n 0, 1) := by decide +kernel
theorem dX11_buy_109 : decode cX11_buy 109 = .ok (.getfield 61, 3) := by decide +kernel
theorem dX11_buy_112 : decode cX11_buy 112 = .ok (.iload_n 1, 1) := by decide +kernel
theorem dX11_buy_113 : decode cX11_buy 113 = .ok (.iload_n 2, 1) := by decide +kernel
theorem dX11_buy_114 : decode cX11_buy 114 = .ok (.aload_n 0, 1) := by decide +kernel
theorem dX11_buy_115 : decode cX11_buy 115 = .ok (.getfield 10, 3) := by decide +kernel
theorem dX11_buy_118 : decode cX11_buy 118 = .ok (.getfield 132, 3) := by decide +kernel
theorem dX11_buy_121 : decode cX11_buy 121 = .ok (.invokevirtual 210, 3) := by decide +kernel
theorem dX11_buy_124 : decode cX11_buy 124 = .ok (.istore 6, 2) := by decide +kernel
theorem dX11_buy_126 : decode cX11_buy 126 = .ok (.aload_n 0, 1) := by decide +kernel
theorem dX11_buy_127 : decode cX11_buy 127 = .ok (.getfield 61, 3) := by decide +kernel
theorem dX11_buy_130 : decode cX11_buy 130 = .ok (.getfield 212, 3) := by decide +kernel
theorem dX11_buy_133 : decode cX11_buy 133 = .ok (.iload 6, 2) := by decide +kernel
theorem dX11_buy_135 : decode cX11_buy 135 = .ok (.iload 5, 2) := by decide +kernel
theorem dX11_buy_137 : decode cX11_buy 137 = .ok (.iastore, 1) := by decide +kernel
theorem dX11_buy_138 : decode cX11_buy 138 = .ok (.aload_n 0, 1) := by decide +kernel
theorem dX11_buy_139 : decode cX11_buy 139 = .ok (.getfield 61, 3) := by decide +kernel
theorem dX11_buy_142 : decode cX11_buy 142 = .ok (.getfield 214, 3) := by decide +kernel
theorem dX11_buy_145 : decode cX11_buy 145 = .ok (.iload 6, 2) := by decide +kernel
theorem dX11_buy_147 : decode cX11_buy 147 = .ok (.aload_n 0, 1) := by decide +kernel
theorem dX11_buy_148 : decode cX11_buy 148 = .ok (.getfield 10, 3) := by decide +kernel
theorem dX11_buy_151 : decode cX11_buy 151 = .ok (.invokevirtual 215, 3) := by decide +kernel
theorem dX11_buy_154 : decode cX11_buy 154 = .ok (.iastore, 1) := by decide +kernel
theorem dX11_buy_155 : decode cX11_buy 155 = .ok (.aload_n 0, 1) := by decide +kernel
theorem dX11_buy_156 : decode cX11_buy 156 = .ok (.getfield 61, 3) := by decide +kernel
theorem dX11_buy_159 : decode cX11_buy 159 = .ok (.getfield 218, 3) := by decide +kernel
theorem dX11_buy_162 : decode cX11_buy 162 = .ok (.iload 6, 2) := by decide +kernel
theorem dX11_buy_164 : decode cX11_buy 164 = .ok (.iload_n 3, 1) := by decide +kernel
theorem dX11_buy_165 : decode cX11_buy 165 = .ok (.iastore, 1) := by decide +kernel
theorem dX11_buy_166 : decode cX11_buy 166 = .ok (.aload_n 0, 1) := by decide +kernel
theorem dX11_buy_167 : decode cX11_buy 167 = .ok (.getfield 61, 3) := by decide +kernel
theorem dX11_buy_170 : decode cX11_buy 170 = .ok (.getfield 221, 3) := by decide +kernel
theorem dX11_buy_173 : decode cX11_buy 173 = .ok (.iload 6, 2) := by decide +kernel
theorem dX11_buy_175 : decode cX11_buy 175 = .ok (.iload 4, 2) := by decide +kernel
theorem dX11_buy_177 : decode cX11_buy 177 = .ok (.iastore, 1) := by decide +kernel
theorem dX11_buy_178 : decode cX11_buy 178 = .ok (.iload 4, 2) := by decide +kernel
theorem dX11_buy_180 : decode cX11_buy 180 = .ok (.ireturn, 1) := by decide +kernel
theorem dX11_foretold_0 : decode cX11_foretold 0 = .ok (.aload_n 0, 1) := by decide +kernel
theorem dX11_foretold_1 : decode cX11_foretold 1 = .ok (.iload_n 1, 1) := by decide +kernel
theorem dX11_foretold_2 : decode cX11_foretold 2 = .ok (.iload_n 2, 1) := by decide +kernel
theorem dX11_foretold_3 : decode cX11_foretold 3 = .ok (.invokevirtual 142, 3) := by decide +kernel
theorem dX11_foretold_6 : decode cX11_foretold 6 = .ok (.ifCond .eq 18, 3) := by decide +kernel
theorem dX11_foretold_9 : decode cX11_foretold 9 = .ok (.iload_n 3, 1) := by decide +kernel
theorem dX11_foretold_10 : decode cX11_foretold 10 = .ok (.ifCond .lt 14, 3) := by decide +kernel
theorem dX11_foretold_13 : decode cX11_foretold 13 = .ok (.iload 4, 2) := by decide +kernel
theorem dX11_foretold_15 : decode cX11_foretold 15 = .ok (.sipush 1500, 3) := by decide +kernel
theorem dX11_foretold_18 : decode cX11_foretold 18 = .ok (.invokestatic 99, 3) := by decide +kernel
theorem dX11_foretold_21 : decode cX11_foretold 21 = .ok (.ifCond .ne 5, 3) := by decide +kernel
theorem dX11_foretold_24 : decode cX11_foretold 24 = .ok (.iconst (-1), 1) := by decide +kernel
theorem dX11_foretold_25 : decode cX11_foretold 25 = .ok (.ireturn, 1) := by decide +kernel
theorem dX11_foretold_26 : decode cX11_foretold 26 = .ok (.iload_n 3, 1) := by decide +kernel
theorem dX11_foretold_27 : decode cX11_foretold 27 = .ok (.bipush 100, 2) := by decide +kernel
theorem dX11_foretold_29 : decode cX11_foretold 29 = .ok (.idiv, 1) := by decide +kernel
theorem dX11_foretold_30 : decode cX11_foretold 30 = .ok (.istore 5, 2) := by decide +kernel
theorem dX11_foretold_32 : decode cX11_foretold 32 = .ok (.iload_n 3, 1) := by decide +kernel
theorem dX11_foretold_33 : decode cX11_foretold 33 = .ok (.bipush 10, 2) := by decide +kernel
theorem dX11_foretold_35 : decode cX11_foretold 35 = .ok (.idiv, 1) := by decide +kernel
theorem dX11_foretold_36 : decode cX11_foretold 36 = .ok (.bipush 10, 2) := by decide +kernel
theorem dX11_foretold_38 : decode cX11_foretold 38 = .ok (.irem, 1) := by decide +kernel
theorem dX11_foretold_39 : decode cX11_foretold 39 = .ok (.istore 6, 2) := by decide +kernel
theorem dX11_foretold_41 : decode cX11_foretold 41 = .ok (.iload_n 3, 1) := by decide +kernel
theorem dX11_foretold_42 : decode cX11_foretold 42 = .ok (.bipush 10, 2) := by decide +kernel
theorem dX11_foretold_44 : decode cX11_foretold 44 = .ok (.irem, 1) := by decide +kernel
theorem dX11_foretold_45 : decode cX11_foretold 45 = .ok (.istore 7, 2) := by decide +kernel
theorem dX11_foretold_47 : decode cX11_foretold 47 = .ok (.bipush 6, 2) := by decide +kernel
theorem dX11_foretold_49 : decode cX11_foretold 49 = .ok (.iload 5, 2) := by decide +kernel
theorem dX11_foretold_51 : decode cX11_foretold 51 = .ok (.bipush 19, 2) := by decide +kernel
theorem dX11_foretold_53 : decode cX11_foretold 53 = .ok (.invokestatic 110, 3) := by decide +kernel
theorem dX11_foretold_56 : decode cX11_foretold 56 = .ok (.ifCond .eq 21, 3) := by decide +kernel
theorem dX11_foretold_59 : decode cX11_foretold 59 = .ok (.iload 6, 2) := by decide +kernel
theorem dX11_foretold_61 : decode cX11_foretold 61 = .ok (.iconst 4, 1) := by decide +kernel
theorem dX11_foretold_62 : decode cX11_foretold 62 = .ok (.invokestatic 99, 3) := by decide +kernel
theorem dX11_foretold_65 : decode cX11_foretold 65 = .ok (.ifCond .eq 12, 3) := by decide +kernel
theorem dX11_foretold_68 : decode cX11_foretold 68 = .ok (.iload 7, 2) := by decide +kernel
theorem dX11_foretold_70 : decode cX11_foretold 70 = .ok (.iconst 3, 1) := by decide +kernel
theorem dX11_foretold_71 : decode cX11_foretold 71 = .ok (.invokestatic 99, 3) := by decide +kernel
theorem dX11_foretold_74 : decode cX11_foretold 74 = .ok (.ifCond .ne 5, 3) := by decide +kernel
theorem dX11_foretold_77 : decode cX11_foretold 77 = .ok (.iconst (-1), 1) := by decide +kernel
theorem dX11_foretold_78 : decode cX11_foretold 78 = .ok (.ireturn, 1) := by decide +kernel
theorem dX11_foretold_79 : decode cX11_foretold 79 = .ok (.aload_n 0, 1) := by decide +kernel
theorem dX11_foretold_80 : decode cX11_foretold 80 = .ok (.getfield 61, 3) := by decide +kernel
theorem dX11_foretold_83 : decode cX11_foretold 83 = .ok (.iload_n 1, 1) := by decide +kernel
theorem dX11_foretold_84 : decode cX11_foretold 84 = .ok (.iload_n 2, 1) := by decide +kernel
theorem dX11_foretold_85 : decode cX11_foretold 85 = .ok (.iload 5, 2) := by decide +kernel
theorem dX11_foretold_87 : decode cX11_foretold 87 = .ok (.iload 6, 2) := by decide +kernel
theorem dX11_foretold_89 : decode cX11_foretold 89 = .ok (.iload 7, 2) := by decide +kernel
theorem dX11_foretold_91 : decode cX11_foretold 91 = .ok (.iload 4, 2) := by decide +kernel
theorem dX11_foretold_93 : decode cX11_foretold 93 = .ok (.invokevirtual 224, 3) := by decide +kernel
theorem dX11_foretold_96 : decode cX11_foretold 96 = .ok (.ireturn, 1) := by decide +kernel
theorem dX11_plan_0 : decode cX11_plan 0 = .ok (.aload_n 0, 1) := by decide +kernel
theorem dX11_plan_1 : decode cX11_plan 1 = .ok (.iload_n 1, 1) := by decide +kernel
theorem dX11_plan_2 : decode cX11_plan 2 = .ok (.iload_n 2, 1) := by decide +kernel
theorem dX11_plan_3 : decode cX11_plan 3 = .ok (.invokevirtual 142, 3) := by decide +kernel
theorem dX11_plan_6 : decode cX11_plan 6 = .ok (.ifCond .eq 12, 3) := by decide +kernel
theorem dX11_plan_9 : decode cX11_plan 9 = .ok (.aload_n 0, 1) := by decide +kernel
theorem dX11_plan_10 : decode cX11_plan 10 = .ok (.iload_n 1, 1) := by decide +kernel
theorem dX11_plan_11 : decode cX11_plan 11 = .ok (.iload_n 2, 1) := by decide +kernel
theorem dX11_plan_12 : decode cX11_plan 12 = .ok (.invokevirtual 200, 3) := by decide +kernel
theorem dX11_plan_15 : decode cX11_plan 15 = .ok (.ifCond .ne 6, 3) := by decide +kernel
theorem dX11_plan_18 : decode cX11_plan 18 = .ok (.ldc 166, 2) := by decide +kernel
theorem dX11_plan_20 : decode cX11_plan 20 = .ok (.ireturn, 1) := by decide +kernel
theorem dX11_plan_21 : decode cX11_plan 21 = .ok (.aload_n 0, 1) := by decide +kernel
theorem dX11_plan_22 : decode cX11_plan 22 = .ok (.getfield 10, 3) := by decide +kernel
theorem dX11_plan_25 : decode cX11_plan 25 = .ok (.invokevirtual 215, 3) := by decide +kernel
theorem dX11_plan_28 : decode cX11_plan 28 = .ok (.istore_n 3, 1) := by decide +kernel
theorem dX11_plan_29 : decode cX11_plan 29 = .ok (.iconst 0, 1) := by decide +kernel
theorem dX11_plan_30 : decode cX11_plan 30 = .ok (.istore 4, 2) := by decide +kernel
theorem dX11_plan_32 : decode cX11_plan 32 = .ok (.iload 4, 2) := by decide +kernel
theorem dX11_plan_34 : decode cX11_plan 34 = .ok (.iconst 4, 1) := by decide +kernel
theorem dX11_plan_35 : decode cX11_plan 35 = .ok (.if_icmp .ge 82, 3) := by decide +kernel
theorem dX11_plan_38 : decode cX11_plan 38 = .ok (.aload_n 0, 1) := by decide +kernel
theorem dX11_plan_39 : decode cX11_plan 39 = .ok (.getfield 68, 3) := by decide +kernel
theorem dX11_plan_42 : decode cX11_plan 42 = .ok (.getfield 228, 3) := by decide +kernel
theorem dX11_plan_45 : decode cX11_plan 45 = .ok (.iload 4, 2) := by decide +kernel
theorem dX11_plan_47 : decode cX11_plan 47 = .ok (.aload_n 0, 1) := by decide +kernel
theorem dX11_plan_48 : decode cX11_plan 48 = .ok (.getfield 26, 3) := by decide +kernel
theorem dX11_plan_51 : decode cX11_plan 51 = .ok (.iload_n 2, 1) := by decide +kernel
theorem dX11_plan_52 : decode cX11_plan 52 = .ok (.iload 4, 2) := by decide +kernel
theorem dX11_plan_54 : decode cX11_plan 54 = .ok (.invokevirtual 121, 3) := by decide +kernel
theorem dX11_plan_57 : decode cX11_plan 57 = .ok (.iastore, 1) := by decide +kernel
theorem dX11_plan_58 : decode cX11_plan 58 = .ok (.iconst 0, 1) := by decide +kernel
theorem dX11_plan_59 : decode cX11_plan 59 = .ok (.istore 5, 2) := by decide +kernel
theorem dX11_plan_61 : decode cX11_plan 61 = .ok (.iload 5, 2) := by decide +kernel
theorem dX11_plan_63 : decode cX11_plan 63 = .ok (.bipush 14, 2) := by decide +kernel
theorem dX11_plan_65 : decode cX11_plan 65 = .ok (.if_icmp .ge 46, 3) := by decide +kernel
theorem dX11_plan_68 : decode cX11_plan 68 = .ok (.aload_n 0, 1) := by decide +kernel
theorem dX11_plan_69 : decode cX11_plan 69 = .ok (.getfield 68, 3) := by decide +kernel
theorem dX11_plan_72 : decode cX11_plan 72 = .ok (.getfield 231, 3) := by decide +kernel
theorem dX11_plan_75 : decode cX11_plan 75 = .ok (.iload 5, 2) := by decide +kernel
theorem dX11_plan_77 : decode cX11_plan 77 = .ok (.aaload, 1) := by decide +kernel
theorem dX11_plan_78 : decode cX11_plan 78 = .ok (.iload 4, 2) := by decide +kernel
theorem dX11_plan_80 : decode cX11_plan 80 = .ok (.aload_n 0, 1) := by decide +kernel
theorem dX11_plan_81 : decode cX11_plan 81 = .ok (.getfield 61, 3) := by decide +kernel
theorem dX11_plan_84 : decode cX11_plan 84 = .ok (.iload_n 1, 1) := by decide +kernel
theorem dX11_plan_85 : decode cX11_plan 85 = .ok (.iload_n 2, 1) := by decide +kernel
theorem dX11_plan_86 : decode cX11_plan 86 = .ok (.bipush 6, 2) := by decide +kernel
theorem dX11_plan_88 : decode cX11_plan 88 = .ok (.iload 5, 2) := by decide +kernel
theorem dX11_plan_90 : decode cX11_plan 90 = .ok (.iadd, 1) := by decide +kernel
theorem dX11_plan_91 : decode cX11_plan 91 = .ok (.iload 4, 2) := by decide +kernel
theorem dX11_plan_93 : decode cX11_plan 93 = .ok (.iload_n 3, 1) := by decide +kernel
theorem dX11_plan_94 : decode cX11_plan 94 = .ok (.aload_n 0, 1) := by decide +kernel
theorem dX11_plan_95 : decode cX11_plan 95 = .ok (.getfield 10, 3) := by decide +kernel
theorem dX11_plan_98 : decode cX11_plan 98 = .ok (.invokevirtual 152, 3) := by decide +kernel
theorem dX11_plan_101 : decode cX11_plan 101 = .ok (.invokevirtual 224, 3) := by decide +kernel
theorem dX11_plan_104 : decode cX11_plan 104 = .ok (.iastore, 1) := by decide +kernel
theorem dX11_plan_105 : decode cX11_plan 105 = .ok (.iinc 5 1, 3) := by decide +kernel
theorem dX11_plan_108 : decode cX11_plan 108 = .ok (.goto (-47), 3) := by decide +kernel
theorem dX11_plan_111 : decode cX11_plan 111 = .ok (.iinc 4 1, 3) := by decide +kernel
theorem dX11_plan_114 : decode cX11_plan 114 = .ok (.goto (-82), 3) := by decide +kernel
theorem dX11_plan_117 : decode cX11_plan 117 = .ok (.aload_n 0, 1) := by decide +kernel
theorem dX11_plan_118 : decode cX11_plan 118 = .ok (.iload_n 1, 1) := by decide +kernel
theorem dX11_plan_119 : decode cX11_plan 119 = .ok (.iload_n 2, 1) := by decide +kernel
theorem dX11_plan_120 : decode cX11_plan 120 = .ok (.iconst 0, 1) := by decide +kernel
theorem dX11_plan_121 : decode cX11_plan 121 = .ok (.invokevirtual 170, 3) := by decide +kernel
theorem dX11_plan_124 : decode cX11_plan 124 = .ok (.istore 4, 2) := by decide +kernel
theorem dX11_plan_126 : decode cX11_plan 126 = .ok (.aload_n 0, 1) := by decide +kernel
theorem dX11_plan_127 : decode cX11_plan 127 = .ok (.getfield 68, 3) := by decide +kernel
theorem dX11_plan_130 : decode cX11_plan 130 = .ok (.aload_n 0, 1) := by decide +kernel
theorem dX11_plan_131 : decode cX11_plan 131 = .ok (.getfield 10, 3) := by decide +kernel
theorem dX11_plan_134 : decode cX11_plan 134 = .ok (.invokevirtual 135, 3) := by decide +kernel
theorem dX11_plan_137 : decode cX11_plan 137 = .ok (.aload_n 0, 1) := by decide +kernel
theorem dX11_plan_138 : decode cX11_plan 138 = .ok (.getfield 19, 3) := by decide +kernel
theorem dX11_plan_141 : decode cX11_plan 141 = .ok (.getfield 145, 3) := by decide +kernel
theorem dX11_plan_144 : decode cX11_plan 144 = .ok (.iload_n 1, 1) := by decide +kernel
theorem dX11_plan_145 : decode cX11_plan 145 = .ok (.aaload, 1) := by decide +kernel
theorem dX11_plan_146 : decode cX11_plan 146 = .ok (.iload_n 2, 1) := by decide +kernel
theorem dX11_plan_147 : decode cX11_plan 147 = .ok (.iaload, 1) := by decide +kernel
theorem dX11_plan_148 : decode cX11_plan 148 = .ok (.iload 4, 2) := by decide +kernel
theorem dX11_plan_150 : decode cX11_plan 150 = .ok (.aload_n 0, 1) := by decide +kernel
theorem dX11_plan_151 : decode cX11_plan 151 = .ok (.getfield 26, 3) := by decide +kernel
theorem dX11_plan_154 : decode cX11_plan 154 = .ok (.getfield 125, 3) := by decide +kernel
theorem dX11_plan_157 : decode cX11_plan 157 = .ok (.iload_n 2, 1) := by decide +kernel
theorem dX11_plan_158 : decode cX11_plan 158 = .ok (.iaload, 1) := by decide +kernel
theorem dX11_plan_159 : decode cX11_plan 159 = .ok (.invokevirtual 233, 3) := by decide +kernel
theorem dX11_plan_162 : decode cX11_plan 162 = .ok (.ireturn, 1) := by decide +kernel
theorem dX11_planned_0 : decode cX11_planned 0 = .ok (.aload_n 0, 1) := by decide +kernel
theorem dX11_planned_1 : decode cX11_planned 1 = .ok (.getfield 68, 3) := by decide +kernel
theorem dX11_planned_4 : decode cX11_planned 4 = .ok (.getfield 236, 3) := by decide +kernel
theorem dX11_planned_7 : decode cX11_planned 7 = .ok (.ifCond .eq 19, 3) := by decide +kernel
theorem dX11_planned_10 : decode cX11_planned 10 = .ok (.aload_n 0, 1) := by decide +kernel
theorem dX11_planned_11 : decode cX11_planned 11 = .ok (.getfield 68, 3) := by decide +kernel
theorem dX11_planned_14 : decode cX11_planned 14 = .ok (.getfield 240, 3) := by decide +kernel
theorem dX11_planned_17 : decode cX11_planned 17 = .ok (.iload_n 1, 1) := by decide +kernel
theorem dX11_planned_18 : decode cX11_planned 18 = .ok (.bipush 19, 2) := by decide +kernel
theorem dX11_planned_20 : decode cX11_planned 20 = .ok (.invokestatic 110, 3) := by decide +kernel
theorem dX11_planned_23 : decode cX11_planned 23 = .ok (.ifCond .ne 5, 3) := by decide +kernel
theorem dX11_planned_26 : decode cX11_planned 26 = .ok (.iconst (-1), 1) := by decide +kernel
theorem dX11_planned_27 : decode cX11_planned 27 = .ok (.ireturn, 1) := by decide +kernel
theorem dX11_planned_28 : decode cX11_planned 28 = .ok (.aload_n 0, 1) := by decide +kernel
theorem dX11_planned_29 : decode cX11_planned 29 = .ok (.getfield 68, 3) := by decide +kernel
theorem dX11_planned_32 : decode cX11_planned 32 = .ok (.getfield 243, 3) := by decide +kernel
theorem dX11_planned_35 : decode cX11_planned 35 = .ok (.iload_n 1, 1) := by decide +kernel
theorem dX11_planned_36 : decode cX11_planned 36 = .ok (.bipush 6, 2) := by decide +kernel
theorem dX11_planned_38 : decode cX11_planned 38 = .ok (.isub, 1) := by decide +kernel
theorem dX11_planned_39 : decode cX11_planned 39 = .ok (.iaload, 1) := by decide +kernel
theorem dX11_planned_40 : decode cX11_planned 40 = .ok (.ireturn, 1) := by decide +kernel
theorem dX11_left_0 : decode cX11_left 0 = .ok (.aload_n 0, 1) := by decide +kernel
theorem dX11_left_1 : decode cX11_left 1 = .ok (.getfield 68, 3) := by decide +kernel
theorem dX11_left_4 : decode cX11_left 4 = .ok (.getfield 236, 3) := by decide +kernel
theorem dX11_left_7 : decode cX11_left 7 = .ok (.ifCond .eq 13, 3) := by decide +kernel
theorem dX11_left_10 : decode cX11_left 10 = .ok (.aload_n 0, 1) := by decide +kernel
theorem dX11_left_11 : decode cX11_left 11 = .ok (.getfield 68, 3) := by decide +kernel
theorem dX11_left_14 : decode cX11_left 14 = .ok (.getfield 246, 3) := by decide +kernel
theorem dX11_left_17 : decode cX11_left 17 = .ok (.goto 4, 3) := by decide +kernel
theorem dX11_left_20 : decode cX11_left 20 = .ok (.iconst (-1), 1) := by decide +kernel
theorem dX11_left_21 : decode cX11_left 21 = .ok (.ireturn, 1) := by decide +kernel
theorem dX11_order_0 : decode cX11_order 0 = .ok (.aload_n 0, 1) := by decide +kernel
theorem dX11_order_1 : decode cX11_order 1 = .ok (.iload_n 1, 1) := by decide +kernel
theorem dX11_order_2 : decode cX11_order 2 = .ok (.iload_n 2, 1) := by decide +kernel
theorem dX11_order_3 : decode cX11_order 3 = .ok (.iload_n 3, 1) := by decide +kernel
theorem dX11_order_4 : decode cX11_order 4 = .ok (.iload 4, 2) := by decide +kernel
theorem dX11_order_6 : decode cX11_order 6 = .ok (.invokevirtual 249, 3) := by decide +kernel
theorem dX11_order_9 : decode cX11_order 9 = .ok (.ifCond .ne 5, 3) := by decide +kernel
theorem dX11_order_12 : decode cX11_order 12 = .ok (.iconst (-1), 1) := by decide +kernel
theorem dX11_order_13 : decode cX11_order 13 = .ok (.ireturn, 1) := by decide +kernel
theorem dX11_order_14 : decode cX11_order 14 = .ok (.aload_n 0, 1) := by decide +kernel
theorem dX11_order_15 : decode cX11_order 15 = .ok (.getfield 61, 3) := by decide +kernel
theorem dX11_order_18 : decode cX11_order 18 = .ok (.iload_n 1, 1) := by decide +kernel
theorem dX11_order_19 : decode cX11_order 19 = .ok (.iload_n 2, 1) := by decide +kernel
theorem dX11_order_20 : decode cX11_order 20 = .ok (.iload_n 3, 1) := by decide +kernel
theorem dX11_order_21 : decode cX11_order 21 = .ok (.bipush 10, 2) := by decide +kernel
theorem dX11_order_23 : decode cX11_order 23 = .ok (.idiv, 1) := by decide +kernel
theorem dX11_order_24 : decode cX11_order 24 = .ok (.iload_n 3, 1) := by decide +kernel
theorem dX11_order_25 : decode cX11_order 25 = .ok (.bipush 10, 2) := by decide +kernel
theorem dX11_order_27 : decode cX11_order 27 = .ok (.irem, 1) := by decide +kernel
theorem dX11_order_28 : decode cX11_order 28 = .ok (.iload 4, 2) := by decide +kernel
theorem dX11_order_30 : decode cX11_order 30 = .ok (.invokevirtual 253, 3) := by decide +kernel
theorem dX11_order_33 : decode cX11_order 33 = .ok (.aload_n 0, 1) := by decide +kernel
theorem dX11_order_34 : decode cX11_order 34 = .ok (.getfield 61, 3) := by decide +kernel
theorem dX11_order_37 : decode cX11_order 37 = .ok (.aload_n 0, 1) := by decide +kernel
theorem dX11_order_38 : decode cX11_order 38 = .ok (.getfield 26, 3) := by decide +kernel
theorem dX11_order_41 : decode cX11_order 41 = .ok (.iload_n 2, 1) := by decide +kernel
theorem dX11_order_42 : decode cX11_order 42 = .ok (.invokevirtual 257, 3) := by decide +kernel
theorem dX11_order_45 : decode cX11_order 45 = .ok (.aload_n 0, 1) := by decide +kernel
theorem dX11_order_46 : decode cX11_order 46 = .ok (.getfield 26, 3) := by decide +kernel
theorem dX11_order_49 : decode cX11_order 49 = .ok (.iload_n 2, 1) := by decide +kernel
theorem dX11_order_50 : decode cX11_order 50 = .ok (.invokevirtual 260, 3) := by decide +kernel
theorem dX11_order_53 : decode cX11_order 53 = .ok (.invokevirtual 263, 3) := by decide +kernel
theorem dX11_order_56 : decode cX11_order 56 = .ok (.ireturn, 1) := by decide +kernel
theorem dX11_loss_0 : decode cX11_loss 0 = .ok (.aload_n 0, 1) := by decide +kernel
theorem dX11_loss_1 : decode cX11_loss 1 = .ok (.iload_n 1, 1) := by decide +kernel
theorem dX11_loss_2 : decode cX11_loss 2 = .ok (.iload_n 2, 1) := by decide +kernel
theorem dX11_loss_3 : decode cX11_loss 3 = .ok (.iload_n 3, 1) := by decide +kernel
theorem dX11_loss_4 : decode cX11_loss 4 = .ok (.iload 4, 2) := by decide +kernel
theorem dX11_loss_6 : decode cX11_loss 6 = .ok (.invokevirtual 249, 3) := by decide +kernel
theorem dX11_loss_9 : decode cX11_loss 9 = .ok (.ifCond .eq 15, 3) := by decide +kernel
theorem dX11_loss_12 : decode cX11_loss 12 = .ok (.iconst 0, 1) := by decide +kernel
theorem dX11_loss_13 : decode cX11_loss 13 = .ok (.iload 5, 2) := by decide +kernel
theorem dX11_loss_15 : decode cX11_loss 15 = .ok (.sipush 999, 3) := by decide +kernel
theorem dX11_loss_18 : decode cX11_loss 18 = .ok (.invokestatic 110, 3) := by decide +kernel
theorem dX11_loss_21 : decode cX11_loss 21 = .ok (.ifCond .ne 7, 3) := by decide +kernel
theorem dX11_loss_24 : decode cX11_loss 24 = .ok (.ldc2_w 266, 3) := by decide +kernel
theorem dX11_loss_27 : decode cX11_loss 27 = .ok (.lreturn, 1) := by decide +kernel
theorem dX11_loss_28 : decode cX11_loss 28 = .ok (.aload_n 0, 1) := by decide +kernel
theorem dX11_loss_29 : decode cX11_loss 29 = .ok (.getfield 61, 3) := by decide +kernel
theorem dX11_loss_32 : decode cX11_loss 32 = .ok (.iload_n 1, 1) := by decide +kernel
theorem dX11_loss_33 : decode cX11_loss 33 = .ok (.iload_n 2, 1) := by decide +kernel
theorem dX11_loss_34 : decode cX11_loss 34 = .ok (.iload_n 3, 1) := by decide +kernel
theorem dX11_loss_35 : decode cX11_loss 35 = .ok (.bipush 10, 2) := by decide +kernel
theorem dX11_loss_37 : decode cX11_loss 37 = .ok (.idiv, 1) := by decide +kernel
theorem dX11_loss_38 : decode cX11_loss 38 = .ok (.iload_n 3, 1) := by decide +kernel
theorem dX11_loss_39 : decode cX11_loss 39 = .ok (.bipush 10, 2) := by decide +kernel
theorem dX11_loss_41 : decode cX11_loss 41 = .ok (.irem, 1) := by decide +kernel
theorem dX11_loss_42 : decode cX11_loss 42 = .ok (.iload 4, 2) := by decide +kernel
theorem dX11_loss_44 : decode cX11_loss 44 = .ok (.invokevirtual 253, 3) := by decide +kernel
theorem dX11_loss_47 : decode cX11_loss 47 = .ok (.aload_n 0, 1) := by decide +kernel
theorem dX11_loss_48 : decode cX11_loss 48 = .ok (.getfield 61, 3) := by decide +kernel
theorem dX11_loss_51 : decode cX11_loss 51 = .ok (.iload 5, 2) := by decide +kernel
theorem dX11_loss_53 : decode cX11_loss 53 = .ok (.aload_n 0, 1) := by decide +kernel
theorem dX11_loss_54 : decode cX11_loss 54 = .ok (.getfield 26, 3) := by decide +kernel
theorem dX11_loss_57 : decode cX11_loss 57 = .ok (.iload_n 2, 1) := by decide +kernel
theorem dX11_loss_58 : decode cX11_loss 58 = .ok (.invokevirtual 257, 3) := by decide +kernel
theorem dX11_loss_61 : decode cX11_loss 61 = .ok (.aload_n 0, 1) := by decide +kernel
theorem dX11_loss_62 : decode cX11_loss 62 = .ok (.getfield 26, 3) := by decide +kernel
theorem dX11_loss_65 : decode cX11_loss 65 = .ok (.iload_n 2, 1) := by decide +kernel
theorem dX11_loss_66 : decode cX11_loss 66 = .ok (.invokevirtual 260, 3) := by decide +kernel
theorem dX11_loss_69 : decode cX11_loss 69 = .ok (.invokevirtual 268, 3) := by decide +kernel
theorem dX11_loss_72 : decode cX11_loss 72 = .ok (.lreturn, 1) := by decide +kernel
theorem dX11_crates_0 : decode cX11_crates 0 = .ok (.aload_n 0, 1) := by decide +kernel
theorem dX11_crates_1 : decode cX11_crates 1 = .ok (.getfield 19, 3) := by decide +kernel
theorem dX11_crates_4 : decode cX11_crates 4 = .ok (.getfield 103, 3) := by decide +kernel
theorem dX11_crates_7 : decode cX11_crates 7 = .ok (.iload_n 1, 1) := by decide +kernel
theorem dX11_crates_8 : decode cX11_crates 8 = .ok (.invokevirtual 272, 3) := by decide +kernel
theorem dX11_crates_11 : decode cX11_crates 11 = .ok (.ifCond .eq 21, 3) := by decide +kernel
theorem dX11_crates_14 : decode cX11_crates 14 = .ok (.iconst 0, 1) := by decide +kernel
theorem dX11_crates_15 : decode cX11_crates 15 = .ok (.iload_n 2, 1) := by decide +kernel
theorem dX11_crates_16 : decode cX11_crates 16 = .ok (.iconst 1, 1) := by decide +kernel
theorem dX11_crates_17 : decode cX11_crates 17 = .ok (.invokestatic 110, 3) := by decide +kernel
theorem dX11_crates_20 : decode cX11_crates 20 = .ok (.ifCond .eq 12, 3) := by decide +kernel
theorem dX11_crates_23 : decode cX11_crates 23 = .ok (.iconst 0, 1) := by decide +kernel
theorem dX11_crates_24 : decode cX11_crates 24 = .ok (.iload_n 3, 1) := by decide +kernel
theorem dX11_crates_25 : decode cX11_crates 25 = .ok (.iconst 3, 1) := by decide +kernel
theorem dX11_crates_26 : decode cX11_crates 26 = .ok (.invokestatic 110, 3) := by decide +kernel
theorem dX11_crates_29 : decode cX11_crates 29 = .ok (.ifCond .ne 5, 3) := by decide +kernel
theorem dX11_crates_32 : decode cX11_crates 32 = .ok (.iconst (-1), 1) := by decide +kernel
theorem dX11_crates_33 : decode cX11_crates 33 = .ok (.ireturn, 1) := by decide +kernel
theorem dX11_crates_34 : decode cX11_crates 34 = .ok (.iload_n 2, 1) := by decide +kernel
theorem dX11_crates_35 : decode cX11_crates 35 = .ok (.ifCond .ne 13, 3) := by decide +kernel
theorem dX11_crates_38 : decode cX11_crates 38 = .ok (.aload_n 0, 1) := by decide +kernel
theorem dX11_crates_39 : decode cX11_crates 39 = .ok (.getfield 75, 3) := by decide +kernel
theorem dX11_crates_42 : decode cX11_crates 42 = .ok (.getfield 273, 3) := by decide +kernel
theorem dX11_crates_45 : decode cX11_crates 45 = .ok (.goto 10, 3) := by decide +kernel
theorem dX11_crates_48 : decode cX11_crates 48 = .ok (.aload_n 0, 1) := by decide +kernel
theorem dX11_crates_49 : decode cX11_crates 49 = .ok (.getfield 75, 3) := by decide +kernel
theorem dX11_crates_52 : decode cX11_crates 52 = .ok (.getfield 276, 3) := by decide +kernel
theorem dX11_crates_55 : decode cX11_crates 55 = .ok (.astore 4, 2) := by decide +kernel
theorem dX11_crates_57 : decode cX11_crates 57 = .ok (.aload 4, 2) := by decide +kernel
theorem dX11_crates_59 : decode cX11_crates 59 = .ok (.iload_n 1, 1) := by decide +kernel
theorem dX11_crates_60 : decode cX11_crates 60 = .ok (.iaload, 1) := by decide +kernel
theorem dX11_crates_61 : decode cX11_crates 61 = .ok (.istore 5, 2) := by decide +kernel
theorem dX11_crates_63 : decode cX11_crates 63 = .ok (.aload 4, 2) := by decide +kernel
theorem dX11_crates_65 : decode cX11_crates 65 = .ok (.iload_n 1, 1) := by decide +kernel
theorem dX11_crates_66 : decode cX11_crates 66 = .ok (.iload_n 3, 1) := by decide +kernel
theorem dX11_crates_67 : decode cX11_crates 67 = .ok (.iastore, 1) := by decide +kernel
theorem dX11_crates_68 : decode cX11_crates 68 = .ok (.iload 5, 2) := by decide +kernel
theorem dX11_crates_70 : decode cX11_crates 70 = .ok (.ireturn, 1) := by decide +kernel
theorem dX11_ways_0 : decode cX11_ways 0 = .ok (.aload_n 0, 1) := by decide +kernel
theorem dX11_ways_1 : decode cX11_ways 1 = .ok (.getfield 75, 3) := by decide +kernel
theorem dX11_ways_4 : decode cX11_ways 4 = .ok (.invokevirtual 279, 3) := by decide +kernel
theorem dX11_ways_7 : decode cX11_ways 7 = .ok (.bipush 6, 2) := by decide +kernel
theorem dX11_ways_9 : decode cX11_ways 9 = .ok (.if_icmp .le 6, 3) := by decide +kernel
theorem dX11_ways_12 : decode cX11_ways 12 = .ok (.bipush (-4), 2) := by decide +kernel
theorem dX11_ways_14 : decode cX11_ways 14 = .ok (.ireturn, 1) := by decide +kernel
theorem dX11_ways_15 : decode cX11_ways 15 = .ok (.aload_n 0, 1) := by decide +kernel
theorem dX11_ways_16 : decode cX11_ways 16 = .ok (.getfield 75, 3) := by decide +kernel
theorem dX11_ways_19 : decode cX11_ways 19 = .ok (.aload_n 0, 1) := by decide +kernel
theorem dX11_ways_20 : decode cX11_ways 20 = .ok (.getfield 19, 3) := by decide +kernel
theorem dX11_ways_23 : decode cX11_ways 23 = .ok (.getfield 103, 3) := by decide +kernel
theorem dX11_ways_26 : decode cX11_ways 26 = .ok (.invokevirtual 282, 3) := by decide +kernel
theorem dX11_ways_29 : decode cX11_ways 29 = .ok (.ireturn, 1) := by decide +kernel
theorem dX11_comes_0 : decode cX11_comes 0 = .ok (.iload_n 1, 1) := by decide +kernel
theorem dX11_comes_1 : decode cX11_comes 1 = .ok (.aload_n 0, 1) := by decide +kernel
theorem dX11_comes_2 : decode cX11_comes 2 = .ok (.getfield 75, 3) := by decide +kernel
theorem dX11_comes_5 : decode cX11_comes 5 = .ok (.getfield 285, 3) := by decide +kernel
theorem dX11_comes_8 : decode cX11_comes 8 = .ok (.invokestatic 99, 3) := by decide +kernel
theorem dX11_comes_11 : decode cX11_comes 11 = .ok (.ifCond .ne 5, 3) := by decide +kernel
theorem dX11_comes_14 : decode cX11_comes 14 = .ok (.iconst (-1), 1) := by decide +kernel
theorem dX11_comes_15 : decode cX11_comes 15 = .ok (.ireturn, 1) := by decide +kernel
theorem dX11_comes_16 : decode cX11_comes 16 = .ok (.aload_n 0, 1) := by decide +kernel
theorem dX11_comes_17 : decode cX11_comes 17 = .ok (.getfield 75, 3) := by decide +kernel
theorem dX11_comes_20 : decode cX11_comes 20 = .ok (.getfield 286, 3) := by decide +kernel
theorem dX11_comes_23 : decode cX11_comes 23 = .ok (.iload_n 1, 1) := by decide +kernel
theorem dX11_comes_24 : decode cX11_comes 24 = .ok (.iaload, 1) := by decide +kernel
theorem dX11_comes_25 : decode cX11_comes 25 = .ok (.bipush 15, 2) := by decide +kernel
theorem dX11_comes_27 : decode cX11_comes 27 = .ok (.if_icmp .ne 8, 3) := by decide +kernel
theorem dX11_comes_30 : decode cX11_comes 30 = .ok (.bipush (-2), 2) := by decide +kernel
theorem dX11_comes_32 : decode cX11_comes 32 = .ok (.goto 12, 3) := by decide +kernel
theorem dX11_comes_35 : decode cX11_comes 35 = .ok (.aload_n 0, 1) := by decide +kernel
theorem dX11_comes_36 : decode cX11_comes 36 = .ok (.getfield 75, 3) := by decide +kernel
theorem dX11_comes_39 : decode cX11_comes 39 = .ok (.getfield 286, 3) := by decide +kernel
theorem dX11_comes_42 : decode cX11_comes 42 = .ok (.iload_n 1, 1) := by decide +kernel
theorem dX11_comes_43 : decode cX11_comes 43 = .ok (.iaload, 1) := by decide +kernel
theorem dX11_comes_44 : decode cX11_comes 44 = .ok (.ireturn, 1) := by decide +kernel
theorem dX11_move_0 : decode cX11_move 0 = .ok (.aload_n 0, 1) := by decide +kernel
theorem dX11_move_1 : decode cX11_move 1 = .ok (.iload_n 1, 1) := by decide +kernel
theorem dX11_move_2 : decode cX11_move 2 = .ok (.iload_n 3, 1) := by decide +kernel
theorem dX11_move_3 : decode cX11_move 3 = .ok (.invokevirtual 142, 3) := by decide +kernel
theorem dX11_move_6 : decode cX11_move 6 = .ok (.ifCond .eq 22, 3) := by decide +kernel
theorem dX11_move_9 : decode cX11_move 9 = .ok (.aload_n 0, 1) := by decide +kernel
theorem dX11_move_10 : decode cX11_move 10 = .ok (.getfield 19, 3) := by decide +kernel
theorem dX11_move_13 : decode cX11_move 13 = .ok (.getfield 103, 3) := by decide +kernel
theorem dX11_move_16 : decode cX11_move 16 = .ok (.iload_n 2, 1) := by decide +kernel
theorem dX11_move_17 : decode cX11_move 17 = .ok (.invokevirtual 272, 3) := by decide +kernel
theorem dX11_move_20 : decode cX11_move 20 = .ok (.ifCond .eq 8, 3) := by decide +kernel
theorem dX11_move_23 : decode cX11_move 23 = .ok (.iload_n 1, 1) := by decide +kernel
theorem dX11_move_24 : decode cX11_move 24 = .ok (.iload_n 2, 1) := by decide +kernel
theorem dX11_move_25 : decode cX11_move 25 = .ok (.if_icmp .ne 5, 3) := by decide +kernel
theorem dX11_move_28 : decode cX11_move 28 = .ok (.iconst (-1), 1) := by decide +kernel
theorem dX11_move_29 : decode cX11_move 29 = .ok (.ireturn, 1) := by decide +kernel
theorem dX11_move_30 : decode cX11_move 30 = .ok (.iconst 1, 1) := by decide +kernel
theorem dX11_move_31 : decode cX11_move 31 = .ok (.iload 4, 2) := by decide +kernel
theorem dX11_move_33 : decode cX11_move 33 = .ok (.sipush 999, 3) := by decide +kernel
theorem dX11_move_36 : decode cX11_move 36 = .ok (.invokestatic 110, 3) := by decide +kernel
theorem dX11_move_39 : decode cX11_move 39 = .ok (.ifCond .ne 5, 3) := by decide +kernel
theorem dX11_move_42 : decode cX11_move 42 = .ok (.iconst (-1), 1) := by decide +kernel
theorem dX11_move_43 : decode cX11_move 43 = .ok (.ireturn, 1) := by decide +kernel
theorem dX11_move_44 : decode cX11_move 44 = .ok (.aload_n 0, 1) := by decide +kernel
theorem dX11_move_45 : decode cX11_move 45 = .ok (.iload_n 1, 1) := by decide +kernel
theorem dX11_move_46 : decode cX11_move 46 = .ok (.iload_n 3, 1) := by decide +kernel
theorem dX11_move_47 : decode cX11_move 47 = .ok (.iconst 0, 1) := by decide +kernel
theorem dX11_move_48 : decode cX11_move 48 = .ok (.invokevirtual 170, 3) := by decide +kernel
theorem dX11_move_51 : decode cX11_move 51 = .ok (.ifCond .ne 6, 3) := by decide +kernel
theorem dX11_move_54 : decode cX11_move 54 = .ok (.bipush (-2), 2) := by decide +kernel
theorem dX11_move_56 : decode cX11_move 56 = .ok (.ireturn, 1) := by decide +kernel
theorem dX11_move_57 : decode cX11_move 57 = .ok (.aload_n 0, 1) := by decide +kernel
theorem dX11_move_58 : decode cX11_move 58 = .ok (.getfield 33, 3) := by decide +kernel
theorem dX11_move_61 : decode cX11_move 61 = .ok (.iload 4, 2) := by decide +kernel
theorem dX11_move_63 : decode cX11_move 63 = .ok (.invokevirtual 288, 3) := by decide +kernel
theorem dX11_move_66 : decode cX11_move 66 = .ok (.aload_n 0, 1) := by decide +kernel
theorem dX11_move_67 : decode cX11_move 67 = .ok (.getfield 33, 3) := by decide +kernel
theorem dX11_move_70 : decode cX11_move 70 = .ok (.invokevirtual 155, 3) := by decide +kernel
theorem dX11_move_73 : decode cX11_move 73 = .ok (.if_icmp .le 6, 3) := by decide +kernel
theorem dX11_move_76 : decode cX11_move 76 = .ok (.bipush (-3), 2) := by decide +kernel
theorem dX11_move_78 : decode cX11_move 78 = .ok (.ireturn, 1) := by decide +kernel
theorem dX11_move_79 : decode cX11_move 79 = .ok (.aload_n 0, 1) := by decide +kernel
theorem dX11_move_80 : decode cX11_move 80 = .ok (.getfield 33, 3) := by decide +kernel
theorem dX11_move_83 : decode cX11_move 83 = .ok (.iload 4, 2) := by decide +kernel
theorem dX11_move_85 : decode cX11_move 85 = .ok (.iload_n 2, 1) := by decide +kernel
theorem dX11_move_86 : decode cX11_move 86 = .ok (.invokevirtual 291, 3) := by decide +kernel
theorem dX11_move_89 : decode cX11_move 89 = .ok (.ireturn, 1) := by decide +kernel
theorem dX11_drawn_0 : decode cX11_drawn 0 = .ok (.aload_n 0, 1) := by decide +kernel
theorem dX11_drawn_1 : decode cX11_drawn 1 = .ok (.getfield 19, 3) := by decide +kernel
theorem dX11_drawn_4 : decode cX11_drawn 4 = .ok (.getfield 103, 3) := by decide +kernel
theorem dX11_drawn_7 : decode cX11_drawn 7 = .ok (.iload_n 1, 1) := by decide +kernel
theorem dX11_drawn_8 : decode cX11_drawn 8 = .ok (.invokevirtual 272, 3) := by decide +kernel
theorem dX11_drawn_11 : decode cX11_drawn 11 = .ok (.ifCond .eq 12, 3) := by decide +kernel
theorem dX11_drawn_14 : decode cX11_drawn 14 = .ok (.iconst (-1), 1) := by decide +kernel
theorem dX11_drawn_15 : decode cX11_drawn 15 = .ok (.iload_n 2, 1) := by decide +kernel
theorem dX11_drawn_16 : decode cX11_drawn 16 = .ok (.iconst 1, 1) := by decide +kernel
theorem dX11_drawn_17 : decode cX11_drawn 17 = .ok (.invokestatic 110, 3) := by decide +kernel
theorem dX11_drawn_20 : decode cX11_drawn 20 = .ok (.ifCond .ne 6, 3) := by decide +kernel
theorem dX11_drawn_23 : decode cX11_drawn 23 = .ok (.bipush (-2), 2) := by decide +kernel
theorem dX11_drawn_25 : decode cX11_drawn 25 = .ok (.ireturn, 1) := by decide +kernel
theorem dX11_drawn_26 : decode cX11_drawn 26 = .ok (.aload_n 0, 1) := by decide +kernel
theorem dX11_drawn_27 : decode cX11_drawn 27 = .ok (.getfield 19, 3) := by decide +kernel
theorem dX11_drawn_30 : decode cX11_drawn 30 = .ok (.getfield 294, 3) := by decide +kernel
theorem dX11_drawn_33 : decode cX11_drawn 33 = .ok (.iload_n 1, 1) := by decide +kernel
theorem dX11_drawn_34 : decode cX11_drawn 34 = .ok (.iaload, 1) := by decide +kernel
theorem dX11_drawn_35 : decode cX11_drawn 35 = .ok (.istore_n 3, 1) := by decide +kernel
theorem dX11_drawn_36 : decode cX11_drawn 36 = .ok (.aload_n 0, 1) := by decide +kernel
theorem dX11_drawn_37 : decode cX11_drawn 37 = .ok (.getfield 19, 3) := by decide +kernel
theorem dX11_drawn_40 : decode cX11_drawn 40 = .ok (.getfield 294, 3) := by decide +kernel
theorem dX11_drawn_43 : decode cX11_drawn 43 = .ok (.iload_n 1, 1) := by decide +kernel
theorem dX11_drawn_44 : decode cX11_drawn 44 = .ok (.iload_n 2, 1) := by decide +kernel
theorem dX11_drawn_45 : decode cX11_drawn 45 = .ok (.iastore, 1) := by decide +kernel
theorem dX11_drawn_46 : decode cX11_drawn 46 = .ok (.iload_n 3, 1) := by decide +kernel
theorem dX11_drawn_47 : decode cX11_drawn 47 = .ok (.ireturn, 1) := by decide +kernel
theorem dX11_early_0 : decode cX11_early 0 = .ok (.aload_n 0, 1) := by decide +kernel
theorem dX11_early_1 : decode cX11_early 1 = .ok (.iload_n 1, 1) := by decide +kernel
theorem dX11_early_2 : decode cX11_early 2 = .ok (.iload_n 2, 1) := by decide +kernel
theorem dX11_early_3 : decode cX11_early 3 = .ok (.invokevirtual 142, 3) := by decide +kernel
theorem dX11_early_6 : decode cX11_early 6 = .ok (.ifCond .eq 12, 3) := by decide +kernel
theorem dX11_early_9 : decode cX11_early 9 = .ok (.iload_n 3, 1) := by decide +kernel
theorem dX11_early_10 : decode cX11_early 10 = .ok (.iload 4, 2) := by decide +kernel
theorem dX11_early_12 : decode cX11_early 12 = .ok (.invokestatic 297, 3) := by decide +kernel
theorem dX11_early_15 : decode cX11_early 15 = .ok (.ifCond .ne 5, 3) := by decide +kernel
theorem dX11_early_18 : decode cX11_early 18 = .ok (.iconst (-1), 1) := by decide +kernel
theorem dX11_early_19 : decode cX11_early 19 = .ok (.ireturn, 1) := by decide +kernel
theorem dX11_early_20 : decode cX11_early 20 = .ok (.aload_n 0, 1) := by decide +kernel
theorem dX11_early_21 : decode cX11_early 21 = .ok (.getfield 61, 3) := by decide +kernel
theorem dX11_early_24 : decode cX11_early 24 = .ok (.iload_n 1, 1) := by decide +kernel
theorem dX11_early_25 : decode cX11_early 25 = .ok (.iload_n 2, 1) := by decide +kernel
theorem dX11_early_26 : decode cX11_early 26 = .ok (.iload_n 3, 1) := by decide +kernel
theorem dX11_early_27 : decode cX11_early 27 = .ok (.iload 4, 2) := by decide +kernel
theorem dX11_early_29 : decode cX11_early 29 = .ok (.invokevirtual 300, 3) := by decide +kernel
theorem dX11_early_32 : decode cX11_early 32 = .ok (.ireturn, 1) := by decide +kernel
theorem dX11_waiting_0 : decode cX11_waiting 0 = .ok (.aload_n 0, 1) := by decide +kernel
theorem dX11_waiting_1 : decode cX11_waiting 1 = .ok (.getfield 26, 3) := by decide +kernel
theorem dX11_waiting_4 : decode cX11_waiting 4 = .ok (.iload_n 1, 1) := by decide +kernel
theorem dX11_waiting_5 : decode cX11_waiting 5 = .ok (.invokevirtual 117, 3) := by decide +kernel
theorem dX11_waiting_8 : decode cX11_waiting 8 = .ok (.ifCond .eq 21, 3) := by decide +kernel
theorem dX11_waiting_11 : decode cX11_waiting 11 = .ok (.iload_n 2, 1) := by decide +kernel
theorem dX11_waiting_12 : decode cX11_waiting 12 = .ok (.iload_n 3, 1) := by decide +kernel
theorem dX11_waiting_13 : decode cX11_waiting 13 = .ok (.invokestatic 297, 3) := by decide +kernel
theorem dX11_waiting_16 : decode cX11_waiting 16 = .ok (.ifCond .eq 13, 3) := by decide +kernel
theorem dX11_waiting_19 : decode cX11_waiting 19 = .ok (.iconst 0, 1) := by decide +kernel
theorem dX11_waiting_20 : decode cX11_waiting 20 = .ok (.iload 4, 2) := by decide +kernel
theorem dX11_waiting_22 : decode cX11_waiting 22 = .ok (.iconst 1, 1) := by decide +kernel
theorem dX11_waiting_23 : decode cX11_waiting 23 = .ok (.invokestatic 110, 3) := by decide +kernel
theorem dX11_waiting_26 : decode cX11_waiting 26 = .ok (.ifCond .ne 6, 3) := by decide +kernel
theorem dX11_waiting_29 : decode cX11_waiting 29 = .ok (.ldc 166, 2) := by decide +kernel
theorem dX11_waiting_31 : decode cX11_waiting 31 = .ok (.ireturn, 1) := by decide +kernel
theorem dX11_waiting_32 : decode cX11_waiting 32 = .ok (.aload_n 0, 1) := by decide +kernel
theorem dX11_waiting_33 : decode cX11_waiting 33 = .ok (.getfield 19, 3) := by decide +kernel
theorem dX11_waiting_36 : decode cX11_waiting 36 = .ok (.iconst 1, 1) := by decide +kernel
theorem dX11_waiting_37 : decode cX11_waiting 37 = .ok (.invokevirtual 303, 3) := by decide +kernel
theorem dX11_waiting_40 : decode cX11_waiting 40 = .ok (.istore 5, 2) := by decide +kernel
theorem dX11_waiting_42 : decode cX11_waiting 42 = .ok (.aload_n 0, 1) := by decide +kernel
theorem dX11_waiting_43 : decode cX11_waiting 43 = .ok (.getfield 19, 3) := by decide +kernel
theorem dX11_waiting_46 : decode cX11_waiting 46 = .ok (.iconst 0, 1) := by decide +kernel
theorem dX11_waiting_47 : decode cX11_waiting 47 = .ok (.invokevirtual 303, 3) := by decide +kernel
theorem dX11_waiting_50 : decode cX11_waiting 50 = .ok (.istore 6, 2) := by decide +kernel
theorem dX11_waiting_52 : decode cX11_waiting 52 = .ok (.iload 5, 2) := by decide +kernel
theorem dX11_waiting_54 : decode cX11_waiting 54 = .ok (.ifCond .eq 8, 3) := by decide +kernel
theorem dX11_waiting_57 : decode cX11_waiting 57 = .ok (.iload 6, 2) := by decide +kernel
theorem dX11_waiting_59 : decode cX11_waiting 59 = .ok (.ifCond .ne 7, 3) := by decide +kernel
theorem dX11_waiting_62 : decode cX11_waiting 62 = .ok (.ldc_w 306, 3) := by decide +kernel
theorem dX11_waiting_65 : decode cX11_waiting 65 = .ok (.ireturn, 1) := by decide +kernel
theorem dX11_waiting_66 : decode cX11_waiting 66 = .ok (.iload 5, 2) := by decide +kernel
theorem dX11_waiting_68 : decode cX11_waiting 68 = .ok (.iload 6, 2) := by decide +kernel
theorem dX11_waiting_70 : decode cX11_waiting 70 = .ok (.iadd, 1) := by decide +kernel
theorem dX11_waiting_71 : decode cX11_waiting 71 = .ok (.bipush 10, 2) := by decide +kernel
theorem dX11_waiting_73 : decode cX11_waiting 73 = .ok (.if_icmp .le 7, 3) := by decide +kernel
theorem dX11_waiting_76 : decode cX11_waiting 76 = .ok (.ldc_w 307, 3) := by decide +kernel
theorem dX11_waiting_79 : decode cX11_waiting 79 = .ok (.ireturn, 1) := by decide +kernel
theorem dX11_waiting_80 : decode cX11_waiting 80 = .ok (.aload_n 0, 1) := by decide +kernel
theorem dX11_waiting_81 : decode cX11_waiting 81 = .ok (.iload_n 1, 1) := by decide +kernel
theorem dX11_waiting_82 : decode cX11_waiting 82 = .ok (.iload_n 2, 1) := by decide +kernel
theorem dX11_waiting_83 : decode cX11_waiting 83 = .ok (.iload_n 3, 1) := by decide +kernel
theorem dX11_waiting_84 : decode cX11_waiting 84 = .ok (.invokevirtual 308, 3) := by decide +kernel
theorem dX11_waiting_87 : decode cX11_waiting 87 = .ok (.istore 7, 2) := by decide +kernel
theorem dX11_waiting_89 : decode cX11_waiting 89 = .ok (.iload 4, 2) := by decide +kernel
theorem dX11_waiting_91 : decode cX11_waiting 91 = .ok (.ifCond .ne 16, 3) := by decide +kernel
theorem dX11_waiting_94 : decode cX11_waiting 94 = .ok (.aload_n 0, 1) := by decide +kernel
theorem dX11_waiting_95 : decode cX11_waiting 95 = .ok (.iload 7, 2) := by decide +kernel
theorem dX11_waiting_97 : decode cX11_waiting 97 = .ok (.iload 5, 2) := by decide +kernel
theorem dX11_waiting_99 : decode cX11_waiting 99 = .ok (.iload 6, 2) := by decide +kernel
theorem dX11_waiting_101 : decode cX11_waiting 101 = .ok (.invokevirtual 311, 3) := by decide +kernel
theorem dX11_waiting_104 : decode cX11_waiting 104 = .ok (.goto 16, 3) := by decide +kernel
theorem dX11_waiting_107 : decode cX11_waiting 107 = .ok (.aload_n 0, 1) := by decide +kernel
theorem dX11_waiting_108 : decode cX11_waiting 108 = .ok (.iload 7, 2) := by decide +kernel
theorem dX11_waiting_110 : decode cX11_waiting 110 = .ok (.iload 5, 2) := by decide +kernel
theorem dX11_waiting_112 : decode cX11_waiting 112 = .ok (.iload 5, 2) := by decide +kernel
theorem dX11_waiting_114 : decode cX11_waiting 114 = .ok (.iload 6, 2) := by decide +kernel
theorem dX11_waiting_116 : decode cX11_waiting 116 = .ok (.iadd, 1) := by decide +kernel
theorem dX11_waiting_117 : decode cX11_waiting 117 = .ok (.invokevirtual 314, 3) := by decide +kernel
theorem dX11_waiting_120 : decode cX11_waiting 120 = .ok (.ireturn, 1) := by decide +kernel
theorem dX11_kitchen_0 : decode cX11_kitchen 0 = .ok (.iload_n 1, 1) := by decide +kernel
theorem dX11_kitchen_1 : decode cX11_kitchen 1 = .ok (.sipush 10000, 3) := by decide +kernel
theorem dX11_kitchen_4 : decode cX11_kitchen 4 = .ok (.invokestatic 99, 3) := by decide +kernel
theorem dX11_kitchen_7 : decode cX11_kitchen 7 = .ok (.ifCond .eq 12, 3) := by decide +kernel
theorem dX11_kitchen_10 : decode cX11_kitchen 10 = .ok (.iload_n 2, 1) := by decide +kernel
theorem dX11_kitchen_11 : decode cX11_kitchen 11 = .ok (.bipush 24, 2) := by decide +kernel
theorem dX11_kitchen_13 : decode cX11_kitchen 13 = .ok (.invokestatic 99, 3) := by decide +kernel
theorem dX11_kitchen_16 : decode cX11_kitchen 16 = .ok (.ifCond .ne 5, 3) := by decide +kernel
theorem dX11_kitchen_19 : decode cX11_kitchen 19 = .ok (.iconst (-1), 1) := by decide +kernel
theorem dX11_kitchen_20 : decode cX11_kitchen 20 = .ok (.ireturn, 1) := by decide +kernel
theorem dX11_kitchen_21 : decode cX11_kitchen 21 = .ok (.aload_n 0, 1) := by decide +kernel
theorem dX11_kitchen_22 : decode cX11_kitchen 22 = .ok (.getfield 84, 3) := by decide +kernel
theorem dX11_kitchen_25 : decode cX11_kitchen 25 = .ok (.iload_n 1, 1) := by decide +kernel
theorem dX11_kitchen_26 : decode cX11_kitchen 26 = .ok (.invokevirtual 106, 3) := by decide +kernel
theorem dX11_kitchen_29 : decode cX11_kitchen 29 = .ok (.istore_n 3, 1) := by decide +kernel
theorem dX11_kitchen_30 : decode cX11_kitchen 30 = .ok (.iload_n 3, 1) := by decide +kernel
theorem dX11_kitchen_31 : decode cX11_kitchen 31 = .ok (.ifCond .lt 10, 3) := by decide +kernel
theorem dX11_kitchen_34 : decode cX11_kitchen 34 = .ok (.aload_n 0, 1) := by decide +kernel
theorem dX11_kitchen_35 : decode cX11_kitchen 35 = .ok (.getfield 88, 3) := by decide +kernel
theorem dX11_kitchen_38 : decode cX11_kitchen 38 = .ok (.iload_n 3, 1) := by decide +kernel
theorem dX11_kitchen_39 : decode cX11_kitchen 39 = .ok (.iload_n 2, 1) := by decide +kernel
theorem dX11_kitchen_40 : decode cX11_kitchen 40 = .ok (.iastore, 1) := by decide +kernel
theorem dX11_kitchen_41 : decode cX11_kitchen 41 = .ok (.iload_n 3, 1) := by decide +kernel
theorem dX11_kitchen_42 : decode cX11_kitchen 42 = .ok (.ireturn, 1) := by decide +kernel
theorem dX11_gift_0 : decode cX11_gift 0 = .ok (.aload_n 0, 1) := by decide +kernel
theorem dX11_gift_1 : decode cX11_gift 1 = .ok (.iload_n 1, 1) := by decide +kernel
theorem dX11_gift_2 : decode cX11_gift 2 = .ok (.iload_n 2, 1) := by decide +kernel
theorem dX11_gift_3 : decode cX11_gift 3 = .ok (.invokevirtual 142, 3) := by decide +kernel
theorem dX11_gift_6 : decode cX11_gift 6 = .ok (.ifCond .eq 26, 3) := by decide +kernel
theorem dX11_gift_9 : decode cX11_gift 9 = .ok (.aload_n 0, 1) := by decide +kernel
theorem dX11_gift_10 : decode cX11_gift 10 = .ok (.getfield 84, 3) := by decide +kernel
theorem dX11_gift_13 : decode cX11_gift 13 = .ok (.iload_n 3, 1) := by decide +kernel
theorem dX11_gift_14 : decode cX11_gift 14 = .ok (.invokevirtual 272, 3) := by decide +kernel
theorem dX11_gift_17 : decode cX11_gift 17 = .ok (.ifCond .eq 15, 3) := by decide +kernel
theorem dX11_gift_20 : decode cX11_gift 20 = .ok (.iconst 1, 1) := by decide +kernel
theorem dX11_gift_21 : decode cX11_gift 21 = .ok (.iload 4, 2) := by decide +kernel
theorem dX11_gift_23 : decode cX11_gift 23 = .ok (.sipush 999, 3) := by decide +kernel
theorem dX11_gift_26 : decode cX11_gift 26 = .ok (.invokestatic 110, 3) := by decide +kernel
theorem dX11_gift_29 : decode cX11_gift 29 = .ok (.ifCond .ne 5, 3) := by decide +kernel
theorem dX11_gift_32 : decode cX11_gift 32 = .ok (.iconst (-1), 1) := by decide +kernel
theorem dX11_gift_33 : decode cX11_gift 33 = .ok (.ireturn, 1) := by decide +kernel
theorem dX11_gift_34 : decode cX11_gift 34 = .ok (.aload_n 0, 1) := by decide +kernel
theorem dX11_gift_35 : decode cX11_gift 35 = .ok (.getfield 19, 3) := by decide +kernel
theorem dX11_gift_38 : decode cX11_gift 38 = .ok (.getfield 103, 3) := by decide +kernel
theorem dX11_gift_41 : decode cX11_gift 41 = .ok (.iload_n 1, 1) := by decide +kernel
theorem dX11_gift_42 : decode cX11_gift 42 = .ok (.aload_n 0, 1) := by decide +kernel
theorem dX11_gift_43 : decode cX11_gift 43 = .ok (.getfield 84, 3) := by decide +kernel
theorem dX11_gift_46 : decode cX11_gift 46 = .ok (.iload_n 3, 1) := by decide +kernel
theorem dX11_gift_47 : decode cX11_gift 47 = .ok (.invokevirtual 317, 3) := by decide +kernel
theorem dX11_gift_50 : decode cX11_gift 50 = .ok (.istore 5, 2) := by decide +kernel
theorem dX11_gift_52 : decode cX11_gift 52 = .ok (.iload 5, 2) := by decide +kernel
theorem dX11_gift_54 : decode cX11_gift 54 = .ok (.bipush 10, 2) := by decide +kernel
theorem dX11_gift_56 : decode cX11_gift 56 = .ok (.iadd, 1) := by decide +kernel
theorem dX11_gift_57 : decode cX11_gift 57 = .ok (.iconst 1, 1) := by decide +kernel
theorem dX11_gift_58 : decode cX11_gift 58 = .ok (.isub, 1) := by decide +kernel
theorem dX11_gift_59 : decode cX11_gift 59 = .ok (.bipush 10, 2) := by decide +kernel
theorem dX11_gift_61 : decode cX11_gift 61 = .ok (.idiv, 1) := by decide +kernel
theorem dX11_gift_62 : decode cX11_gift 62 = .ok (.istore 6, 2) := by decide +kernel
theorem dX11_gift_64 : decode cX11_gift 64 = .ok (.aload_n 0, 1) := by decide +kernel
theorem dX11_gift_65 : decode cX11_gift 65 = .ok (.getfield 10, 3) := by decide +kernel
theorem dX11_gift_68 : decode cX11_gift 68 = .ok (.invokevirtual 135, 3) := by decide +kernel
theorem dX11_gift_71 : decode cX11_gift 71 = .ok (.iload 6, 2) := by decide +kernel
theorem dX11_gift_73 : decode cX11_gift 73 = .ok (.iadd, 1) := by decide +kernel
theorem dX11_gift_74 : decode cX11_gift 74 = .ok (.aload_n 0, 1) := by decide +kernel
theorem dX11_gift_75 : decode cX11_gift 75 = .ok (.getfield 88, 3) := by decide +kernel
theorem dX11_gift_78 : decode cX11_gift 78 = .ok (.iload_n 3, 1) := by decide +kernel
theorem dX11_gift_79 : decode cX11_gift 79 = .ok (.iaload, 1) := by decide +kernel
theorem dX11_gift_80 : decode cX11_gift 80 = .ok (.if_icmp .le 6, 3) := by decide +kernel
theorem dX11_gift_83 : decode cX11_gift 83 = .ok (.bipush (-2), 2) := by decide +kernel
theorem dX11_gift_85 : decode cX11_gift 85 = .ok (.ireturn, 1) := by decide +kernel
theorem dX11_gift_86 : decode cX11_gift 86 = .ok (.aload_n 0, 1) := by decide +kernel
theorem dX11_gift_87 : decode cX11_gift 87 = .ok (.getfield 26, 3) := by decide +kernel
theorem dX11_gift_90 : decode cX11_gift 90 = .ok (.getfield 321, 3) := by decide +kernel
theorem dX11_gift_93 : decode cX11_gift 93 = .ok (.iload_n 2, 1) := by decide +kernel
theorem dX11_gift_94 : decode cX11_gift 94 = .ok (.iaload, 1) := by decide +kernel
theorem dX11_gift_95 : decode cX11_gift 95 = .ok (.iconst 1, 1) := by decide +kernel
theorem dX11_gift_96 : decode cX11_gift 96 = .ok (.if_icmp .ne 12, 3) := by decide +kernel
theorem dX11_gift_99 : decode cX11_gift 99 = .ok (.iload 6, 2) := by decide +kernel
theorem dX11_gift_101 : decode cX11_gift 101 = .ok (.iconst 2, 1) := by decide +kernel
theorem dX11_gift_102 : decode cX11_gift 102 = .ok (.if_icmp .le 6, 3) := by decide +kernel
theorem dX11_gift_105 : decode cX11_gift 105 = .ok (.bipush (-2), 2) := by decide +kernel
theorem dX11_gift_107 : decode cX11_gift 107 = .ok (.ireturn, 1) := by decide +kernel
theorem dX11_gift_108 : decode cX11_gift 108 = .ok (.aload_n 0, 1) := by decide +kernel
theorem dX11_gift_109 : decode cX11_gift 109 = .ok (.iload_n 1, 1) := by decide +kernel
theorem dX11_gift_110 : decode cX11_gift 110 = .ok (.iload_n 2, 1) := by decide +kernel
theorem dX11_gift_111 : decode cX11_gift 111 = .ok (.iconst 1, 1) := by decide +kernel
theorem dX11_gift_112 : decode cX11_gift 112 = .ok (.invokevirtual 170, 3) := by decide +kernel
theorem dX11_gift_115 : decode cX11_gift 115 = .ok (.ifCond .ne 6, 3) := by decide +kernel
theorem dX11_gift_118 : decode cX11_gift 118 = .ok (.bipush (-2), 2) := by decide +kernel
theorem dX11_gift_120 : decode cX11_gift 120 = .ok (.ireturn, 1) := by decide +kernel
theorem dX11_gift_121 : decode cX11_gift 121 = .ok (.aload_n 0, 1) := by decide +kernel
theorem dX11_gift_122 : decode cX11_gift 122 = .ok (.getfield 33, 3) := by decide +kernel
theorem dX11_gift_125 : decode cX11_gift 125 = .ok (.iload 4, 2) := by decide +kernel
theorem dX11_gift_127 : decode cX11_gift 127 = .ok (.bipush 8, 2) := by decide +kernel
theorem dX11_gift_129 : decode cX11_gift 129 = .ok (.invokevirtual 204, 3) := by decide +kernel
theorem dX11_gift_132 : decode cX11_gift 132 = .ok (.ireturn, 1) := by decide +kernel
theorem dX11_bin_0 : decode cX11_bin 0 = .ok (.aload_n 0, 1) := by decide +kernel
theorem dX11_bin_1 : decode cX11_bin 1 = .ok (.getfield 33, 3) := by decide +kernel
theorem dX11_bin_4 : decode cX11_bin 4 = .ok (.iload_n 1, 1) := by decide +kernel
theorem dX11_bin_5 : decode cX11_bin 5 = .ok (.invokevirtual 165, 3) := by decide +kernel
theorem dX11_bin_8 : decode cX11_bin 8 = .ok (.ifCond .eq 23, 3) := by decide +kernel
theorem dX11_bin_11 : decode cX11_bin 11 = .ok (.iconst 1, 1) := by decide +kernel
theorem dX11_bin_12 : decode cX11_bin 12 = .ok (.iload_n 2, 1) := by decide +kernel
theorem dX11_bin_13 : decode cX11_bin 13 = .ok (.sipush 999, 3) := by decide +kernel
theorem dX11_bin_16 : decode cX11_bin 16 = .ok (.invokestatic 110, 3) := by decide +kernel
theorem dX11_bin_19 : decode cX11_bin 19 = .ok (.ifCond .eq 12, 3) := by decide +kernel
theorem dX11_bin_22 : decode cX11_bin 22 = .ok (.iconst 0, 1) := by decide +kernel
theorem dX11_bin_23 : decode cX11_bin 23 = .ok (.iload_n 3, 1) := by decide +kernel
theorem dX11_bin_24 : decode cX11_bin 24 = .ok (.iconst 1, 1) := by decide +kernel
theorem dX11_bin_25 : decode cX11_bin 25 = .ok (.invokestatic 110, 3) := by decide +kernel
theorem dX11_bin_28 : decode cX11_bin 28 = .ok (.ifCond .ne 5, 3) := by decide +kernel
theorem dX11_bin_31 : decode cX11_bin 31 = .ok (.iconst (-1), 1) := by decide +kernel
theorem dX11_bin_32 : decode cX11_bin 32 = .ok (.ireturn, 1) := by decide +kernel
theorem dX11_bin_33 : decode cX11_bin 33 = .ok (.iload_n 2, 1) := by decide +kernel
theorem dX11_bin_34 : decode cX11_bin 34 = .ok (.aload_n 0, 1) := by decide +kernel
theorem dX11_bin_35 : decode cX11_bin 35 = .ok (.getfield 33, 3) := by decide +kernel
theorem dX11_bin_38 : decode cX11_bin 38 = .ok (.getfield 159, 3) := by decide +kernel
theorem dX11_bin_41 : decode cX11_bin 41 = .ok (.iload_n 1, 1) := by decide +kernel
theorem dX11_bin_42 : decode cX11_bin 42 = .ok (.aaload, 1) := by decide +kernel
theorem dX11_bin_43 : decode cX11_bin 43 = .ok (.iconst 5, 1) := by decide +kernel
theorem dX11_bin_44 : decode cX11_bin 44 = .ok (.iaload, 1) := by decide +kernel
theorem dX11_bin_45 : decode cX11_bin 45 = .ok (.if_icmp .le 6, 3) := by decide +kernel
theorem dX11_bin_48 : decode cX11_bin 48 = .ok (.bipush (-2), 2) := by decide +kernel
theorem dX11_bin_50 : decode cX11_bin 50 = .ok (.ireturn, 1) := by decide +kernel
theorem dX11_bin_51 : decode cX11_bin 51 = .ok (.iload_n 3, 1) := by decide +kernel
theorem dX11_bin_52 : decode cX11_bin 52 = .ok (.iconst 1, 1) := by decide +kernel
theorem dX11_bin_53 : decode cX11_bin 53 = .ok (.if_icmp .ne 35, 3) := by decide +kernel
theorem dX11_bin_56 : decode cX11_bin 56 = .ok (.aload_n 0, 1) := by decide +kernel
theorem dX11_bin_57 : decode cX11_bin 57 = .ok (.getfield 33, 3) := by decide +kernel
theorem dX11_bin_60 : decode cX11_bin 60 = .ok (.getfield 324, 3) := by decide +kernel
theorem dX11_bin_63 : decode cX11_bin 63 = .ok (.sipush 400, 3) := by decide +kernel
theorem dX11_bin_66 : decode cX11_bin 66 = .ok (.if_icmp .lt 6, 3) := by decide +kernel
theorem dX11_bin_69 : decode cX11_bin 69 = .ok (.bipush (-3), 2) := by decide +kernel
theorem dX11_bin_71 : decode cX11_bin 71 = .ok (.ireturn, 1) := by decide +kernel
theorem dX11_bin_72 : decode cX11_bin 72 = .ok (.aload_n 0, 1) := by decide +kernel
theorem dX11_bin_73 : decode cX11_bin 73 = .ok (.getfield 33, 3) := by decide +kernel
theorem dX11_bin_76 : decode cX11_bin 76 = .ok (.iload_n 1, 1) := by decide +kernel
theorem dX11_bin_77 : decode cX11_bin 77 = .ok (.iload_n 2, 1) := by decide +kernel
theorem dX11_bin_78 : decode cX11_bin 78 = .ok (.aload_n 0, 1) := by decide +kernel
theorem dX11_bin_79 : decode cX11_bin 79 = .ok (.getfield 10, 3) := by decide +kernel
theorem dX11_bin_82 : decode cX11_bin 82 = .ok (.invokevirtual 152, 3) := by decide +kernel
theorem dX11_bin_85 : decode cX11_bin 85 = .ok (.invokevirtual 327, 3) := by decide +kernel
theorem dX11_bin_88 : decode cX11_bin 88 = .ok (.aload_n 0, 1) := by decide +kernel
theorem dX11_bin_89 : decode cX11_bin 89 = .ok (.iload_n 1, 1) := by decide +kernel
theorem dX11_bin_90 : decode cX11_bin 90 = .ok (.iload_n 2, 1) := by decide +kernel
theorem dX11_bin_91 : decode cX11_bin 91 = .ok (.invokevirtual 331, 3) := by decide +kernel
theorem dX11_bin_94 : decode cX11_bin 94 = .ok (.aload_n 0, 1) := by decide +kernel
theorem dX11_bin_95 : decode cX11_bin 95 = .ok (.getfield 33, 3) := by decide +kernel
theorem dX11_bin_98 : decode cX11_bin 98 = .ok (.getfield 159, 3) := by decide +kernel
theorem dX11_bin_101 : decode cX11_bin 101 = .ok (.iload_n 1, 1) := by decide +kernel
theorem dX11_bin_102 : decode cX11_bin 102 = .ok (.aaload, 1) := by decide +kernel
theorem dX11_bin_103 : decode cX11_bin 103 = .ok (.iconst 5, 1) := by decide +kernel
theorem dX11_bin_104 : decode cX11_bin 104 = .ok (.iaload, 1) := by decide +kernel
theorem dX11_bin_105 : decode cX11_bin 105 = .ok (.ireturn, 1) := by decide +kernel
theorem dX11_tossed_0 : decode cX11_tossed 0 = .ok (.iload_n 1, 1) := by decide +kernel
theorem dX11_tossed_1 : decode cX11_tossed 1 = .ok (.sipush 1500, 3) := by decide +kernel
theorem dX11_tossed_4 : decode cX11_tossed 4 = .ok (.invokestatic 99, 3) := by decide +kernel
theorem dX11_tossed_7 : decode cX11_tossed 7 = .ok (.ifCond .ne 5, 3) := by decide +kernel
theorem dX11_tossed_10 : decode cX11_tossed 10 = .ok (.iconst (-1), 1) := by decide +kernel
theorem dX11_tossed_11 : decode cX11_tossed 11 = .ok (.ireturn, 1) := by decide +kernel
theorem dX11_tossed_12 : decode cX11_tossed 12 = .ok (.aload_n 0, 1) := by decide +kernel
theorem dX11_tossed_13 : decode cX11_tossed 13 = .ok (.getfield 10, 3) := by decide +kernel
theorem dX11_tossed_16 : decode cX11_tossed 16 = .ok (.getfield 335, 3) := by decide +kernel
theorem dX11_tossed_19 : decode cX11_tossed 19 = .ok (.iload_n 1, 1) := by decide +kernel
theorem dX11_tossed_20 : decode cX11_tossed 20 = .ok (.iaload, 1) := by decide +kernel
theorem dX11_tossed_21 : decode cX11_tossed 21 = .ok (.ireturn, 1) := by decide +kernel
theorem dX11_isBad_0 : decode cX11_isBad 0 = .ok (.aload_n 0, 1) := by decide +kernel
theorem dX11_isBad_1 : decode cX11_isBad 1 = .ok (.getfield 26, 3) := by decide +kernel
theorem dX11_isBad_4 : decode cX11_isBad 4 = .ok (.iload_n 1, 1) := by decide +kernel
theorem dX11_isBad_5 : decode cX11_isBad 5 = .ok (.invokevirtual 117, 3) := by decide +kernel
theorem dX11_isBad_8 : decode cX11_isBad 8 = .ok (.ifCond .eq 22, 3) := by decide +kernel
theorem dX11_isBad_11 : decode cX11_isBad 11 = .ok (.iload_n 2, 1) := by decide +kernel
theorem dX11_isBad_12 : decode cX11_isBad 12 = .ok (.bipush 100, 2) := by decide +kernel
theorem dX11_isBad_14 : decode cX11_isBad 14 = .ok (.invokestatic 99, 3) := by decide +kernel
theorem dX11_isBad_17 : decode cX11_isBad 17 = .ok (.ifCond .eq 13, 3) := by decide +kernel
theorem dX11_isBad_20 : decode cX11_isBad 20 = .ok (.iload_n 3, 1) := by decide +kernel
theorem dX11_isBad_21 : decode cX11_isBad 21 = .ok (.sipush 1500, 3) := by decide +kernel
theorem dX11_isBad_24 : decode cX11_isBad 24 = .ok (.invokestatic 99, 3) := by decide +kernel
theorem dX11_isBad_27 : decode cX11_isBad 27 = .ok (.ifCond .ne 5, 3) := by decide +kernel
theorem dX11_isBad_30 : decode cX11_isBad 30 = .ok (.iconst (-1), 1) := by decide +kernel
theorem dX11_isBad_31 : decode cX11_isBad 31 = .ok (.ireturn, 1) := by decide +kernel
theorem dX11_isBad_32 : decode cX11_isBad 32 = .ok (.aload_n 0, 1) := by decide +kernel
theorem dX11_isBad_33 : decode cX11_isBad 33 = .ok (.getfield 33, 3) := by decide +kernel
theorem dX11_isBad_36 : decode cX11_isBad 36 = .ok (.iload_n 1, 1) := by decide +kernel
theorem dX11_isBad_37 : decode cX11_isBad 37 = .ok (.bipush 100, 2) := by decide +kernel
theorem dX11_isBad_39 : decode cX11_isBad 39 = .ok (.imul, 1) := by decide +kernel
theorem dX11_isBad_40 : decode cX11_isBad 40 = .ok (.iload_n 2, 1) := by decide +kernel
theorem dX11_isBad_41 : decode cX11_isBad 41 = .ok (.iadd, 1) := by decide +kernel
theorem dX11_isBad_42 : decode cX11_isBad 42 = .ok (.iload_n 3, 1) := by decide +kernel
theorem dX11_isBad_43 : decode cX11_isBad 43 = .ok (.invokevirtual 338, 3) := by decide +kernel
theorem dX11_isBad_46 : decode cX11_isBad 46 = .ok (.ifCond .eq 7, 3) := by decide +kernel
theorem dX11_isBad_49 : decode cX11_isBad 49 = .ok (.iconst 1, 1) := by decide +kernel
theorem dX11_isBad_50 : decode cX11_isBad 50 = .ok (.goto 4, 3) := by decide +kernel
theorem dX11_isBad_53 : decode cX11_isBad 53 = .ok (.iconst 0, 1) := by decide +kernel
theorem dX11_isBad_54 : decode cX11_isBad 54 = .ok (.ireturn, 1) := by decide +kernel
theorem dX11_since_0 : decode cX11_since 0 = .ok (.aload_n 0, 1) := by decide +kernel
theorem dX11_since_1 : decode cX11_since 1 = .ok (.getfield 26, 3) := by decide +kernel
theorem dX11_since_4 : decode cX11_since 4 = .ok (.iload_n 1, 1) := by decide +kernel
theorem dX11_since_5 : decode cX11_since 5 = .ok (.invokevirtual 117, 3) := by decide +kernel
theorem dX11_since_8 : decode cX11_since 8 = .ok (.ifCond .eq 12, 3) := by decide +kernel
theorem dX11_since_11 : decode cX11_since 11 = .ok (.iload_n 2, 1) := by decide +kernel
theorem dX11_since_12 : decode cX11_since 12 = .ok (.bipush 100, 2) := by decide +kernel
theorem dX11_since_14 : decode cX11_since 14 = .ok (.invokestatic 99, 3) := by decide +kernel
theorem dX11_since_17 : decode cX11_since 17 = .ok (.ifCond .ne 5, 3) := by decide +kernel
theorem dX11_since_20 : decode cX11_since 20 = .ok (.iconst (-1), 1) := by decide +kernel
theorem dX11_since_21 : decode cX11_since 21 = .ok (.ireturn, 1) := by decide +kernel
theorem dX11_since_22 : decode cX11_since 22 = .ok (.aload_n 0, 1) := by decide +kernel
theorem dX11_since_23 : decode cX11_since 23 = .ok (.getfield 33, 3) := by decide +kernel
theorem dX11_since_26 : decode cX11_since 26 = .ok (.iload_n 1, 1) := by decide +kernel
theorem dX11_since_27 : decode cX11_since 27 = .ok (.bipush 100, 2) := by decide +kernel
theorem dX11_since_29 : decode cX11_since 29 = .ok (.imul, 1) := by decide +kernel
theorem dX11_since_30 : decode cX11_since 30 = .ok (.iload_n 2, 1) := by decide +kernel
theorem dX11_since_31 : decode cX11_since 31 = .ok (.iadd, 1) := by decide +kernel
theorem dX11_since_32 : decode cX11_since 32 = .ok (.invokevirtual 341, 3) := by decide +kernel
theorem dX11_since_35 : decode cX11_since 35 = .ok (.ireturn, 1) := by decide +kernel
theorem dX11_till_0 : decode cX11_till 0 = .ok (.aload_n 0, 1) := by decide +kernel
theorem dX11_till_1 : decode cX11_till 1 = .ok (.getfield 19, 3) := by decide +kernel
theorem dX11_till_4 : decode cX11_till 4 = .ok (.getfield 103, 3) := by decide +kernel
theorem dX11_till_7 : decode cX11_till 7 = .ok (.iload_n 1, 1) := by decide +kernel
theorem dX11_till_8 : decode cX11_till 8 = .ok (.invokevirtual 272, 3) := by decide +kernel
theorem dX11_till_11 : decode cX11_till 11 = .ok (.ifCond .ne 5, 3) := by decide +kernel
theorem dX11_till_14 : decode cX11_till 14 = .ok (.iconst (-1), 1) := by decide +kernel
theorem dX11_till_15 : decode cX11_till 15 = .ok (.ireturn, 1) := by decide +kernel
theorem dX11_till_16 : decode cX11_till 16 = .ok (.aload_n 0, 1) := by decide +kernel
theorem dX11_till_17 : decode cX11_till 17 = .ok (.getfield 19, 3) := by decide +kernel
theorem dX11_till_20 : decode cX11_till 20 = .ok (.getfield 207, 3) := by decide +kernel
theorem dX11_till_23 : decode cX11_till 23 = .ok (.iload_n 1, 1) := by decide +kernel
theorem dX11_till_24 : decode cX11_till 24 = .ok (.iaload, 1) := by decide +kernel
theorem dX11_till_25 : decode cX11_till 25 = .ok (.ireturn, 1) := by decide +kernel
theorem dX11_count_0 : decode cX11_count 0 = .ok (.iload_n 1, 1) := by decide +kernel
theorem dX11_count_1 : decode cX11_count 1 = .ok (.tableswitch 190 0 13 #[71, 82, 90, 98, 106, 114, 122, 130, 138, 143, 152, 162, 172, 182], 71) := by decide +kernel
theorem dX11_count_72 : decode cX11_count 72 = .ok (.aload_n 0, 1) := by decide +kernel
theorem dX11_count_73 : decode cX11_count 73 = .ok (.getfield 19, 3) := by decide +kernel
theorem dX11_count_76 : decode cX11_count 76 = .ok (.getfield 103, 3) := by decide +kernel
theorem dX11_count_79 : decode cX11_count 79 = .ok (.getfield 344, 3) := by decide +kernel
theorem dX11_count_82 : decode cX11_count 82 = .ok (.ireturn, 1) := by decide +kernel
theorem dX11_count_83 : decode cX11_count 83 = .ok (.aload_n 0, 1) := by decide +kernel
theorem dX11_count_84 : decode cX11_count 84 = .ok (.getfield 26, 3) := by decide +kernel
theorem dX11_count_87 : decode cX11_count 87 = .ok (.getfield 345, 3) := by decide +kernel
theorem dX11_count_90 : decode cX11_count 90 = .ok (.ireturn, 1) := by decide +kernel
theorem dX11_count_91 : decode cX11_count 91 = .ok (.aload_n 0, 1) := by decide +kernel
theorem dX11_count_92 : decode cX11_count 92 = .ok (.getfield 33, 3) := by decide +kernel
theorem dX11_count_95 : decode cX11_count 95 = .ok (.getfield 346, 3) := by decide +kernel
theorem dX11_count_98 : decode cX11_count 98 = .ok (.ireturn, 1) := by decide +kernel
theorem dX11_count_99 : decode cX11_count 99 = .ok (.aload_n 0, 1) := by decide +kernel
theorem dX11_count_100 : decode cX11_count 100 = .ok (.getfield 61, 3) := by decide +kernel
theorem dX11_count_103 : decode cX11_count 103 = .ok (.getfield 203, 3) := by decide +kernel
theorem dX11_count_106 : decode cX11_count 106 = .ok (.ireturn, 1) := by decide +kernel
theorem dX11_count_107 : decode cX11_count 107 = .ok (.aload_n 0, 1) := by decide +kernel
theorem dX11_count_108 : decode cX11_count 108 = .ok (.getfield 47, 3) := by decide +kernel
theorem dX11_count_111 : decode cX11_count 111 = .ok (.getfield 180, 3) := by decide +kernel
theorem dX11_count_114 : decode cX11_count 114 = .ok (.ireturn, 1) := by decide +kernel
theorem dX11_count_115 : decode cX11_count 115 = .ok (.aload_n 0, 1) := by decide +kernel
theorem dX11_count_116 : decode cX11_count 116 = .ok (.getfield 10, 3) := by decide +kernel
theorem dX11_count_119 : decode cX11_count 119 = .ok (.getfield 132, 3) := by decide +kernel
theorem dX11_count_122 : decode cX11_count 122 = .ok (.ireturn, 1) := by decide +kernel
theorem dX11_count_123 : decode cX11_count 123 = .ok (.aload_n 0, 1) := by decide +kernel
theorem dX11_count_124 : decode cX11_count 124 = .ok (.getfield 84, 3) := by decide +kernel
theorem dX11_count_127 : decode cX11_count 127 = .ok (.getfield 344, 3) := by decide +kernel
theorem dX11_count_130 : decode cX11_count 130 = .ok (.ireturn, 1) := by decide +kernel
theorem dX11_count_131 : decode cX11_count 131 = .ok (.aload_n 0, 1) := by decide +kernel
theorem dX11_count_132 : decode cX11_count 132 = .ok (.getfield 40, 3) := by decide +kernel
theorem dX11_count_135 : decode cX11_count 135 = .ok (.getfield 174, 3) := by decide +kernel
theorem dX11_count_138 : decode cX11_count 138 = .ok (.ireturn, 1) := by decide +kernel
theorem dX11_count_139 : decode cX11_count 139 = .ok (.aload_n 0, 1) := by decide +kernel
theorem dX11_count_140 : decode cX11_count 140 = .ok (.getfield 95, 3) := by decide +kernel
theorem dX11_count_143 : decode cX11_count 143 = .ok (.ireturn, 1) := by decide +kernel
theorem dX11_count_144 : decode cX11_count 144 = .ok (.aload_n 0, 1) := by decide +kernel
theorem dX11_count_145 : decode cX11_count 145 = .ok (.getfield 33, 3) := by decide +kernel
theorem dX11_count_148 : decode cX11_count 148 = .ok (.iconst 5, 1) := by decide +kernel
theorem dX11_count_149 : decode cX11_count 149 = .ok (.invokevirtual 347, 3) := by decide +kernel
theorem dX11_count_152 : decode cX11_count 152 = .ok (.ireturn, 1) := by decide +kernel
theorem dX11_count_153 : decode cX11_count 153 = .ok (.aload_n 0, 1) := by decide +kernel
theorem dX11_count_154 : decode cX11_count 154 = .ok (.getfield 33, 3) := by decide +kernel
theorem dX11_count_157 : decode cX11_count 157 = .ok (.bipush 6, 2) := by decide +kernel
theorem dX11_count_159 : decode cX11_count 159 = .ok (.invokevirtual 347, 3) := by decide +kernel
theorem dX11_count_162 : decode cX11_count 162 = .ok (.ireturn, 1) := by decide +kernel
theorem dX11_count_163 : decode cX11_count 163 = .ok (.aload_n 0, 1) := by decide +kernel
theorem dX11_count_164 : decode cX11_count 164 = .ok (.getfield 33, 3) := by decide +kernel
theorem dX11_count_167 : decode cX11_count 167 = .ok (.bipush 8, 2) := by decide +kernel
theorem dX11_count_169 : decode cX11_count 169 = .ok (.invokevirtual 347, 3) := by decide +kernel
theorem dX11_count_172 : decode cX11_count 172 = .ok (.ireturn, 1) := by decide +kernel
theorem dX11_count_173 : decode cX11_count 173 = .ok (.aload_n 0, 1) := by decide +kernel
theorem dX11_count_174 : decode cX11_count 174 = .ok (.getfield 33, 3) := by decide +kernel
theorem dX11_count_177 : decode cX11_count 177 = .ok (.bipush 9, 2) := by decide +kernel
theorem dX11_count_179 : decode cX11_count 179 = .ok (.invokevirtual 347, 3) := by decide +kernel
theorem dX11_count_182 : decode cX11_count 182 = .ok (.ireturn, 1) := by decide +kernel
theorem dX11_count_183 : decode cX11_count 183 = .ok (.aload_n 0, 1) := by decide +kernel
theorem dX11_count_184 : decode cX11_count 184 = .ok (.getfield 61, 3) := by decide +kernel
theorem dX11_count_187 : decode cX11_count 187 = .ok (.invokevirtual 350, 3) := by decide +kernel
theorem dX11_count_190 : decode cX11_count 190 = .ok (.ireturn, 1) := by decide +kernel
theorem dX11_count_191 : decode cX11_count 191 = .ok (.iconst (-1), 1) := by decide +kernel
theorem dX11_count_192 : decode cX11_count 192 = .ok (.ireturn, 1) := by decide +kernel
theorem dX11_isBelow_0 : decode cX11_isBelow 0 = .ok (.iload_n 0, 1) := by decide +kernel
theorem dX11_isBelow_1 : decode cX11_isBelow 1 = .ok (.ifCond .lt 12, 3) := by decide +kernel
theorem dX11_isBelow_4 : decode cX11_isBelow 4 = .ok (.iload_n 0, 1) := by decide +kernel
theorem dX11_isBelow_5 : decode cX11_isBelow 5 = .ok (.iload_n 1, 1) := by decide +kernel
theorem dX11_isBelow_6 : decode cX11_isBelow 6 = .ok (.if_icmp .ge 7, 3) := by decide +kernel
theorem dX11_isBelow_9 : decode cX11_isBelow 9 = .ok (.iconst 1, 1) := by decide +kernel
theorem dX11_isBelow_10 : decode cX11_isBelow 10 = .ok (.goto 4, 3) := by decide +kernel
theorem dX11_isBelow_13 : decode cX11_isBelow 13 = .ok (.iconst 0, 1) := by decide +kernel
theorem dX11_isBelow_14 : decode cX11_isBelow 14 = .ok (.ireturn, 1) := by decide +kernel
theorem dX11_isFrom_0 : decode cX11_isFrom 0 = .ok (.iload_n 1, 1) := by decide +kernel
theorem dX11_isFrom_1 : decode cX11_isFrom 1 = .ok (.iload_n 0, 1) := by decide +kernel
theorem dX11_isFrom_2 : decode cX11_isFrom 2 = .ok (.if_icmp .lt 12, 3) := by decide +kernel
theorem dX11_isFrom_5 : decode cX11_isFrom 5 = .ok (.iload_n 1, 1) := by decide +kernel
theorem dX11_isFrom_6 : decode cX11_isFrom 6 = .ok (.iload_n 2, 1) := by decide +kernel
theorem dX11_isFrom_7 : decode cX11_isFrom 7 = .ok (.if_icmp .gt 7, 3) := by decide +kernel
theorem dX11_isFrom_10 : decode cX11_isFrom 10 = .ok (.iconst 1, 1) := by decide +kernel
theorem dX11_isFrom_11 : decode cX11_isFrom 11 = .ok (.goto 4, 3) := by decide +kernel
theorem dX11_isFrom_14 : decode cX11_isFrom 14 = .ok (.iconst 0, 1) := by decide +kernel
theorem dX11_isFrom_15 : decode cX11_isFrom 15 = .ok (.ireturn, 1) := by decide +kernel
theorem dX11_areDays_0 : decode cX11_areDays 0 = .ok (.iload_n 0, 1) := by decide +kernel
theorem dX11_areDays_1 : decode cX11_areDays 1 = .ok (.ifCond .lt 19, 3) := by decide +kernel
theorem dX11_areDays_4 : decode cX11_areDays 4 = .ok (.iload_n 0, 1) := by decide +kernel
theorem dX11_areDays_5 : decode cX11_areDays 5 = .ok (.iload_n 1, 1) := by decide +kernel
theorem dX11_areDays_6 : decode cX11_areDays 6 = .ok (.if_icmp .gt 14, 3) := by decide +kernel
theorem dX11_areDays_9 : decode cX11_areDays 9 = .ok (.iload_n 1, 1) := by decide +kernel
theorem dX11_areDays_10 : decode cX11_areDays 10 = .ok (.sipush 1500, 3) := by decide +kernel
theorem dX11_areDays_13 : decode cX11_areDays 13 = .ok (.if_icmp .ge 7, 3) := by decide +kernel
theorem dX11_areDays_16 : decode cX11_areDays 16 = .ok (.iconst 1, 1) := by decide +kernel
theorem dX11_areDays_17 : decode cX11_areDays 17 = .ok (.goto 4, 3) := by decide +kernel
theorem dX11_areDays_20 : decode cX11_areDays 20 = .ok (.iconst 0, 1) := by decide +kernel
theorem dX11_areDays_21 : decode cX11_areDays 21 = .ok (.ireturn, 1) := by decide +kernel
theorem dX11_hasBoth_0 : decode cX11_hasBoth 0 = .ok (.aload_n 0, 1) := by decide +kernel
theorem dX11_hasBoth_1 : decode cX11_hasBoth 1 = .ok (.getfield 19, 3) := by decide +kernel
theorem dX11_hasBoth_4 : decode cX11_hasBoth 4 = .ok (.getfield 103, 3) := by decide +kernel
theorem dX11_hasBoth_7 : decode cX11_hasBoth 7 = .ok (.iload_n 1, 1) := by decide +kernel
theorem dX11_hasBoth_8 : decode cX11_hasBoth 8 = .ok (.invokevirtual 272, 3) := by decide +kernel
theorem dX11_hasBoth_11 : decode cX11_hasBoth 11 = .ok (.ifCond .eq 18, 3) := by decide +kernel
theorem dX11_hasBoth_14 : decode cX11_hasBoth 14 = .ok (.aload_n 0, 1) := by decide +kernel
theorem dX11_hasBoth_15 : decode cX11_hasBoth 15 = .ok (.getfield 26, 3) := by decide +kernel
theorem dX11_hasBoth_18 : decode cX11_hasBoth 18 = .ok (.iload_n 2, 1) := by decide +kernel
theorem dX11_hasBoth_19 : decode cX11_hasBoth 19 = .ok (.invokevirtual 117, 3) := by decide +kernel
theorem dX11_hasBoth_22 : decode cX11_hasBoth 22 = .ok (.ifCond .eq 7, 3) := by decide +kernel
theorem dX11_hasBoth_25 : decode cX11_hasBoth 25 = .ok (.iconst 1, 1) := by decide +kernel
theorem dX11_hasBoth_26 : decode cX11_hasBoth 26 = .ok (.goto 4, 3) := by decide +kernel
theorem dX11_hasBoth_29 : decode cX11_hasBoth 29 = .ok (.iconst 0, 1) := by decide +kernel
theorem dX11_hasBoth_30 : decode cX11_hasBoth 30 = .ok (.ireturn, 1) := by decide +kernel
theorem dX11_mayTell_0 : decode cX11_mayTell 0 = .ok (.aload_n 0, 1) := by decide +kernel
theorem dX11_mayTell_1 : decode cX11_mayTell 1 = .ok (.getfield 10, 3) := by decide +kernel
theorem dX11_mayTell_4 : decode cX11_mayTell 4 = .ok (.invokevirtual 353, 3) := by decide +kernel
theorem dX11_mayTell_7 : decode cX11_mayTell 7 = .ok (.ifCond .eq 26, 3) := by decide +kernel
theorem dX11_mayTell_10 : decode cX11_mayTell 10 = .ok (.aload_n 0, 1) := by decide +kernel
theorem dX11_mayTell_11 : decode cX11_mayTell 11 = .ok (.getfield 61, 3) := by decide +kernel
theorem dX11_mayTell_14 : decode cX11_mayTell 14 = .ok (.iload_n 1, 1) := by decide +kernel
theorem dX11_mayTell_15 : decode cX11_mayTell 15 = .ok (.iload_n 2, 1) := by decide +kernel
theorem dX11_mayTell_16 : decode cX11_mayTell 16 = .ok (.aload_n 0, 1) := by decide +kernel
theorem dX11_mayTell_17 : decode cX11_mayTell 17 = .ok (.getfield 10, 3) := by decide +kernel
theorem dX11_mayTell_20 : decode cX11_mayTell 20 = .ok (.getfield 132, 3) := by decide +kernel
theorem dX11_mayTell_23 : decode cX11_mayTell 23 = .ok (.invokevirtual 357, 3) := by decide +kernel
theorem dX11_mayTell_26 : decode cX11_mayTell 26 = .ok (.ifCond .ne 7, 3) := by decide +kernel
theorem dX11_mayTell_29 : decode cX11_mayTell 29 = .ok (.iconst 1, 1) := by decide +kernel
theorem dX11_mayTell_30 : decode cX11_mayTell 30 = .ok (.goto 4, 3) := by decide +kernel
theorem dX11_mayTell_33 : decode cX11_mayTell 33 = .ok (.iconst 0, 1) := by decide +kernel
theorem dX11_mayTell_34 : decode cX11_mayTell 34 = .ok (.ireturn, 1) := by decide +kernel
theorem dX11_isMorning_0 : decode cX11_isMorning 0 = .ok (.aload_n 0, 1) := by decide +kernel
theorem dX11_isMorning_1 : decode cX11_isMorning 1 = .ok (.iload_n 1, 1) := by decide +kernel
theorem dX11_isMorning_2 : decode cX11_isMorning 2 = .ok (.iload_n 2, 1) := by decide +kernel
theorem dX11_isMorning_3 : decode cX11_isMorning 3 = .ok (.invokevirtual 142, 3) := by decide +kernel
theorem dX11_isMorning_6 : decode cX11_isMorning 6 = .ok (.ifCond .eq 14, 3) := by decide +kernel
theorem dX11_isMorning_9 : decode cX11_isMorning 9 = .ok (.iload 4, 2) := by decide +kernel
theorem dX11_isMorning_11 : decode cX11_isMorning 11 = .ok (.sipush 1500, 3) := by decide +kernel
theorem dX11_isMorning_14 : decode cX11_isMorning 14 = .ok (.invokestatic 99, 3) := by decide +kernel
theorem dX11_isMorning_17 : decode cX11_isMorning 17 = .ok (.ifCond .ne 5, 3) := by decide +kernel
theorem dX11_isMorning_20 : decode cX11_isMorning 20 = .ok (.iconst 0, 1) := by decide +kernel
theorem dX11_isMorning_21 : decode cX11_isMorning 21 = .ok (.ireturn, 1) := by decide +kernel
theorem dX11_isMorning_22 : decode cX11_isMorning 22 = .ok (.iload_n 3, 1) := by decide +kernel
theorem dX11_isMorning_23 : decode cX11_isMorning 23 = .ok (.bipush 70, 2) := by decide +kernel
theorem dX11_isMorning_25 : decode cX11_isMorning 25 = .ok (.invokestatic 99, 3) := by decide +kernel
theorem dX11_isMorning_28 : decode cX11_isMorning 28 = .ok (.ifCond .eq 15, 3) := by decide +kernel
theorem dX11_isMorning_31 : decode cX11_isMorning 31 = .ok (.iload_n 3, 1) := by decide +kernel
theorem dX11_isMorning_32 : decode cX11_isMorning 32 = .ok (.bipush 10, 2) := by decide +kernel
theorem dX11_isMorning_34 : decode cX11_isMorning 34 = .ok (.irem, 1) := by decide +kernel
theorem dX11_isMorning_35 : decode cX11_isMorning 35 = .ok (.iconst 3, 1) := by decide +kernel
theorem dX11_isMorning_36 : decode cX11_isMorning 36 = .ok (.if_icmp .ge 7, 3) := by decide +kernel
theorem dX11_isMorning_39 : decode cX11_isMorning 39 = .ok (.iconst 1, 1) := by decide +kernel
theorem dX11_isMorning_40 : decode cX11_isMorning 40 = .ok (.goto 4, 3) := by decide +kernel
theorem dX11_isMorning_43 : decode cX11_isMorning 43 = .ok (.iconst 0, 1) := by decide +kernel
theorem dX11_isMorning_44 : decode cX11_isMorning 44 = .ok (.ireturn, 1) := by decide +kernel
theorem dX11_askOf_0 : decode cX11_askOf 0 = .ok (.aload_n 0, 1) := by decide +kernel
theorem dX11_askOf_1 : decode cX11_askOf 1 = .ok (.getfield 33, 3) := by decide +kernel
theorem dX11_askOf_4 : decode cX11_askOf 4 = .ok (.getfield 159, 3) := by decide +kernel
theorem dX11_askOf_7 : decode cX11_askOf 7 = .ok (.iload_n 2, 1) := by decide +kernel
theorem dX11_askOf_8 : decode cX11_askOf 8 = .ok (.aaload, 1) := by decide +kernel
theorem dX11_askOf_9 : decode cX11_askOf 9 = .ok (.astore_n 3, 1) := by decide +kernel
theorem dX11_askOf_10 : decode cX11_askOf 10 = .ok (.aload_n 0, 1) := by decide +kernel
theorem dX11_askOf_11 : decode cX11_askOf 11 = .ok (.getfield 54, 3) := by decide +kernel
theorem dX11_askOf_14 : decode cX11_askOf 14 = .ok (.aload_n 0, 1) := by decide +kernel
theorem dX11_askOf_15 : decode cX11_askOf 15 = .ok (.getfield 10, 3) := by decide +kernel
theorem dX11_askOf_18 : decode cX11_askOf 18 = .ok (.invokevirtual 152, 3) := by decide +kernel
theorem dX11_askOf_21 : decode cX11_askOf 21 = .ok (.aload_n 3, 1) := by decide +kernel
theorem dX11_askOf_22 : decode cX11_askOf 22 = .ok (.iconst 3, 1) := by decide +kernel
theorem dX11_askOf_23 : decode cX11_askOf 23 = .ok (.iaload, 1) := by decide +kernel
theorem dX11_askOf_24 : decode cX11_askOf 24 = .ok (.isub, 1) := by decide +kernel
theorem dX11_askOf_25 : decode cX11_askOf 25 = .ok (.putfield 359, 3) := by decide +kernel
theorem dX11_askOf_28 : decode cX11_askOf 28 = .ok (.aload_n 0, 1) := by decide +kernel
theorem dX11_askOf_29 : decode cX11_askOf 29 = .ok (.getfield 54, 3) := by decide +kernel
theorem dX11_askOf_32 : decode cX11_askOf 32 = .ok (.aload_n 3, 1) := by decide +kernel
theorem dX11_askOf_33 : decode cX11_askOf 33 = .ok (.iconst 1, 1) := by decide +kernel
theorem dX11_askOf_34 : decode cX11_askOf 34 = .ok (.iaload, 1) := by decide +kernel
theorem dX11_askOf_35 : decode cX11_askOf 35 = .ok (.putfield 362, 3) := by decide +kernel
theorem dX11_askOf_38 : decode cX11_askOf 38 = .ok (.aload_n 0, 1) := by decide +kernel
theorem dX11_askOf_39 : decode cX11_askOf 39 = .ok (.getfield 54, 3) := by decide +kernel
theorem dX11_askOf_42 : decode cX11_askOf 42 = .ok (.aload_n 0, 1) := by decide +kernel
theorem dX11_askOf_43 : decode cX11_askOf 43 = .ok (.getfield 26, 3) := by decide +kernel
theorem dX11_askOf_46 : decode cX11_askOf 46 = .ok (.getfield 321, 3) := by decide +kernel
theorem dX11_askOf_49 : decode cX11_askOf 49 = .ok (.aload_n 3, 1) := by decide +kernel
theorem dX11_askOf_50 : decode cX11_askOf 50 = .ok (.iconst 1, 1) := by decide +kernel
theorem dX11_askOf_51 : decode cX11_askOf 51 = .ok (.iaload, 1) := by decide +kernel
theorem dX11_askOf_52 : decode cX11_askOf 52 = .ok (.iaload, 1) := by decide +kernel
theorem dX11_askOf_53 : decode cX11_askOf 53 = .ok (.putfield 365, 3) := by decide +kernel
theorem dX11_askOf_56 : decode cX11_askOf 56 = .ok (.aload_n 0, 1) := by decide +kernel
theorem dX11_askOf_57 : decode cX11_askOf 57 = .ok (.getfield 54, 3) := by decide +kernel
theorem dX11_askOf_60 : decode cX11_askOf 60 = .ok (.aload_n 0, 1) := by decide +kernel
theorem dX11_askOf_61 : decode cX11_askOf 61 = .ok (.getfield 10, 3) := by decide +kernel
theorem dX11_askOf_64 : decode cX11_askOf 64 = .ok (.invokevirtual 215, 3) := by decide +kernel
theorem dX11_askOf_67 : decode cX11_askOf 67 = .ok (.putfield 367, 3) := by decide +kernel
theorem dX11_askOf_70 : decode cX11_askOf 70 = .ok (.aload_n 0, 1) := by decide +kernel
theorem dX11_askOf_71 : decode cX11_askOf 71 = .ok (.getfield 54, 3) := by decide +kernel
theorem dX11_askOf_74 : decode cX11_askOf 74 = .ok (.aload_n 0, 1) := by decide +kernel
theorem dX11_askOf_75 : decode cX11_askOf 75 = .ok (.getfield 10, 3) := by decide +kernel
theorem dX11_askOf_78 : decode cX11_askOf 78 = .ok (.invokevirtual 135, 3) := by decide +kernel
theorem dX11_askOf_81 : decode cX11_askOf 81 = .ok (.putfield 369, 3) := by decide +kernel
theorem dX11_askOf_84 : decode cX11_askOf 84 = .ok (.aload_n 0, 1) := by decide +kernel
theorem dX11_askOf_85 : decode cX11_askOf 85 = .ok (.getfield 54, 3) := by decide +kernel
theorem dX11_askOf_88 : decode cX11_askOf 88 = .ok (.aload_n 0, 1) := by decide +kernel
theorem dX11_askOf_89 : decode cX11_askOf 89 = .ok (.getfield 19, 3) := by decide +kernel
theorem dX11_askOf_92 : decode cX11_askOf 92 = .ok (.getfield 145, 3) := by decide +kernel
theorem dX11_askOf_95 : decode cX11_askOf 95 = .ok (.aload_n 3, 1) := by decide +kernel
theorem dX11_askOf_96 : decode cX11_askOf 96 = .ok (.iconst 0, 1) := by decide +kernel
theorem dX11_askOf_97 : decode cX11_askOf 97 = .ok (.iaload, 1) := by decide +kernel
theorem dX11_askOf_98 : decode cX11_askOf 98 = .ok (.aaload, 1) := by decide +kernel
theorem dX11_askOf_99 : decode cX11_askOf 99 = .ok (.aload_n 3, 1) := by decide +kernel
theorem dX11_askOf_100 : decode cX11_askOf 100 = .ok (.iconst 1, 1) := by decide +kernel
theorem dX11_askOf_101 : decode cX11_askOf 101 = .ok (.iaload, 1) := by decide +kernel
theorem dX11_askOf_102 : decode cX11_askOf 102 = .ok (.iaload, 1) := by decide +kernel
theorem dX11_askOf_103 : decode cX11_askOf 103 = .ok (.putfield 370, 3) := by decide +kernel
theorem dX11_askOf_106 : decode cX11_askOf 106 = .ok (.aload_n 0, 1) := by decide +kernel
theorem dX11_askOf_107 : decode cX11_askOf 107 = .ok (.getfield 54, 3) := by decide +kernel
theorem dX11_askOf_110 : decode cX11_askOf 110 = .ok (.aload_n 0, 1) := by decide +kernel
theorem dX11_askOf_111 : decode cX11_askOf 111 = .ok (.getfield 19, 3) := by decide +kernel
theorem dX11_askOf_114 : decode cX11_askOf 114 = .ok (.getfield 149, 3) := by decide +kernel
theorem dX11_askOf_117 : decode cX11_askOf 117 = .ok (.aload_n 3, 1) := by decide +kernel
theorem dX11_askOf_118 : decode cX11_askOf 118 = .ok (.iconst 0, 1) := by decide +kernel
theorem dX11_askOf_119 : decode cX11_askOf 119 = .ok (.iaload, 1) := by decide +kernel
theorem dX11_askOf_120 : decode cX11_askOf 120 = .ok (.aaload, 1) := by decide +kernel
theorem dX11_askOf_121 : decode cX11_askOf 121 = .ok (.aload_n 3, 1) := by decide +kernel
theorem dX11_askOf_122 : decode cX11_askOf 122 = .ok (.iconst 1, 1) := by decide +kernel
theorem dX11_askOf_123 : decode cX11_askOf 123 = .ok (.iaload, 1) := by decide +kernel
theorem dX11_askOf_124 : decode cX11_askOf 124 = .ok (.iaload, 1) := by decide +kernel
theorem dX11_askOf_125 : decode cX11_askOf 125 = .ok (.putfield 372, 3) := by decide +kernel
theorem dX11_askOf_128 : decode cX11_askOf 128 = .ok (.aload_n 0, 1) := by decide +kernel
theorem dX11_askOf_129 : decode cX11_askOf 129 = .ok (.getfield 54, 3) := by decide +kernel
theorem dX11_askOf_132 : decode cX11_askOf 132 = .ok (.aload_n 3, 1) := by decide +kernel
theorem dX11_askOf_133 : decode cX11_askOf 133 = .ok (.iconst 0, 1) := by decide +kernel
theorem dX11_askOf_134 : decode cX11_askOf 134 = .ok (.iaload, 1) := by decide +kernel
theorem dX11_askOf_135 : decode cX11_askOf 135 = .ok (.putfield 374, 3) := by decide +kernel
theorem dX11_askOf_138 : decode cX11_askOf 138 = .ok (.aload_n 0, 1) := by decide +kernel
theorem dX11_askOf_139 : decode cX11_askOf 139 = .ok (.getfield 47, 3) := by decide +kernel
theorem dX11_askOf_142 : decode cX11_askOf 142 = .ok (.iload_n 1, 1) := by decide +kernel
theorem dX11_askOf_143 : decode cX11_askOf 143 = .ok (.aload_n 0, 1) := by decide +kernel
theorem dX11_askOf_144 : decode cX11_askOf 144 = .ok (.getfield 54, 3) := by decide +kernel
theorem dX11_askOf_147 : decode cX11_askOf 147 = .ok (.invokevirtual 377, 3) := by decide +kernel
theorem dX11_askOf_150 : decode cX11_askOf 150 = .ok (.ireturn, 1) := by decide +kernel
theorem dX11_lawToday_0 : decode cX11_lawToday 0 = .ok (.aload_n 0, 1) := by decide +kernel
theorem dX11_lawToday_1 : decode cX11_lawToday 1 = .ok (.getfield 47, 3) := by decide +kernel
theorem dX11_lawToday_4 : decode cX11_lawToday 4 = .ok (.iload_n 1, 1) := by decide +kernel
theorem dX11_lawToday_5 : decode cX11_lawToday 5 = .ok (.aload_n 0, 1) := by decide +kernel
theorem dX11_lawToday_6 : decode cX11_lawToday 6 = .ok (.getfield 10, 3) := by decide +kernel
theorem dX11_lawToday_9 : decode cX11_lawToday 9 = .ok (.invokevirtual 152, 3) := by decide +kernel
theorem dX11_lawToday_12 : decode cX11_lawToday 12 = .ok (.aload_n 0, 1) := by decide +kernel
theorem dX11_lawToday_13 : decode cX11_lawToday 13 = .ok (.getfield 10, 3) := by decide +kernel
theorem dX11_lawToday_16 : decode cX11_lawToday 16 = .ok (.invokevirtual 152, 3) := by decide +kernel
theorem dX11_lawToday_19 : decode cX11_lawToday 19 = .ok (.invokevirtual 194, 3) := by decide +kernel
theorem dX11_lawToday_22 : decode cX11_lawToday 22 = .ok (.ireturn, 1) := by decide +kernel
theorem dX11_lets_0 : decode cX11_lets 0 = .ok (.iload_n 1, 1) := by decide +kernel
theorem dX11_lets_1 : decode cX11_lets 1 = .ok (.ifCond .lt 12, 3) := by decide +kernel
theorem dX11_lets_4 : decode cX11_lets 4 = .ok (.aload_n 0, 1) := by decide +kernel
theorem dX11_lets_5 : decode cX11_lets 5 = .ok (.iload_n 1, 1) := by decide +kernel
theorem dX11_lets_6 : decode cX11_lets 6 = .ok (.iload_n 2, 1) := by decide +kernel
theorem dX11_lets_7 : decode cX11_lets 7 = .ok (.invokevirtual 197, 3) := by decide +kernel
theorem dX11_lets_10 : decode cX11_lets 10 = .ok (.ifCond .eq 7, 3) := by decide +kernel
theorem dX11_lets_13 : decode cX11_lets 13 = .ok (.iconst 1, 1) := by decide +kernel
theorem dX11_lets_14 : decode cX11_lets 14 = .ok (.goto 4, 3) := by decide +kernel
theorem dX11_lets_17 : decode cX11_lets 17 = .ok (.iconst 0, 1) := by decide +kernel
theorem dX11_lets_18 : decode cX11_lets 18 = .ok (.ireturn, 1) := by decide +kernel
theorem dX11_lineUp_0 : decode cX11_lineUp 0 = .ok (.aload_n 0, 1) := by decide +kernel
theorem dX11_lineUp_1 : decode cX11_lineUp 1 = .ok (.iload_n 3, 1) := by decide +kernel
theorem dX11_lineUp_2 : decode cX11_lineUp 2 = .ok (.invokevirtual 381, 3) := by decide +kernel
theorem dX11_lineUp_5 : decode cX11_lineUp 5 = .ok (.istore 4, 2) := by decide +kernel
theorem dX11_lineUp_7 : decode cX11_lineUp 7 = .ok (.iconst 0, 1) := by decide +kernel
theorem dX11_lineUp_8 : decode cX11_lineUp 8 = .ok (.istore 5, 2) := by decide +kernel
theorem dX11_lineUp_10 : decode cX11_lineUp 10 = .ok (.aload_n 0, 1) := by decide +kernel
theorem dX11_lineUp_11 : decode cX11_lineUp 11 = .ok (.getfield 33, 3) := by decide +kernel
theorem dX11_lineUp_14 : decode cX11_lineUp 14 = .ok (.iconst 0, 1) := by decide +kernel
theorem dX11_lineUp_15 : decode cX11_lineUp 15 = .ok (.putfield 384, 3) := by decide +kernel
theorem dX11_lineUp_18 : decode cX11_lineUp 18 = .ok (.iconst 0, 1) := by decide +kernel
theorem dX11_lineUp_19 : decode cX11_lineUp 19 = .ok (.istore 6, 2) := by decide +kernel
theorem dX11_lineUp_21 : decode cX11_lineUp 21 = .ok (.iload 6, 2) := by decide +kernel
theorem dX11_lineUp_23 : decode cX11_lineUp 23 = .ok (.aload_n 0, 1) := by decide +kernel
theorem dX11_lineUp_24 : decode cX11_lineUp 24 = .ok (.getfield 33, 3) := by decide +kernel
theorem dX11_lineUp_27 : decode cX11_lineUp 27 = .ok (.getfield 346, 3) := by decide +kernel
theorem dX11_lineUp_30 : decode cX11_lineUp 30 = .ok (.if_icmp .ge 85, 3) := by decide +kernel
theorem dX11_lineUp_33 : decode cX11_lineUp 33 = .ok (.aload_n 0, 1) := by decide +kernel
theorem dX11_lineUp_34 : decode cX11_lineUp 34 = .ok (.getfield 33, 3) := by decide +kernel
theorem dX11_lineUp_37 : decode cX11_lineUp 37 = .ok (.getfield 159, 3) := by decide +kernel
theorem dX11_lineUp_40 : decode cX11_lineUp 40 = .ok (.iload 6, 2) := by decide +kernel
theorem dX11_lineUp_42 : decode cX11_lineUp 42 = .ok (.aaload, 1) := by decide +kernel
theorem dX11_lineUp_43 : decode cX11_lineUp 43 = .ok (.astore 7, 2) := by decide +kernel
theorem dX11_lineUp_45 : decode cX11_lineUp 45 = .ok (.aload 7, 2) := by decide +kernel
theorem dX11_lineUp_47 : decode cX11_lineUp 47 = .ok (.iconst 0, 1) := by decide +kernel
theorem dX11_lineUp_48 : decode cX11_lineUp 48 = .ok (.iaload, 1) := by decide +kernel
theorem dX11_lineUp_49 : decode cX11_lineUp 49 = .ok (.iload_n 1, 1) := by decide +kernel
theorem dX11_lineUp_50 : decode cX11_lineUp 50 = .ok (.if_icmp .ne 22, 3) := by decide +kernel
theorem dX11_lineUp_53 : decode cX11_lineUp 53 = .ok (.aload 7, 2) := by decide +kernel
theorem dX11_lineUp_55 : decode cX11_lineUp 55 = .ok (.iconst 1, 1) := by decide +kernel
theorem dX11_lineUp_56 : decode cX11_lineUp 56 = .ok (.iaload, 1) := by decide +kernel
theorem dX11_lineUp_57 : decode cX11_lineUp 57 = .ok (.iload_n 2, 1) := by decide +kernel
theorem dX11_lineUp_58 : decode cX11_lineUp 58 = .ok (.if_icmp .ne 14, 3) := by decide +kernel
theorem dX11_lineUp_61 : decode cX11_lineUp 61 = .ok (.aload 7, 2) := by decide +kernel
theorem dX11_lineUp_63 : decode cX11_lineUp 63 = .ok (.iconst 5, 1) := by decide +kernel
theorem dX11_lineUp_64 : decode cX11_lineUp 64 = .ok (.iaload, 1) := by decide +kernel
theorem dX11_lineUp_65 : decode cX11_lineUp 65 = .ok (.ifCond .le 7, 3) := by decide +kernel
theorem dX11_lineUp_68 : decode cX11_lineUp 68 = .ok (.iconst 1, 1) := by decide +kernel
theorem dX11_lineUp_69 : decode cX11_lineUp 69 = .ok (.goto 4, 3) := by decide +kernel
theorem dX11_lineUp_72 : decode cX11_lineUp 72 = .ok (.iconst 0, 1) := by decide +kernel
theorem dX11_lineUp_73 : decode cX11_lineUp 73 = .ok (.istore 8, 2) := by decide +kernel
theorem dX11_lineUp_75 : decode cX11_lineUp 75 = .ok (.iload 8, 2) := by decide +kernel
theorem dX11_lineUp_77 : decode cX11_lineUp 77 = .ok (.ifCond .eq 32, 3) := by decide +kernel
theorem dX11_lineUp_80 : decode cX11_lineUp 80 = .ok (.aload_n 0, 1) := by decide +kernel
theorem dX11_lineUp_81 : decode cX11_lineUp 81 = .ok (.iload 4, 2) := by decide +kernel
theorem dX11_lineUp_83 : decode cX11_lineUp 83 = .ok (.iload 6, 2) := by decide +kernel
theorem dX11_lineUp_85 : decode cX11_lineUp 85 = .ok (.invokevirtual 387, 3) := by decide +kernel
theorem dX11_lineUp_88 : decode cX11_lineUp 88 = .ok (.ifCond .eq 21, 3) := by decide +kernel
theorem dX11_lineUp_91 : decode cX11_lineUp 91 = .ok (.aload_n 0, 1) := by decide +kernel
theorem dX11_lineUp_92 : decode cX11_lineUp 92 = .ok (.getfield 33, 3) := by decide +kernel
theorem dX11_lineUp_95 : decode cX11_lineUp 95 = .ok (.iload 6, 2) := by decide +kernel
theorem dX11_lineUp_97 : decode cX11_lineUp 97 = .ok (.invokevirtual 390, 3) := by decide +kernel
theorem dX11_lineUp_100 : decode cX11_lineUp 100 = .ok (.iload 5, 2) := by decide +kernel
theorem dX11_lineUp_102 : decode cX11_lineUp 102 = .ok (.aload 7, 2) := by decide +kernel
theorem dX11_lineUp_104 : decode cX11_lineUp 104 = .ok (.iconst 5, 1) := by decide +kernel
theorem dX11_lineUp_105 : decode cX11_lineUp 105 = .ok (.iaload, 1) := by decide +kernel
theorem dX11_lineUp_106 : decode cX11_lineUp 106 = .ok (.iadd, 1) := by decide +kernel
theorem dX11_lineUp_107 : decode cX11_lineUp 107 = .ok (.istore 5, 2) := by decide +kernel
theorem dX11_lineUp_109 : decode cX11_lineUp 109 = .ok (.iinc 6 1, 3) := by decide +kernel
theorem dX11_lineUp_112 : decode cX11_lineUp 112 = .ok (.goto (-91), 3) := by decide +kernel
theorem dX11_lineUp_115 : decode cX11_lineUp 115 = .ok (.iload 5, 2) := by decide +kernel
theorem dX11_lineUp_117 : decode cX11_lineUp 117 = .ok (.ireturn, 1) := by decide +kernel
theorem dX11_beginDay_0 : decode cX11_beginDay 0 = .ok (.aload_n 0, 1) := by decide +kernel
theorem dX11_beginDay_1 : decode cX11_beginDay 1 = .ok (.getfield 19, 3) := by decide +kernel
theorem dX11_beginDay_4 : decode cX11_beginDay 4 = .ok (.invokevirtual 393, 3) := by decide +kernel
theorem dX11_beginDay_7 : decode cX11_beginDay 7 = .ok (.aload_n 0, 1) := by decide +kernel
theorem dX11_beginDay_8 : decode cX11_beginDay 8 = .ok (.iconst 0, 1) := by decide +kernel
theorem dX11_beginDay_9 : decode cX11_beginDay 9 = .ok (.invokevirtual 381, 3) := by decide +kernel
theorem dX11_beginDay_12 : decode cX11_beginDay 12 = .ok (.istore_n 1, 1) := by decide +kernel
theorem dX11_beginDay_13 : decode cX11_beginDay 13 = .ok (.iconst 0, 1) := by decide +kernel
theorem dX11_beginDay_14 : decode cX11_beginDay 14 = .ok (.istore_n 2, 1) := by decide +kernel
theorem dX11_beginDay_15 : decode cX11_beginDay 15 = .ok (.iload_n 2, 1) := by decide +kernel
theorem dX11_beginDay_16 : decode cX11_beginDay 16 = .ok (.aload_n 0, 1) := by decide +kernel
theorem dX11_beginDay_17 : decode cX11_beginDay 17 = .ok (.getfield 33, 3) := by decide +kernel
theorem dX11_beginDay_20 : decode cX11_beginDay 20 = .ok (.getfield 346, 3) := by decide +kernel
theorem dX11_beginDay_23 : decode cX11_beginDay 23 = .ok (.if_icmp .ge 40, 3) := by decide +kernel
theorem dX11_beginDay_26 : decode cX11_beginDay 26 = .ok (.aload_n 0, 1) := by decide +kernel
theorem dX11_beginDay_27 : decode cX11_beginDay 27 = .ok (.getfield 33, 3) := by decide +kernel
theorem dX11_beginDay_30 : decode cX11_beginDay 30 = .ok (.getfield 159, 3) := by decide +kernel
theorem dX11_beginDay_33 : decode cX11_beginDay 33 = .ok (.iload_n 2, 1) := by decide +kernel
theorem dX11_beginDay_34 : decode cX11_beginDay 34 = .ok (.aaload, 1) := by decide +kernel
theorem dX11_beginDay_35 : decode cX11_beginDay 35 = .ok (.iconst 5, 1) := by decide +kernel
theorem dX11_beginDay_36 : decode cX11_beginDay 36 = .ok (.iaload, 1) := by decide +kernel
theorem dX11_beginDay_37 : decode cX11_beginDay 37 = .ok (.istore_n 3, 1) := by decide +kernel
theorem dX11_beginDay_38 : decode cX11_beginDay 38 = .ok (.iload_n 3, 1) := by decide +kernel
theorem dX11_beginDay_39 : decode cX11_beginDay 39 = .ok (.ifCond .le 18, 3) := by decide +kernel
theorem dX11_beginDay_42 : decode cX11_beginDay 42 = .ok (.aload_n 0, 1) := by decide +kernel
theorem dX11_beginDay_43 : decode cX11_beginDay 43 = .ok (.iload_n 1, 1) := by decide +kernel
theorem dX11_beginDay_44 : decode cX11_beginDay 44 = .ok (.iload_n 2, 1) := by decide +kernel
theorem dX11_beginDay_45 : decode cX11_beginDay 45 = .ok (.invokevirtual 387, 3) := by decide +kernel
theorem dX11_beginDay_48 : decode cX11_beginDay 48 = .ok (.ifCond .ne 9, 3) := by decide +kernel
theorem dX11_beginDay_51 : decode cX11_beginDay 51 = .ok (.aload_n 0, 1) := by decide +kernel
theorem dX11_beginDay_52 : decode cX11_beginDay 52 = .ok (.iload_n 2, 1) := by decide +kernel
theorem dX11_beginDay_53 : decode cX11_beginDay 53 = .ok (.iload_n 3, 1) := by decide +kernel
theorem dX11_beginDay_54 : decode cX11_beginDay 54 = .ok (.invokevirtual 331, 3) := by decide +kernel
theorem dX11_beginDay_57 : decode cX11_beginDay 57 = .ok (.iinc 2 1, 3) := by decide +kernel
theorem dX11_beginDay_60 : decode cX11_beginDay 60 = .ok (.goto (-45), 3) := by decide +kernel
theorem dX11_beginDay_63 : decode cX11_beginDay 63 = .ok (.return_, 1) := by decide +kernel
theorem dX11_toss_0 : decode cX11_toss 0 = .ok (.aload_n 0, 1) := by decide +kernel
theorem dX11_toss_1 : decode cX11_toss 1 = .ok (.getfield 33, 3) := by decide +kernel
theorem dX11_toss_4 : decode cX11_toss 4 = .ok (.iload_n 1, 1) := by decide +kernel
theorem dX11_toss_5 : decode cX11_toss 5 = .ok (.iload_n 2, 1) := by decide +kernel
theorem dX11_toss_6 : decode cX11_toss 6 = .ok (.bipush 9, 2) := by decide +kernel
theorem dX11_toss_8 : decode cX11_toss 8 = .ok (.invokevirtual 396, 3) := by decide +kernel
theorem dX11_toss_11 : decode cX11_toss 11 = .ok (.aload_n 0, 1) := by decide +kernel
theorem dX11_toss_12 : decode cX11_toss 12 = .ok (.getfield 10, 3) := by decide +kernel
theorem dX11_toss_15 : decode cX11_toss 15 = .ok (.getfield 335, 3) := by decide +kernel
theorem dX11_toss_18 : decode cX11_toss 18 = .ok (.aload_n 0, 1) := by decide +kernel
theorem dX11_toss_19 : decode cX11_toss 19 = .ok (.getfield 10, 3) := by decide +kernel
theorem dX11_toss_22 : decode cX11_toss 22 = .ok (.invokevirtual 152, 3) := by decide +kernel
theorem dX11_toss_25 : decode cX11_toss 25 = .ok (.dup2, 1) := by decide +kernel
theorem dX11_toss_26 : decode cX11_toss 26 = .ok (.iaload, 1) := by decide +kernel
theorem dX11_toss_27 : decode cX11_toss 27 = .ok (.iload_n 2, 1) := by decide +kernel
theorem dX11_toss_28 : decode cX11_toss 28 = .ok (.aload_n 0, 1) := by decide +kernel
theorem dX11_toss_29 : decode cX11_toss 29 = .ok (.getfield 26, 3) := by decide +kernel
theorem dX11_toss_32 : decode cX11_toss 32 = .ok (.getfield 398, 3) := by decide +kernel
theorem dX11_toss_35 : decode cX11_toss 35 = .ok (.aload_n 0, 1) := by decide +kernel
theorem dX11_toss_36 : decode cX11_toss 36 = .ok (.getfield 33, 3) := by decide +kernel
theorem dX11_toss_39 : decode cX11_toss 39 = .ok (.getfield 159, 3) := by decide +kernel
theorem dX11_toss_42 : decode cX11_toss 42 = .ok (.iload_n 1, 1) := by decide +kernel
theorem dX11_toss_43 : decode cX11_toss 43 = .ok (.aaload, 1) := by decide +kernel
theorem dX11_toss_44 : decode cX11_toss 44 = .ok (.iconst 1, 1) := by decide +kernel
theorem dX11_toss_45 : decode cX11_toss 45 = .ok (.iaload, 1) := by decide +kernel
theorem dX11_toss_46 : decode cX11_toss 46 = .ok (.iaload, 1) := by decide +kernel
theorem dX11_toss_47 : decode cX11_toss 47 = .ok (.imul, 1) := by decide +kernel
theorem dX11_toss_48 : decode cX11_toss 48 = .ok (.iadd, 1) := by decide +kernel
theorem dX11_toss_49 : decode cX11_toss 49 = .ok (.iastore, 1) := by decide +kernel
theorem dX11_toss_50 : decode cX11_toss 50 = .ok (.return_, 1) := by decide +kernel
theorem dX11_sumDrawn_0 : decode cX11_sumDrawn 0 = .ok (.iconst 0, 1) := by decide +kernel
theorem dX11_sumDrawn_1 : decode cX11_sumDrawn 1 = .ok (.istore 4, 2) := by decide +kernel
theorem dX11_sumDrawn_3 : decode cX11_sumDrawn 3 = .ok (.iconst 0, 1) := by decide +kernel
theorem dX11_sumDrawn_4 : decode cX11_sumDrawn 4 = .ok (.istore 5, 2) := by decide +kernel
theorem dX11_sumDrawn_6 : decode cX11_sumDrawn 6 = .ok (.iconst 0, 1) := by decide +kernel
theorem dX11_sumDrawn_7 : decode cX11_sumDrawn 7 = .ok (.istore 6, 2) := by decide +kernel
theorem dX11_sumDrawn_9 : decode cX11_sumDrawn 9 = .ok (.iload 6, 2) := by decide +kernel
theorem dX11_sumDrawn_11 : decode cX11_sumDrawn 11 = .ok (.aload_n 0, 1) := by decide +kernel
theorem dX11_sumDrawn_12 : decode cX11_sumDrawn 12 = .ok (.getfield 19, 3) := by decide +kernel
theorem dX11_sumDrawn_15 : decode cX11_sumDrawn 15 = .ok (.getfield 103, 3) := by decide +kernel
theorem dX11_sumDrawn_18 : decode cX11_sumDrawn 18 = .ok (.getfield 344, 3) := by decide +kernel
theorem dX11_sumDrawn_21 : decode cX11_sumDrawn 21 = .ok (.if_icmp .ge 70, 3) := by decide +kernel
theorem dX11_sumDrawn_24 : decode cX11_sumDrawn 24 = .ok (.iload 5, 2) := by decide +kernel
theorem dX11_sumDrawn_26 : decode cX11_sumDrawn 26 = .ok (.bipush 10, 2) := by decide +kernel
theorem dX11_sumDrawn_28 : decode cX11_sumDrawn 28 = .ok (.if_icmp .ge 63, 3) := by decide +kernel
theorem dX11_sumDrawn_31 : decode cX11_sumDrawn 31 = .ok (.aload_n 0, 1) := by decide +kernel
theorem dX11_sumDrawn_32 : decode cX11_sumDrawn 32 = .ok (.getfield 19, 3) := by decide +kernel
theorem dX11_sumDrawn_35 : decode cX11_sumDrawn 35 = .ok (.getfield 294, 3) := by decide +kernel
theorem dX11_sumDrawn_38 : decode cX11_sumDrawn 38 = .ok (.iload 6, 2) := by decide +kernel
theorem dX11_sumDrawn_40 : decode cX11_sumDrawn 40 = .ok (.iaload, 1) := by decide +kernel
theorem dX11_sumDrawn_41 : decode cX11_sumDrawn 41 = .ok (.iconst (-1), 1) := by decide +kernel
theorem dX11_sumDrawn_42 : decode cX11_sumDrawn 42 = .ok (.if_icmp .eq 43, 3) := by decide +kernel
theorem dX11_sumDrawn_45 : decode cX11_sumDrawn 45 = .ok (.aload_n 0, 1) := by decide +kernel
theorem dX11_sumDrawn_46 : decode cX11_sumDrawn 46 = .ok (.getfield 92, 3) := by decide +kernel
theorem dX11_sumDrawn_49 : decode cX11_sumDrawn 49 = .ok (.iload 5, 2) := by decide +kernel
theorem dX11_sumDrawn_51 : decode cX11_sumDrawn 51 = .ok (.aload_n 0, 1) := by decide +kernel
theorem dX11_sumDrawn_52 : decode cX11_sumDrawn 52 = .ok (.getfield 61, 3) := by decide +kernel
theorem dX11_sumDrawn_55 : decode cX11_sumDrawn 55 = .ok (.iload 6, 2) := by decide +kernel
theorem dX11_sumDrawn_57 : decode cX11_sumDrawn 57 = .ok (.iload_n 1, 1) := by decide +kernel
theorem dX11_sumDrawn_58 : decode cX11_sumDrawn 58 = .ok (.iload_n 2, 1) := by decide +kernel
theorem dX11_sumDrawn_59 : decode cX11_sumDrawn 59 = .ok (.iload_n 3, 1) := by decide +kernel
theorem dX11_sumDrawn_60 : decode cX11_sumDrawn 60 = .ok (.invokevirtual 300, 3) := by decide +kernel
theorem dX11_sumDrawn_63 : decode cX11_sumDrawn 63 = .ok (.iastore, 1) := by decide +kernel
theorem dX11_sumDrawn_64 : decode cX11_sumDrawn 64 = .ok (.iload 4, 2) := by decide +kernel
theorem dX11_sumDrawn_66 : decode cX11_sumDrawn 66 = .ok (.aload_n 0, 1) := by decide +kernel
theorem dX11_sumDrawn_67 : decode cX11_sumDrawn 67 = .ok (.getfield 19, 3) := by decide +kernel
theorem dX11_sumDrawn_70 : decode cX11_sumDrawn 70 = .ok (.getfield 294, 3) := by decide +kernel
theorem dX11_sumDrawn_73 : decode cX11_sumDrawn 73 = .ok (.iload 6, 2) := by decide +kernel
theorem dX11_sumDrawn_75 : decode cX11_sumDrawn 75 = .ok (.iaload, 1) := by decide +kernel
theorem dX11_sumDrawn_76 : decode cX11_sumDrawn 76 = .ok (.iload 5, 2) := by decide +kernel
theorem dX11_sumDrawn_78 : decode cX11_sumDrawn 78 = .ok (.ishl, 1) := by decide +kernel
theorem dX11_sumDrawn_79 : decode cX11_sumDrawn 79 = .ok (.ior, 1) := by decide +kernel
theorem dX11_sumDrawn_80 : decode cX11_sumDrawn 80 = .ok (.istore 4, 2) := by decide +kernel
theorem dX11_sumDrawn_82 : decode cX11_sumDrawn 82 = .ok (.iinc 5 1, 3) := by decide +kernel
theorem dX11_sumDrawn_85 : decode cX11_sumDrawn 85 = .ok (.iinc 6 1, 3) := by decide +kernel
theorem dX11_sumDrawn_88 : decode cX11_sumDrawn 88 = .ok (.goto (-79), 3) := by decide +kernel
theorem dX11_sumDrawn_91 : decode cX11_sumDrawn 91 = .ok (.iload 4, 2) := by decide +kernel
theorem dX11_sumDrawn_93 : decode cX11_sumDrawn 93 = .ok (.ireturn, 1) := by decide +kernel
theorem dX11_earlyOf_0 : decode cX11_earlyOf 0 = .ok (.iconst 0, 1) := by decide +kernel
theorem dX11_earlyOf_1 : decode cX11_earlyOf 1 = .ok (.istore_n 2, 1) := by decide +kernel
theorem dX11_earlyOf_2 : decode cX11_earlyOf 2 = .ok (.iconst 0, 1) := by decide +kernel
theorem dX11_earlyOf_3 : decode cX11_earlyOf 3 = .ok (.istore_n 3, 1) := by decide +kernel
theorem dX11_earlyOf_4 : decode cX11_earlyOf 4 = .ok (.iload_n 3, 1) := by decide +kernel
theorem dX11_earlyOf_5 : decode cX11_earlyOf 5 = .ok (.bipush 10, 2) := by decide +kernel
theorem dX11_earlyOf_7 : decode cX11_earlyOf 7 = .ok (.if_icmp .ge 27, 3) := by decide +kernel
theorem dX11_earlyOf_10 : decode cX11_earlyOf 10 = .ok (.iload_n 1, 1) := by decide +kernel
theorem dX11_earlyOf_11 : decode cX11_earlyOf 11 = .ok (.iload_n 3, 1) := by decide +kernel
theorem dX11_earlyOf_12 : decode cX11_earlyOf 12 = .ok (.ishr, 1) := by decide +kernel
theorem dX11_earlyOf_13 : decode cX11_earlyOf 13 = .ok (.iconst 1, 1) := by decide +kernel
theorem dX11_earlyOf_14 : decode cX11_earlyOf 14 = .ok (.iand, 1) := by decide +kernel
theorem dX11_earlyOf_15 : decode cX11_earlyOf 15 = .ok (.iconst 1, 1) := by decide +kernel
theorem dX11_earlyOf_16 : decode cX11_earlyOf 16 = .ok (.if_icmp .ne 12, 3) := by decide +kernel
theorem dX11_earlyOf_19 : decode cX11_earlyOf 19 = .ok (.iload_n 2, 1) := by decide +kernel
theorem dX11_earlyOf_20 : decode cX11_earlyOf 20 = .ok (.aload_n 0, 1) := by decide +kernel
theorem dX11_earlyOf_21 : decode cX11_earlyOf 21 = .ok (.getfield 92, 3) := by decide +kernel
theorem dX11_earlyOf_24 : decode cX11_earlyOf 24 = .ok (.iload_n 3, 1) := by decide +kernel
theorem dX11_earlyOf_25 : decode cX11_earlyOf 25 = .ok (.iaload, 1) := by decide +kernel
theorem dX11_earlyOf_26 : decode cX11_earlyOf 26 = .ok (.iadd, 1) := by decide +kernel
theorem dX11_earlyOf_27 : decode cX11_earlyOf 27 = .ok (.istore_n 2, 1) := by decide +kernel
theorem dX11_earlyOf_28 : decode cX11_earlyOf 28 = .ok (.iinc 3 1, 3) := by decide +kernel
theorem dX11_earlyOf_31 : decode cX11_earlyOf 31 = .ok (.goto (-27), 3) := by decide +kernel
theorem dX11_earlyOf_34 : decode cX11_earlyOf 34 = .ok (.iload_n 2, 1) := by decide +kernel
theorem dX11_earlyOf_35 : decode cX11_earlyOf 35 = .ok (.ireturn, 1) := by decide +kernel
theorem dX11_gapOf_0 : decode cX11_gapOf 0 = .ok (.iload_n 2, 1) := by decide +kernel
theorem dX11_gapOf_1 : decode cX11_gapOf 1 = .ok (.iload_n 3, 1) := by decide +kernel
theorem dX11_gapOf_2 : decode cX11_gapOf 2 = .ok (.imul, 1) := by decide +kernel
theorem dX11_gapOf_3 : decode cX11_gapOf 3 = .ok (.istore 4, 2) := by decide +kernel
theorem dX11_gapOf_5 : decode cX11_gapOf 5 = .ok (.iload 4, 2) := by decide +kernel
theorem dX11_gapOf_7 : decode cX11_gapOf 7 = .ok (.ifCond .gt 7, 3) := by decide +kernel
theorem dX11_gapOf_10 : decode cX11_gapOf 10 = .ok (.ldc_w 306, 3) := by decide +kernel
theorem dX11_gapOf_13 : decode cX11_gapOf 13 = .ok (.ireturn, 1) := by decide +kernel
theorem dX11_gapOf_14 : decode cX11_gapOf 14 = .ok (.aload_n 0, 1) := by decide +kernel
theorem dX11_gapOf_15 : decode cX11_gapOf 15 = .ok (.iload_n 1, 1) := by decide +kernel
theorem dX11_gapOf_16 : decode cX11_gapOf 16 = .ok (.invokevirtual 399, 3) := by decide +kernel
theorem dX11_gapOf_19 : decode cX11_gapOf 19 = .ok (.i2l, 1) := by decide +kernel
theorem dX11_gapOf_20 : decode cX11_gapOf 20 = .ok (.lstore 5, 2) := by decide +kernel
theorem dX11_gapOf_22 : decode cX11_gapOf 22 = .ok (.aload_n 0, 1) := by decide +kernel
theorem dX11_gapOf_23 : decode cX11_gapOf 23 = .ok (.iconst 1, 1) := by decide +kernel
theorem dX11_gapOf_24 : decode cX11_gapOf 24 = .ok (.iload_n 2, 1) := by decide +kernel
theorem dX11_gapOf_25 : decode cX11_gapOf 25 = .ok (.iload_n 3, 1) := by decide +kernel
theorem dX11_gapOf_26 : decode cX11_gapOf 26 = .ok (.iadd, 1) := by decide +kernel
theorem dX11_gapOf_27 : decode cX11_gapOf 27 = .ok (.ishl, 1) := by decide +kernel
theorem dX11_gapOf_28 : decode cX11_gapOf 28 = .ok (.iconst 1, 1) := by decide +kernel
theorem dX11_gapOf_29 : decode cX11_gapOf 29 = .ok (.isub, 1) := by decide +kernel
theorem dX11_gapOf_30 : decode cX11_gapOf 30 = .ok (.iload_n 1, 1) := by decide +kernel
theorem dX11_gapOf_31 : decode cX11_gapOf 31 = .ok (.iconst (-1), 1) := by decide +kernel
theorem dX11_gapOf_32 : decode cX11_gapOf 32 = .ok (.ixor, 1) := by decide +kernel
theorem dX11_gapOf_33 : decode cX11_gapOf 33 = .ok (.iand, 1) := by decide +kernel
theorem dX11_gapOf_34 : decode cX11_gapOf 34 = .ok (.invokevirtual 399, 3) := by decide +kernel
theorem dX11_gapOf_37 : decode cX11_gapOf 37 = .ok (.i2l, 1) := by decide +kernel
theorem dX11_gapOf_38 : decode cX11_gapOf 38 = .ok (.lstore 7, 2) := by decide +kernel
theorem dX11_gapOf_40 : decode cX11_gapOf 40 = .ok (.ldc2_w 402, 3) := by decide +kernel
theorem dX11_gapOf_43 : decode cX11_gapOf 43 = .ok (.lload 7, 2) := by decide +kernel
theorem dX11_gapOf_45 : decode cX11_gapOf 45 = .ok (.iload_n 2, 1) := by decide +kernel
theorem dX11_gapOf_46 : decode cX11_gapOf 46 = .ok (.i2l, 1) := by decide +kernel
theorem dX11_gapOf_47 : decode cX11_gapOf 47 = .ok (.lmul, 1) := by decide +kernel
theorem dX11_gapOf_48 : decode cX11_gapOf 48 = .ok (.lload 5, 2) := by decide +kernel
theorem dX11_gapOf_50 : decode cX11_gapOf 50 = .ok (.iload_n 3, 1) := by decide +kernel
theorem dX11_gapOf_51 : decode cX11_gapOf 51 = .ok (.i2l, 1) := by decide +kernel
theorem dX11_gapOf_52 : decode cX11_gapOf 52 = .ok (.lmul, 1) := by decide +kernel
theorem dX11_gapOf_53 : decode cX11_gapOf 53 = .ok (.lsub, 1) := by decide +kernel
theorem dX11_gapOf_54 : decode cX11_gapOf 54 = .ok (.lmul, 1) := by decide +kernel
theorem dX11_gapOf_55 : decode cX11_gapOf 55 = .ok (.iload 4, 2) := by decide +kernel
theorem dX11_gapOf_57 : decode cX11_gapOf 57 = .ok (.i2l, 1) := by decide +kernel
theorem dX11_gapOf_58 : decode cX11_gapOf 58 = .ok (.ldiv, 1) := by decide +kernel
theorem dX11_gapOf_59 : decode cX11_gapOf 59 = .ok (.l2i, 1) := by decide +kernel
theorem dX11_gapOf_60 : decode cX11_gapOf 60 = .ok (.ireturn, 1) := by decide +kernel
theorem dX11_doubtOf_0 : decode cX11_doubtOf 0 = .ok (.aload_n 0, 1) := by decide +kernel
theorem dX11_doubtOf_1 : decode cX11_doubtOf 1 = .ok (.iload_n 1, 1) := by decide +kernel
theorem dX11_doubtOf_2 : decode cX11_doubtOf 2 = .ok (.invokevirtual 399, 3) := by decide +kernel
theorem dX11_doubtOf_5 : decode cX11_doubtOf 5 = .ok (.istore 4, 2) := by decide +kernel
theorem dX11_doubtOf_7 : decode cX11_doubtOf 7 = .ok (.iconst 0, 1) := by decide +kernel
theorem dX11_doubtOf_8 : decode cX11_doubtOf 8 = .ok (.istore 5, 2) := by decide +kernel
theorem dX11_doubtOf_10 : decode cX11_doubtOf 10 = .ok (.iconst 0, 1) := by decide +kernel
theorem dX11_doubtOf_11 : decode cX11_doubtOf 11 = .ok (.istore 6, 2) := by decide +kernel
theorem dX11_doubtOf_13 : decode cX11_doubtOf 13 = .ok (.iconst 0, 1) := by decide +kernel
theorem dX11_doubtOf_14 : decode cX11_doubtOf 14 = .ok (.istore 7, 2) := by decide +kernel
theorem dX11_doubtOf_16 : decode cX11_doubtOf 16 = .ok (.iload 7, 2) := by decide +kernel
theorem dX11_doubtOf_18 : decode cX11_doubtOf 18 = .ok (.iconst 1, 1) := by decide +kernel
theorem dX11_doubtOf_19 : decode cX11_doubtOf 19 = .ok (.iload_n 3, 1) := by decide +kernel
theorem dX11_doubtOf_20 : decode cX11_doubtOf 20 = .ok (.ishl, 1) := by decide +kernel
theorem dX11_doubtOf_21 : decode cX11_doubtOf 21 = .ok (.if_icmp .ge 35, 3) := by decide +kernel
theorem dX11_doubtOf_24 : decode cX11_doubtOf 24 = .ok (.iload 7, 2) := by decide +kernel
theorem dX11_doubtOf_26 : decode cX11_doubtOf 26 = .ok (.invokestatic 404, 3) := by decide +kernel
theorem dX11_doubtOf_29 : decode cX11_doubtOf 29 = .ok (.iload_n 2, 1) := by decide +kernel
theorem dX11_doubtOf_30 : decode cX11_doubtOf 30 = .ok (.if_icmp .ne 20, 3) := by decide +kernel
theorem dX11_doubtOf_33 : decode cX11_doubtOf 33 = .ok (.iinc 5 1, 3) := by decide +kernel
theorem dX11_doubtOf_36 : decode cX11_doubtOf 36 = .ok (.aload_n 0, 1) := by decide +kernel
theorem dX11_doubtOf_37 : decode cX11_doubtOf 37 = .ok (.iload 7, 2) := by decide +kernel
theorem dX11_doubtOf_39 : decode cX11_doubtOf 39 = .ok (.invokevirtual 399, 3) := by decide +kernel
theorem dX11_doubtOf_42 : decode cX11_doubtOf 42 = .ok (.iload 4, 2) := by decide +kernel
theorem dX11_doubtOf_44 : decode cX11_doubtOf 44 = .ok (.if_icmp .gt 6, 3) := by decide +kernel
theorem dX11_doubtOf_47 : decode cX11_doubtOf 47 = .ok (.iinc 6 1, 3) := by decide +kernel
theorem dX11_doubtOf_50 : decode cX11_doubtOf 50 = .ok (.iinc 7 1, 3) := by decide +kernel
theorem dX11_doubtOf_53 : decode cX11_doubtOf 53 = .ok (.goto (-37), 3) := by decide +kernel
theorem dX11_doubtOf_56 : decode cX11_doubtOf 56 = .ok (.iload 5, 2) := by decide +kernel
theorem dX11_doubtOf_58 : decode cX11_doubtOf 58 = .ok (.ifCond .ne 9, 3) := by decide +kernel
theorem dX11_doubtOf_61 : decode cX11_doubtOf 61 = .ok (.ldc_w 306, 3) := by decide +kernel
theorem dX11_doubtOf_64 : decode cX11_doubtOf 64 = .ok (.goto 17, 3) := by decide +kernel
theorem dX11_doubtOf_67 : decode cX11_doubtOf 67 = .ok (.sipush 10000, 3) := by decide +kernel
theorem dX11_doubtOf_70 : decode cX11_doubtOf 70 = .ok (.iload 6, 2) := by decide +kernel
theorem dX11_doubtOf_72 : decode cX11_doubtOf 72 = .ok (.imul, 1) := by decide +kernel
theorem dX11_doubtOf_73 : decode cX11_doubtOf 73 = .ok (.iload 5, 2) := by decide +kernel
theorem dX11_doubtOf_75 : decode cX11_doubtOf 75 = .ok (.iadd, 1) := by decide +kernel
theorem dX11_doubtOf_76 : decode cX11_doubtOf 76 = .ok (.iconst 1, 1) := by decide +kernel
theorem dX11_doubtOf_77 : decode cX11_doubtOf 77 = .ok (.isub, 1) := by decide +kernel
theorem dX11_doubtOf_78 : decode cX11_doubtOf 78 = .ok (.iload 5, 2) := by decide +kernel
theorem dX11_doubtOf_80 : decode cX11_doubtOf 80 = .ok (.idiv, 1) := by decide +kernel
theorem dX11_doubtOf_81 : decode cX11_doubtOf 81 = .ok (.ireturn, 1) := by decide +kernel
theorem dJ6_bitCount_0f7a4_0 : decode cJ6_bitCount_0f7a4 0 = .ok (.iload_n 0, 1) := by decide +kernel
theorem dJ6_bitCount_0f7a4_1 : decode cJ6_bitCount_0f7a4 1 = .ok (.iload_n 0, 1) := by decide +kernel
theorem dJ6_bitCount_0f7a4_2 : decode cJ6_bitCount_0f7a4 2 = .ok (.iconst 1, 1) := by decide +kernel
theorem dJ6_bitCount_0f7a4_3 : decode cJ6_bitCount_0f7a4 3 = .ok (.iushr, 1) := by decide +kernel
theorem dJ6_bitCount_0f7a4_4 : decode cJ6_bitCount_0f7a4 4 = .ok (.ldc_w 265, 3) := by decide +kernel
theorem dJ6_bitCount_0f7a4_7 : decode cJ6_bitCount_0f7a4 7 = .ok (.iand, 1) := by decide +kernel
theorem dJ6_bitCount_0f7a4_8 : decode cJ6_bitCount_0f7a4 8 = .ok (.isub, 1) := by decide +kernel
theorem dJ6_bitCount_0f7a4_9 : decode cJ6_bitCount_0f7a4 9 = .ok (.istore_n 0, 1) := by decide +kernel
theorem dJ6_bitCount_0f7a4_10 : decode cJ6_bitCount_0f7a4 10 = .ok (.iload_n 0, 1) := by decide +kernel
theorem dJ6_bitCount_0f7a4_11 : decode cJ6_bitCount_0f7a4 11 = .ok (.ldc_w 266, 3) := by decide +kernel
theorem dJ6_bitCount_0f7a4_14 : decode cJ6_bitCount_0f7a4 14 = .ok (.iand, 1) := by decide +kernel
theorem dJ6_bitCount_0f7a4_15 : decode cJ6_bitCount_0f7a4 15 = .ok (.iload_n 0, 1) := by decide +kernel
theorem dJ6_bitCount_0f7a4_16 : decode cJ6_bitCount_0f7a4 16 = .ok (.iconst 2, 1) := by decide +kernel
theorem dJ6_bitCount_0f7a4_17 : decode cJ6_bitCount_0f7a4 17 = .ok (.iushr, 1) := by decide +kernel
theorem dJ6_bitCount_0f7a4_18 : decode cJ6_bitCount_0f7a4 18 = .ok (.ldc_w 266, 3) := by decide +kernel
theorem dJ6_bitCount_0f7a4_21 : decode cJ6_bitCount_0f7a4 21 = .ok (.iand, 1) := by decide +kernel
theorem dJ6_bitCount_0f7a4_22 : decode cJ6_bitCount_0f7a4 22 = .ok (.iadd, 1) := by decide +kernel
theorem dJ6_bitCount_0f7a4_23 : decode cJ6_bitCount_0f7a4 23 = .ok (.istore_n 0, 1) := by decide +kernel
theorem dJ6_bitCount_0f7a4_24 : decode cJ6_bitCount_0f7a4 24 = .ok (.iload_n 0, 1) := by decide +kernel
theorem dJ6_bitCount_0f7a4_25 : decode cJ6_bitCount_0f7a4 25 = .ok (.iload_n 0, 1) := by decide +kernel
theorem dJ6_bitCount_0f7a4_26 : decode cJ6_bitCount_0f7a4 26 = .ok (.iconst 4, 1) := by decide +kernel
theorem dJ6_bitCount_0f7a4_27 : decode cJ6_bitCount_0f7a4 27 = .ok (.iushr, 1) := by decide +kernel
theorem dJ6_bitCount_0f7a4_28 : decode cJ6_bitCount_0f7a4 28 = .ok (.iadd, 1) := by decide +kernel
theorem dJ6_bitCount_0f7a4_29 : decode cJ6_bitCount_0f7a4 29 = .ok (.ldc_w 267, 3) := by decide +kernel
theorem dJ6_bitCount_0f7a4_32 : decode cJ6_bitCount_0f7a4 32 = .ok (.iand, 1) := by decide +kernel
theorem dJ6_bitCount_0f7a4_33 : decode cJ6_bitCount_0f7a4 33 = .ok (.istore_n 0, 1) := by decide +kernel
theorem dJ6_bitCount_0f7a4_34 : decode cJ6_bitCount_0f7a4 34 = .ok (.iload_n 0, 1) := by decide +kernel
theorem dJ6_bitCount_0f7a4_35 : decode cJ6_bitCount_0f7a4 35 = .ok (.iload_n 0, 1) := by decide +kernel
theorem dJ6_bitCount_0f7a4_36 : decode cJ6_bitCount_0f7a4 36 = .ok (.bipush 8, 2) := by decide +kernel
theorem dJ6_bitCount_0f7a4_38 : decode cJ6_bitCount_0f7a4 38 = .ok (.iushr, 1) := by decide +kernel
theorem dJ6_bitCount_0f7a4_39 : decode cJ6_bitCount_0f7a4 39 = .ok (.iadd, 1) := by decide +kernel
theorem dJ6_bitCount_0f7a4_40 : decode cJ6_bitCount_0f7a4 40 = .ok (.istore_n 0, 1) := by decide +kernel
theorem dJ6_bitCount_0f7a4_41 : decode cJ6_bitCount_0f7a4 41 = .ok (.iload_n 0, 1) := by decide +kernel
theorem dJ6_bitCount_0f7a4_42 : decode cJ6_bitCount_0f7a4 42 = .ok (.iload_n 0, 1) := by decide +kernel
theorem dJ6_bitCount_0f7a4_43 : decode cJ6_bitCount_0f7a4 43 = .ok (.bipush 16, 2) := by decide +kernel
theorem dJ6_bitCount_0f7a4_45 : decode cJ6_bitCount_0f7a4 45 = .ok (.iushr, 1) := by decide +kernel
theorem dJ6_bitCount_0f7a4_46 : decode cJ6_bitCount_0f7a4 46 = .ok (.iadd, 1) := by decide +kernel
theorem dJ6_bitCount_0f7a4_47 : decode cJ6_bitCount_0f7a4 47 = .ok (.istore_n 0, 1) := by decide +kernel
theorem dJ6_bitCount_0f7a4_48 : decode cJ6_bitCount_0f7a4 48 = .ok (.iload_n 0, 1) := by decide +kernel
theorem dJ6_bitCount_0f7a4_49 : decode cJ6_bitCount_0f7a4 49 = .ok (.bipush 63, 2) := by decide +kernel
theorem dJ6_bitCount_0f7a4_51 : decode cJ6_bitCount_0f7a4 51 = .ok (.iand, 1) := by decide +kernel
theorem dJ6_bitCount_0f7a4_52 : decode cJ6_bitCount_0f7a4 52 = .ok (.ireturn, 1) := by decide +kernel
theorem dJ9_abs_0f7a4_0 : decode cJ9_abs_0f7a4 0 = .ok (.iload_n 0, 1) := by decide +kernel
theorem dJ9_abs_0f7a4_1 : decode cJ9_abs_0f7a4 1 = .ok (.ifCond .ge 8, 3) := by decide +kernel
theorem dJ9_abs_0f7a4_4 : decode cJ9_abs_0f7a4 4 = .ok (.iload_n 0, 1) := by decide +kernel
theorem dJ9_abs_0f7a4_5 : decode cJ9_abs_0f7a4 5 = .ok (.ineg, 1) := by decide +kernel
theorem dJ9_abs_0f7a4_6 : decode cJ9_abs_0f7a4 6 = .ok (.goto 4, 3) := by decide +kernel
theorem dJ9_abs_0f7a4_9 : decode cJ9_abs_0f7a4 9 = .ok (.iload_n 0, 1) := by decide +kernel
theorem dJ9_abs_0f7a4_10 : decode cJ9_abs_0f7a4 10 = .ok (.ireturn, 1) := by decide +kernel
theorem dJ9_max_7cf53_0 : decode cJ9_max_7cf53 0 = .ok (.iload_n 0, 1) := by decide +kernel
theorem dJ9_max_7cf53_1 : decode cJ9_max_7cf53 1 = .ok (.iload_n 1, 1) := by decide +kernel
theorem dJ9_max_7cf53_2 : decode cJ9_max_7cf53 2 = .ok (.if_icmp .lt 7, 3) := by decide +kernel
theorem dJ9_max_7cf53_5 : decode cJ9_max_7cf53 5 = .ok (.iload_n 0, 1) := by decide +kernel
theorem dJ9_max_7cf53_6 : decode cJ9_max_7cf53 6 = .ok (.goto 4, 3) := by decide +kernel
theorem dJ9_max_7cf53_9 : decode cJ9_max_7cf53 9 = .ok (.iload_n 1, 1) := by decide +kernel
theorem dJ9_max_7cf53_10 : decode cJ9_max_7cf53 10 = .ok (.ireturn, 1) := by decide +kernel
theorem dJ9_min_7cf53_0 : decode cJ9_min_7cf53 0 = .ok (.iload_n 0, 1) := by decide +kernel
theorem dJ9_min_7cf53_1 : decode cJ9_min_7cf53 1 = .ok (.iload_n 1, 1) := by decide +kernel
theorem dJ9_min_7cf53_2 : decode cJ9_min_7cf53 2 = .ok (.if_icmp .gt 7, 3) := by decide +kernel
theorem dJ9_min_7cf53_5 : decode cJ9_min_7cf53 5 = .ok (.iload_n 0, 1) := by decide +kernel
theorem dJ9_min_7cf53_6 : decode cJ9_min_7cf53 6 = .ok (.goto 4, 3) := by decide +kernel
theorem dJ9_min_7cf53_9 : decode cJ9_min_7cf53 9 = .ok (.iload_n 1, 1) := by decide +kernel
theorem dJ9_min_7cf53_10 : decode cJ9_min_7cf53 10 = .ok (.ireturn, 1) := by decide +kernel
theorem dJ9_min_f86c9_0 : decode cJ9_min_f86c9 0 = .ok (.lload_n 0, 1) := by decide +kernel
theorem dJ9_min_f86c9_1 : decode cJ9_min_f86c9 1 = .ok (.lload_n 2, 1) := by decide +kernel
theorem dJ9_min_f86c9_2 : decode cJ9_min_f86c9 2 = .ok (.lcmp, 1) := by decide +kernel
theorem dJ9_min_f86c9_3 : decode cJ9_min_f86c9 3 = .ok (.ifCond .gt 7, 3) := by decide +kernel
theorem dJ9_min_f86c9_6 : decode cJ9_min_f86c9 6 = .ok (.lload_n 0, 1) := by decide +kernel
theorem dJ9_min_f86c9_7 : decode cJ9_min_f86c9 7 = .ok (.goto 4, 3) := by decide +kernel
theorem dJ9_min_f86c9_10 : decode cJ9_min_f86c9 10 = .ok (.lload_n 2, 1) := by decide +kernel
theorem dJ9_min_f86c9_11 : decode cJ9_min_f86c9 11 = .ok (.lreturn, 1) := by decide +kernel
theorem dJ7_fill_d0a16_0 : decode cJ7_fill_d0a16 0 = .ok (.iconst 0, 1) := by decide +kernel
theorem dJ7_fill_d0a16_1 : decode cJ7_fill_d0a16 1 = .ok (.istore_n 3, 1) := by decide +kernel
theorem dJ7_fill_d0a16_2 : decode cJ7_fill_d0a16 2 = .ok (.aload_n 0, 1) := by decide +kernel
theorem dJ7_fill_d0a16_3 : decode cJ7_fill_d0a16 3 = .ok (.arraylength, 1) := by decide +kernel
theorem dJ7_fill_d0a16_4 : decode cJ7_fill_d0a16 4 = .ok (.istore 4, 2) := by decide +kernel
theorem dJ7_fill_d0a16_6 : decode cJ7_fill_d0a16 6 = .ok (.iload_n 3, 1) := by decide +kernel
theorem dJ7_fill_d0a16_7 : decode cJ7_fill_d0a16 7 = .ok (.iload 4, 2) := by decide +kernel
theorem dJ7_fill_d0a16_9 : decode cJ7_fill_d0a16 9 = .ok (.if_icmp .ge 13, 3) := by decide +kernel
theorem dJ7_fill_d0a16_12 : decode cJ7_fill_d0a16 12 = .ok (.aload_n 0, 1) := by decide +kernel
theorem dJ7_fill_d0a16_13 : decode cJ7_fill_d0a16 13 = .ok (.iload_n 3, 1) := by decide +kernel
theorem dJ7_fill_d0a16_14 : decode cJ7_fill_d0a16 14 = .ok (.lload_n 1, 1) := by decide +kernel
theorem dJ7_fill_d0a16_15 : decode cJ7_fill_d0a16 15 = .ok (.lastore, 1) := by decide +kernel
theorem dJ7_fill_d0a16_16 : decode cJ7_fill_d0a16 16 = .ok (.iinc 3 1, 3) := by decide +kernel
theorem dJ7_fill_d0a16_19 : decode cJ7_fill_d0a16 19 = .ok (.goto (-13), 3) := by decide +kernel
theorem dJ7_fill_d0a16_22 : decode cJ7_fill_d0a16 22 = .ok (.return_, 1) := by decide +kernel
theorem dJ7_fill_53178_0 : decode cJ7_fill_53178 0 = .ok (.iconst 0, 1) := by decide +kernel
theorem dJ7_fill_53178_1 : decode cJ7_fill_53178 1 = .ok (.istore_n 2, 1) := by decide +kernel
theorem dJ7_fill_53178_2 : decode cJ7_fill_53178 2 = .ok (.aload_n 0, 1) := by decide +kernel
theorem dJ7_fill_53178_3 : decode cJ7_fill_53178 3 = .ok (.arraylength, 1) := by decide +kernel
theorem dJ7_fill_53178_4 : decode cJ7_fill_53178 4 = .ok (.istore_n 3, 1) := by decide +kernel
theorem dJ7_fill_53178_5 : decode cJ7_fill_53178 5 = .ok (.iload_n 2, 1) := by decide +kernel
theorem dJ7_fill_53178_6 : decode cJ7_fill_53178 6 = .ok (.iload_n 3, 1) := by decide +kernel
theorem dJ7_fill_53178_7 : decode cJ7_fill_53178 7 = .ok (.if_icmp .ge 13, 3) := by decide +kernel
theorem dJ7_fill_53178_10 : decode cJ7_fill_53178 10 = .ok (.aload_n 0, 1) := by decide +kernel
theorem dJ7_fill_53178_11 : decode cJ7_fill_53178 11 = .ok (.iload_n 2, 1) := by decide +kernel
theorem dJ7_fill_53178_12 : decode cJ7_fill_53178 12 = .ok (.iload_n 1, 1) := by decide +kernel
theorem dJ7_fill_53178_13 : decode cJ7_fill_53178 13 = .ok (.iastore, 1) := by decide +kernel
theorem dJ7_fill_53178_14 : decode cJ7_fill_53178 14 = .ok (.iinc 2 1, 3) := by decide +kernel
theorem dJ7_fill_53178_17 : decode cJ7_fill_53178 17 = .ok (.goto (-12), 3) := by decide +kernel
theorem dJ7_fill_53178_20 : decode cJ7_fill_53178 20 = .ok (.return_, 1) := by decide +kernel
