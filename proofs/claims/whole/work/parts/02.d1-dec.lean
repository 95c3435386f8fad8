theorem dX0_init_0 : decode cX0_init 0 = .ok (.aload_n 0, 1) := by decide +kernel
theorem dX0_init_1 : decode cX0_init 1 = .ok (.invokespecial 3, 3) := by decide +kernel
theorem dX0_init_4 : decode cX0_init 4 = .ok (.aload_n 0, 1) := by decide +kernel
theorem dX0_init_5 : decode cX0_init 5 = .ok (.sipush 192, 3) := by decide +kernel
theorem dX0_init_8 : decode cX0_init 8 = .ok (.newarray .int, 2) := by decide +kernel
theorem dX0_init_10 : decode cX0_init 10 = .ok (.putfield 9, 3) := by decide +kernel
theorem dX0_init_13 : decode cX0_init 13 = .ok (.aload_n 0, 1) := by decide +kernel
theorem dX0_init_14 : decode cX0_init 14 = .ok (.sipush 192, 3) := by decide +kernel
theorem dX0_init_17 : decode cX0_init 17 = .ok (.newarray .int, 2) := by decide +kernel
theorem dX0_init_19 : decode cX0_init 19 = .ok (.putfield 15, 3) := by decide +kernel
theorem dX0_init_22 : decode cX0_init 22 = .ok (.return_, 1) := by decide +kernel
theorem dX0_note_0 : decode cX0_note 0 = .ok (.aload_n 0, 1) := by decide +kernel
theorem dX0_note_1 : decode cX0_note 1 = .ok (.iload_n 1, 1) := by decide +kernel
theorem dX0_note_2 : decode cX0_note 2 = .ok (.putfield 18, 3) := by decide +kernel
theorem dX0_note_5 : decode cX0_note 5 = .ok (.aload_n 2, 1) := by decide +kernel
theorem dX0_note_6 : decode cX0_note 6 = .ok (.getfield 22, 3) := by decide +kernel
theorem dX0_note_9 : decode cX0_note 9 = .ok (.iconst 0, 1) := by decide +kernel
theorem dX0_note_10 : decode cX0_note 10 = .ok (.aload_n 0, 1) := by decide +kernel
theorem dX0_note_11 : decode cX0_note 11 = .ok (.getfield 9, 3) := by decide +kernel
theorem dX0_note_14 : decode cX0_note 14 = .ok (.iconst 0, 1) := by decide +kernel
theorem dX0_note_15 : decode cX0_note 15 = .ok (.sipush 192, 3) := by decide +kernel
theorem dX0_note_18 : decode cX0_note 18 = .ok (.invokestatic 25, 3) := by decide +kernel
theorem dX0_note_21 : decode cX0_note 21 = .ok (.aload_n 2, 1) := by decide +kernel
theorem dX0_note_22 : decode cX0_note 22 = .ok (.getfield 31, 3) := by decide +kernel
theorem dX0_note_25 : decode cX0_note 25 = .ok (.iconst 0, 1) := by decide +kernel
theorem dX0_note_26 : decode cX0_note 26 = .ok (.aload_n 0, 1) := by decide +kernel
theorem dX0_note_27 : decode cX0_note 27 = .ok (.getfield 15, 3) := by decide +kernel
theorem dX0_note_30 : decode cX0_note 30 = .ok (.iconst 0, 1) := by decide +kernel
theorem dX0_note_31 : decode cX0_note 31 = .ok (.sipush 192, 3) := by decide +kernel
theorem dX0_note_34 : decode cX0_note 34 = .ok (.invokestatic 25, 3) := by decide +kernel
theorem dX0_note_37 : decode cX0_note 37 = .ok (.return_, 1) := by decide +kernel
theorem dX0_become_0 : decode cX0_become 0 = .ok (.aload_n 0, 1) := by decide +kernel
theorem dX0_become_1 : decode cX0_become 1 = .ok (.aload_n 1, 1) := by decide +kernel
theorem dX0_become_2 : decode cX0_become 2 = .ok (.getfield 18, 3) := by decide +kernel
theorem dX0_become_5 : decode cX0_become 5 = .ok (.putfield 18, 3) := by decide +kernel
theorem dX0_become_8 : decode cX0_become 8 = .ok (.aload_n 0, 1) := by decide +kernel
theorem dX0_become_9 : decode cX0_become 9 = .ok (.aload_n 1, 1) := by decide +kernel
theorem dX0_become_10 : decode cX0_become 10 = .ok (.getfield 32, 3) := by decide +kernel
theorem dX0_become_13 : decode cX0_become 13 = .ok (.putfield 32, 3) := by decide +kernel
theorem dX0_become_16 : decode cX0_become 16 = .ok (.aload_n 1, 1) := by decide +kernel
theorem dX0_become_17 : decode cX0_become 17 = .ok (.getfield 9, 3) := by decide +kernel
theorem dX0_become_20 : decode cX0_become 20 = .ok (.iconst 0, 1) := by decide +kernel
theorem dX0_become_21 : decode cX0_become 21 = .ok (.aload_n 0, 1) := by decide +kernel
theorem dX0_become_22 : decode cX0_become 22 = .ok (.getfield 9, 3) := by decide +kernel
theorem dX0_become_25 : decode cX0_become 25 = .ok (.iconst 0, 1) := by decide +kernel
theorem dX0_become_26 : decode cX0_become 26 = .ok (.sipush 192, 3) := by decide +kernel
theorem dX0_become_29 : decode cX0_become 29 = .ok (.invokestatic 25, 3) := by decide +kernel
theorem dX0_become_32 : decode cX0_become 32 = .ok (.aload_n 1, 1) := by decide +kernel
theorem dX0_become_33 : decode cX0_become 33 = .ok (.getfield 15, 3) := by decide +kernel
theorem dX0_become_36 : decode cX0_become 36 = .ok (.iconst 0, 1) := by decide +kernel
theorem dX0_become_37 : decode cX0_become 37 = .ok (.aload_n 0, 1) := by decide +kernel
theorem dX0_become_38 : decode cX0_become 38 = .ok (.getfield 15, 3) := by decide +kernel
theorem dX0_become_41 : decode cX0_become 41 = .ok (.iconst 0, 1) := by decide +kernel
theorem dX0_become_42 : decode cX0_become 42 = .ok (.sipush 192, 3) := by decide +kernel
theorem dX0_become_45 : decode cX0_become 45 = .ok (.invokestatic 25, 3) := by decide +kernel
theorem dX0_become_48 : decode cX0_become 48 = .ok (.return_, 1) := by decide +kernel
theorem dX0_findTiles_0 : decode cX0_findTiles 0 = .ok (.aload_n 0, 1) := by decide +kernel
theorem dX0_findTiles_1 : decode cX0_findTiles 1 = .ok (.iconst 0, 1) := by decide +kernel
theorem dX0_findTiles_2 : decode cX0_findTiles 2 = .ok (.putfield 32, 3) := by decide +kernel
theorem dX0_findTiles_5 : decode cX0_findTiles 5 = .ok (.iconst 0, 1) := by decide +kernel
theorem dX0_findTiles_6 : decode cX0_findTiles 6 = .ok (.istore_n 2, 1) := by decide +kernel
theorem dX0_findTiles_7 : decode cX0_findTiles 7 = .ok (.iload_n 2, 1) := by decide +kernel
theorem dX0_findTiles_8 : decode cX0_findTiles 8 = .ok (.sipush 192, 3) := by decide +kernel
theorem dX0_findTiles_11 : decode cX0_findTiles 11 = .ok (.if_icmp .ge 52, 3) := by decide +kernel
theorem dX0_findTiles_14 : decode cX0_findTiles 14 = .ok (.aload_n 0, 1) := by decide +kernel
theorem dX0_findTiles_15 : decode cX0_findTiles 15 = .ok (.getfield 9, 3) := by decide +kernel
theorem dX0_findTiles_18 : decode cX0_findTiles 18 = .ok (.iload_n 2, 1) := by decide +kernel
theorem dX0_findTiles_19 : decode cX0_findTiles 19 = .ok (.iaload, 1) := by decide +kernel
theorem dX0_findTiles_20 : decode cX0_findTiles 20 = .ok (.aload_n 1, 1) := by decide +kernel
theorem dX0_findTiles_21 : decode cX0_findTiles 21 = .ok (.getfield 22, 3) := by decide +kernel
theorem dX0_findTiles_24 : decode cX0_findTiles 24 = .ok (.iload_n 2, 1) := by decide +kernel
theorem dX0_findTiles_25 : decode cX0_findTiles 25 = .ok (.iaload, 1) := by decide +kernel
theorem dX0_findTiles_26 : decode cX0_findTiles 26 = .ok (.if_icmp .ne 18, 3) := by decide +kernel
theorem dX0_findTiles_29 : decode cX0_findTiles 29 = .ok (.aload_n 0, 1) := by decide +kernel
theorem dX0_findTiles_30 : decode cX0_findTiles 30 = .ok (.getfield 15, 3) := by decide +kernel
theorem dX0_findTiles_33 : decode cX0_findTiles 33 = .ok (.iload_n 2, 1) := by decide +kernel
theorem dX0_findTiles_34 : decode cX0_findTiles 34 = .ok (.iaload, 1) := by decide +kernel
theorem dX0_findTiles_35 : decode cX0_findTiles 35 = .ok (.aload_n 1, 1) := by decide +kernel
theorem dX0_findTiles_36 : decode cX0_findTiles 36 = .ok (.getfield 31, 3) := by decide +kernel
theorem dX0_findTiles_39 : decode cX0_findTiles 39 = .ok (.iload_n 2, 1) := by decide +kernel
theorem dX0_findTiles_40 : decode cX0_findTiles 40 = .ok (.iaload, 1) := by decide +kernel
theorem dX0_findTiles_41 : decode cX0_findTiles 41 = .ok (.if_icmp .eq 16, 3) := by decide +kernel
theorem dX0_findTiles_44 : decode cX0_findTiles 44 = .ok (.aload_n 0, 1) := by decide +kernel
theorem dX0_findTiles_45 : decode cX0_findTiles 45 = .ok (.dup, 1) := by decide +kernel
theorem dX0_findTiles_46 : decode cX0_findTiles 46 = .ok (.getfield 32, 3) := by decide +kernel
theorem dX0_findTiles_49 : decode cX0_findTiles 49 = .ok (.iload_n 2, 1) := by decide +kernel
theorem dX0_findTiles_50 : decode cX0_findTiles 50 = .ok (.invokestatic 35, 3) := by decide +kernel
theorem dX0_findTiles_53 : decode cX0_findTiles 53 = .ok (.ior, 1) := by decide +kernel
theorem dX0_findTiles_54 : decode cX0_findTiles 54 = .ok (.putfield 32, 3) := by decide +kernel
theorem dX0_findTiles_57 : decode cX0_findTiles 57 = .ok (.iinc 2 1, 3) := by decide +kernel
theorem dX0_findTiles_60 : decode cX0_findTiles 60 = .ok (.goto (-53), 3) := by decide +kernel
theorem dX0_findTiles_63 : decode cX0_findTiles 63 = .ok (.return_, 1) := by decide +kernel
theorem dX0_swapTiles_0 : decode cX0_swapTiles 0 = .ok (.iconst 0, 1) := by decide +kernel
theorem dX0_swapTiles_1 : decode cX0_swapTiles 1 = .ok (.istore_n 2, 1) := by decide +kernel
theorem dX0_swapTiles_2 : decode cX0_swapTiles 2 = .ok (.iload_n 2, 1) := by decide +kernel
theorem dX0_swapTiles_3 : decode cX0_swapTiles 3 = .ok (.sipush 192, 3) := by decide +kernel
theorem dX0_swapTiles_6 : decode cX0_swapTiles 6 = .ok (.if_icmp .ge 75, 3) := by decide +kernel
theorem dX0_swapTiles_9 : decode cX0_swapTiles 9 = .ok (.aload_n 0, 1) := by decide +kernel
theorem dX0_swapTiles_10 : decode cX0_swapTiles 10 = .ok (.getfield 32, 3) := by decide +kernel
theorem dX0_swapTiles_13 : decode cX0_swapTiles 13 = .ok (.iload_n 2, 1) := by decide +kernel
theorem dX0_swapTiles_14 : decode cX0_swapTiles 14 = .ok (.invokestatic 35, 3) := by decide +kernel
theorem dX0_swapTiles_17 : decode cX0_swapTiles 17 = .ok (.iand, 1) := by decide +kernel
theorem dX0_swapTiles_18 : decode cX0_swapTiles 18 = .ok (.ifCond .eq 57, 3) := by decide +kernel
theorem dX0_swapTiles_21 : decode cX0_swapTiles 21 = .ok (.aload_n 0, 1) := by decide +kernel
theorem dX0_swapTiles_22 : decode cX0_swapTiles 22 = .ok (.getfield 9, 3) := by decide +kernel
theorem dX0_swapTiles_25 : decode cX0_swapTiles 25 = .ok (.iload_n 2, 1) := by decide +kernel
theorem dX0_swapTiles_26 : decode cX0_swapTiles 26 = .ok (.iaload, 1) := by decide +kernel
theorem dX0_swapTiles_27 : decode cX0_swapTiles 27 = .ok (.istore_n 3, 1) := by decide +kernel
theorem dX0_swapTiles_28 : decode cX0_swapTiles 28 = .ok (.aload_n 0, 1) := by decide +kernel
theorem dX0_swapTiles_29 : decode cX0_swapTiles 29 = .ok (.getfield 15, 3) := by decide +kernel
theorem dX0_swapTiles_32 : decode cX0_swapTiles 32 = .ok (.iload_n 2, 1) := by decide +kernel
theorem dX0_swapTiles_33 : decode cX0_swapTiles 33 = .ok (.iaload, 1) := by decide +kernel
theorem dX0_swapTiles_34 : decode cX0_swapTiles 34 = .ok (.istore 4, 2) := by decide +kernel
theorem dX0_swapTiles_36 : decode cX0_swapTiles 36 = .ok (.aload_n 0, 1) := by decide +kernel
theorem dX0_swapTiles_37 : decode cX0_swapTiles 37 = .ok (.getfield 9, 3) := by decide +kernel
theorem dX0_swapTiles_40 : decode cX0_swapTiles 40 = .ok (.iload_n 2, 1) := by decide +kernel
theorem dX0_swapTiles_41 : decode cX0_swapTiles 41 = .ok (.aload_n 1, 1) := by decide +kernel
theorem dX0_swapTiles_42 : decode cX0_swapTiles 42 = .ok (.getfield 22, 3) := by decide +kernel
theorem dX0_swapTiles_45 : decode cX0_swapTiles 45 = .ok (.iload_n 2, 1) := by decide +kernel
theorem dX0_swapTiles_46 : decode cX0_swapTiles 46 = .ok (.iaload, 1) := by decide +kernel
theorem dX0_swapTiles_47 : decode cX0_swapTiles 47 = .ok (.iastore, 1) := by decide +kernel
theorem dX0_swapTiles_48 : decode cX0_swapTiles 48 = .ok (.aload_n 0, 1) := by decide +kernel
theorem dX0_swapTiles_49 : decode cX0_swapTiles 49 = .ok (.getfield 15, 3) := by decide +kernel
theorem dX0_swapTiles_52 : decode cX0_swapTiles 52 = .ok (.iload_n 2, 1) := by decide +kernel
theorem dX0_swapTiles_53 : decode cX0_swapTiles 53 = .ok (.aload_n 1, 1) := by decide +kernel
theorem dX0_swapTiles_54 : decode cX0_swapTiles 54 = .ok (.getfield 31, 3) := by decide +kernel
theorem dX0_swapTiles_57 : decode cX0_swapTiles 57 = .ok (.iload_n 2, 1) := by decide +kernel
theorem dX0_swapTiles_58 : decode cX0_swapTiles 58 = .ok (.iaload, 1) := by decide +kernel
theorem dX0_swapTiles_59 : decode cX0_swapTiles 59 = .ok (.iastore, 1) := by decide +kernel
theorem dX0_swapTiles_60 : decode cX0_swapTiles 60 = .ok (.aload_n 1, 1) := by decide +kernel
theorem dX0_swapTiles_61 : decode cX0_swapTiles 61 = .ok (.getfield 22, 3) := by decide +kernel
theorem dX0_swapTiles_64 : decode cX0_swapTiles 64 = .ok (.iload_n 2, 1) := by decide +kernel
theorem dX0_swapTiles_65 : decode cX0_swapTiles 65 = .ok (.iload_n 3, 1) := by decide +kernel
theorem dX0_swapTiles_66 : decode cX0_swapTiles 66 = .ok (.iastore, 1) := by decide +kernel
theorem dX0_swapTiles_67 : decode cX0_swapTiles 67 = .ok (.aload_n 1, 1) := by decide +kernel
theorem dX0_swapTiles_68 : decode cX0_swapTiles 68 = .ok (.getfield 31, 3) := by decide +kernel
theorem dX0_swapTiles_71 : decode cX0_swapTiles 71 = .ok (.iload_n 2, 1) := by decide +kernel
theorem dX0_swapTiles_72 : decode cX0_swapTiles 72 = .ok (.iload 4, 2) := by decide +kernel
theorem dX0_swapTiles_74 : decode cX0_swapTiles 74 = .ok (.iastore, 1) := by decide +kernel
theorem dX0_swapTiles_75 : decode cX0_swapTiles 75 = .ok (.iinc 2 1, 3) := by decide +kernel
theorem dX0_swapTiles_78 : decode cX0_swapTiles 78 = .ok (.goto (-76), 3) := by decide +kernel
theorem dX0_swapTiles_81 : decode cX0_swapTiles 81 = .ok (.return_, 1) := by decide +kernel
theorem dX0_tileBit_0 : decode cX0_tileBit 0 = .ok (.iload_n 0, 1) := by decide +kernel
theorem dX0_tileBit_1 : decode cX0_tileBit 1 = .ok (.bipush 16, 2) := by decide +kernel
theorem dX0_tileBit_3 : decode cX0_tileBit 3 = .ok (.irem, 1) := by decide +kernel
theorem dX0_tileBit_4 : decode cX0_tileBit 4 = .ok (.iconst 4, 1) := by decide +kernel
theorem dX0_tileBit_5 : decode cX0_tileBit 5 = .ok (.idiv, 1) := by decide +kernel
theorem dX0_tileBit_6 : decode cX0_tileBit 6 = .ok (.istore_n 1, 1) := by decide +kernel
theorem dX0_tileBit_7 : decode cX0_tileBit 7 = .ok (.iload_n 0, 1) := by decide +kernel
theorem dX0_tileBit_8 : decode cX0_tileBit 8 = .ok (.bipush 16, 2) := by decide +kernel
theorem dX0_tileBit_10 : decode cX0_tileBit 10 = .ok (.idiv, 1) := by decide +kernel
theorem dX0_tileBit_11 : decode cX0_tileBit 11 = .ok (.iconst 4, 1) := by decide +kernel
theorem dX0_tileBit_12 : decode cX0_tileBit 12 = .ok (.idiv, 1) := by decide +kernel
theorem dX0_tileBit_13 : decode cX0_tileBit 13 = .ok (.istore_n 2, 1) := by decide +kernel
theorem dX0_tileBit_14 : decode cX0_tileBit 14 = .ok (.iconst 1, 1) := by decide +kernel
theorem dX0_tileBit_15 : decode cX0_tileBit 15 = .ok (.iload_n 2, 1) := by decide +kernel
theorem dX0_tileBit_16 : decode cX0_tileBit 16 = .ok (.iconst 4, 1) := by decide +kernel
theorem dX0_tileBit_17 : decode cX0_tileBit 17 = .ok (.imul, 1) := by decide +kernel
theorem dX0_tileBit_18 : decode cX0_tileBit 18 = .ok (.iload_n 1, 1) := by decide +kernel
theorem dX0_tileBit_19 : decode cX0_tileBit 19 = .ok (.iadd, 1) := by decide +kernel
theorem dX0_tileBit_20 : decode cX0_tileBit 20 = .ok (.ishl, 1) := by decide +kernel
theorem dX0_tileBit_21 : decode cX0_tileBit 21 = .ok (.ireturn, 1) := by decide +kernel
theorem dX1_init_0 : decode cX1_init 0 = .ok (.aload_n 0, 1) := by decide +kernel
theorem dX1_init_1 : decode cX1_init 1 = .ok (.invokespecial 3, 3) := by decide +kernel
theorem dX1_init_4 : decode cX1_init 4 = .ok (.aload_n 0, 1) := by decide +kernel
theorem dX1_init_5 : decode cX1_init 5 = .ok (.bipush 11, 2) := by decide +kernel
theorem dX1_init_7 : decode cX1_init 7 = .ok (.anewarray 9, 3) := by decide +kernel
theorem dX1_init_10 : decode cX1_init 10 = .ok (.putfield 11, 3) := by decide +kernel
theorem dX1_init_13 : decode cX1_init 13 = .ok (.iconst 0, 1) := by decide +kernel
theorem dX1_init_14 : decode cX1_init 14 = .ok (.istore_n 1, 1) := by decide +kernel
theorem dX1_init_15 : decode cX1_init 15 = .ok (.iload_n 1, 1) := by decide +kernel
theorem dX1_init_16 : decode cX1_init 16 = .ok (.bipush 10, 2) := by decide +kernel
theorem dX1_init_18 : decode cX1_init 18 = .ok (.if_icmp .gt 22, 3) := by decide +kernel
theorem dX1_init_21 : decode cX1_init 21 = .ok (.aload_n 0, 1) := by decide +kernel
theorem dX1_init_22 : decode cX1_init 22 = .ok (.getfield 11, 3) := by decide +kernel
theorem dX1_init_25 : decode cX1_init 25 = .ok (.iload_n 1, 1) := by decide +kernel
theorem dX1_init_26 : decode cX1_init 26 = .ok (.new 9, 3) := by decide +kernel
theorem dX1_init_29 : decode cX1_init 29 = .ok (.dup, 1) := by decide +kernel
theorem dX1_init_30 : decode cX1_init 30 = .ok (.invokespecial 17, 3) := by decide +kernel
theorem dX1_init_33 : decode cX1_init 33 = .ok (.aastore, 1) := by decide +kernel
theorem dX1_init_34 : decode cX1_init 34 = .ok (.iinc 1 1, 3) := by decide +kernel
theorem dX1_init_37 : decode cX1_init 37 = .ok (.goto (-22), 3) := by decide +kernel
theorem dX1_init_40 : decode cX1_init 40 = .ok (.return_, 1) := by decide +kernel
theorem dX1_forget_0 : decode cX1_forget 0 = .ok (.aload_n 0, 1) := by decide +kernel
theorem dX1_forget_1 : decode cX1_forget 1 = .ok (.iconst 0, 1) := by decide +kernel
theorem dX1_forget_2 : decode cX1_forget 2 = .ok (.putfield 18, 3) := by decide +kernel
theorem dX1_forget_5 : decode cX1_forget 5 = .ok (.aload_n 0, 1) := by decide +kernel
theorem dX1_forget_6 : decode cX1_forget 6 = .ok (.iconst 0, 1) := by decide +kernel
theorem dX1_forget_7 : decode cX1_forget 7 = .ok (.putfield 22, 3) := by decide +kernel
theorem dX1_forget_10 : decode cX1_forget 10 = .ok (.return_, 1) := by decide +kernel
theorem dX1_become_0 : decode cX1_become 0 = .ok (.aload_n 0, 1) := by decide +kernel
theorem dX1_become_1 : decode cX1_become 1 = .ok (.aload_n 1, 1) := by decide +kernel
theorem dX1_become_2 : decode cX1_become 2 = .ok (.getfield 18, 3) := by decide +kernel
theorem dX1_become_5 : decode cX1_become 5 = .ok (.putfield 18, 3) := by decide +kernel
theorem dX1_become_8 : decode cX1_become 8 = .ok (.aload_n 0, 1) := by decide +kernel
theorem dX1_become_9 : decode cX1_become 9 = .ok (.aload_n 1, 1) := by decide +kernel
theorem dX1_become_10 : decode cX1_become 10 = .ok (.getfield 22, 3) := by decide +kernel
theorem dX1_become_13 : decode cX1_become 13 = .ok (.putfield 22, 3) := by decide +kernel
theorem dX1_become_16 : decode cX1_become 16 = .ok (.iconst 0, 1) := by decide +kernel
theorem dX1_become_17 : decode cX1_become 17 = .ok (.istore_n 2, 1) := by decide +kernel
theorem dX1_become_18 : decode cX1_become 18 = .ok (.iload_n 2, 1) := by decide +kernel
theorem dX1_become_19 : decode cX1_become 19 = .ok (.bipush 10, 2) := by decide +kernel
theorem dX1_become_21 : decode cX1_become 21 = .ok (.if_icmp .ge 24, 3) := by decide +kernel
theorem dX1_become_24 : decode cX1_become 24 = .ok (.aload_n 0, 1) := by decide +kernel
theorem dX1_become_25 : decode cX1_become 25 = .ok (.getfield 11, 3) := by decide +kernel
theorem dX1_become_28 : decode cX1_become 28 = .ok (.iload_n 2, 1) := by decide +kernel
theorem dX1_become_29 : decode cX1_become 29 = .ok (.aaload, 1) := by decide +kernel
theorem dX1_become_30 : decode cX1_become 30 = .ok (.aload_n 1, 1) := by decide +kernel
theorem dX1_become_31 : decode cX1_become 31 = .ok (.getfield 11, 3) := by decide +kernel
theorem dX1_become_34 : decode cX1_become 34 = .ok (.iload_n 2, 1) := by decide +kernel
theorem dX1_become_35 : decode cX1_become 35 = .ok (.aaload, 1) := by decide +kernel
theorem dX1_become_36 : decode cX1_become 36 = .ok (.invokevirtual 25, 3) := by decide +kernel
theorem dX1_become_39 : decode cX1_become 39 = .ok (.iinc 2 1, 3) := by decide +kernel
theorem dX1_become_42 : decode cX1_become 42 = .ok (.goto (-24), 3) := by decide +kernel
theorem dX1_become_45 : decode cX1_become 45 = .ok (.return_, 1) := by decide +kernel
theorem dX1_begin_0 : decode cX1_begin 0 = .ok (.aload_n 0, 1) := by decide +kernel
theorem dX1_begin_1 : decode cX1_begin 1 = .ok (.getfield 11, 3) := by decide +kernel
theorem dX1_begin_4 : decode cX1_begin 4 = .ok (.bipush 10, 2) := by decide +kernel
theorem dX1_begin_6 : decode cX1_begin 6 = .ok (.aaload, 1) := by decide +kernel
theorem dX1_begin_7 : decode cX1_begin 7 = .ok (.iload_n 1, 1) := by decide +kernel
theorem dX1_begin_8 : decode cX1_begin 8 = .ok (.aload_n 2, 1) := by decide +kernel
theorem dX1_begin_9 : decode cX1_begin 9 = .ok (.invokevirtual 29, 3) := by decide +kernel
theorem dX1_begin_12 : decode cX1_begin 12 = .ok (.return_, 1) := by decide +kernel
theorem dX1_end_0 : decode cX1_end 0 = .ok (.aload_n 0, 1) := by decide +kernel
theorem dX1_end_1 : decode cX1_end 1 = .ok (.getfield 11, 3) := by decide +kernel
theorem dX1_end_4 : decode cX1_end 4 = .ok (.bipush 10, 2) := by decide +kernel
theorem dX1_end_6 : decode cX1_end 6 = .ok (.aaload, 1) := by decide +kernel
theorem dX1_end_7 : decode cX1_end 7 = .ok (.astore_n 2, 1) := by decide +kernel
theorem dX1_end_8 : decode cX1_end 8 = .ok (.aload_n 2, 1) := by decide +kernel
theorem dX1_end_9 : decode cX1_end 9 = .ok (.aload_n 1, 1) := by decide +kernel
theorem dX1_end_10 : decode cX1_end 10 = .ok (.invokevirtual 33, 3) := by decide +kernel
theorem dX1_end_13 : decode cX1_end 13 = .ok (.aload_n 2, 1) := by decide +kernel
theorem dX1_end_14 : decode cX1_end 14 = .ok (.getfield 37, 3) := by decide +kernel
theorem dX1_end_17 : decode cX1_end 17 = .ok (.ifCond .ne 4, 3) := by decide +kernel
theorem dX1_end_20 : decode cX1_end 20 = .ok (.return_, 1) := by decide +kernel
theorem dX1_end_21 : decode cX1_end 21 = .ok (.aload_n 0, 1) := by decide +kernel
theorem dX1_end_22 : decode cX1_end 22 = .ok (.iconst 0, 1) := by decide +kernel
theorem dX1_end_23 : decode cX1_end 23 = .ok (.putfield 22, 3) := by decide +kernel
theorem dX1_end_26 : decode cX1_end 26 = .ok (.aload_n 0, 1) := by decide +kernel
theorem dX1_end_27 : decode cX1_end 27 = .ok (.getfield 18, 3) := by decide +kernel
theorem dX1_end_30 : decode cX1_end 30 = .ok (.bipush 10, 2) := by decide +kernel
theorem dX1_end_32 : decode cX1_end 32 = .ok (.if_icmp .lt 7, 3) := by decide +kernel
theorem dX1_end_35 : decode cX1_end 35 = .ok (.aload_n 0, 1) := by decide +kernel
theorem dX1_end_36 : decode cX1_end 36 = .ok (.invokevirtual 40, 3) := by decide +kernel
theorem dX1_end_39 : decode cX1_end 39 = .ok (.aload_n 0, 1) := by decide +kernel
theorem dX1_end_40 : decode cX1_end 40 = .ok (.getfield 11, 3) := by decide +kernel
theorem dX1_end_43 : decode cX1_end 43 = .ok (.bipush 10, 2) := by decide +kernel
theorem dX1_end_45 : decode cX1_end 45 = .ok (.aload_n 0, 1) := by decide +kernel
theorem dX1_end_46 : decode cX1_end 46 = .ok (.getfield 11, 3) := by decide +kernel
theorem dX1_end_49 : decode cX1_end 49 = .ok (.aload_n 0, 1) := by decide +kernel
theorem dX1_end_50 : decode cX1_end 50 = .ok (.getfield 18, 3) := by decide +kernel
theorem dX1_end_53 : decode cX1_end 53 = .ok (.aaload, 1) := by decide +kernel
theorem dX1_end_54 : decode cX1_end 54 = .ok (.aastore, 1) := by decide +kernel
theorem dX1_end_55 : decode cX1_end 55 = .ok (.aload_n 0, 1) := by decide +kernel
theorem dX1_end_56 : decode cX1_end 56 = .ok (.getfield 11, 3) := by decide +kernel
theorem dX1_end_59 : decode cX1_end 59 = .ok (.aload_n 0, 1) := by decide +kernel
theorem dX1_end_60 : decode cX1_end 60 = .ok (.getfield 18, 3) := by decide +kernel
theorem dX1_end_63 : decode cX1_end 63 = .ok (.aload_n 2, 1) := by decide +kernel
theorem dX1_end_64 : decode cX1_end 64 = .ok (.aastore, 1) := by decide +kernel
theorem dX1_end_65 : decode cX1_end 65 = .ok (.aload_n 0, 1) := by decide +kernel
theorem dX1_end_66 : decode cX1_end 66 = .ok (.dup, 1) := by decide +kernel
theorem dX1_end_67 : decode cX1_end 67 = .ok (.getfield 18, 3) := by decide +kernel
theorem dX1_end_70 : decode cX1_end 70 = .ok (.iconst 1, 1) := by decide +kernel
theorem dX1_end_71 : decode cX1_end 71 = .ok (.iadd, 1) := by decide +kernel
theorem dX1_end_72 : decode cX1_end 72 = .ok (.putfield 18, 3) := by decide +kernel
theorem dX1_end_75 : decode cX1_end 75 = .ok (.return_, 1) := by decide +kernel
theorem dX1_dropOldest_0 : decode cX1_dropOldest 0 = .ok (.aload_n 0, 1) := by decide +kernel
theorem dX1_dropOldest_1 : decode cX1_dropOldest 1 = .ok (.getfield 11, 3) := by decide +kernel
theorem dX1_dropOldest_4 : decode cX1_dropOldest 4 = .ok (.iconst 0, 1) := by decide +kernel
theorem dX1_dropOldest_5 : decode cX1_dropOldest 5 = .ok (.aaload, 1) := by decide +kernel
theorem dX1_dropOldest_6 : decode cX1_dropOldest 6 = .ok (.astore_n 1, 1) := by decide +kernel
theorem dX1_dropOldest_7 : decode cX1_dropOldest 7 = .ok (.iconst 0, 1) := by decide +kernel
theorem dX1_dropOldest_8 : decode cX1_dropOldest 8 = .ok (.istore_n 2, 1) := by decide +kernel
theorem dX1_dropOldest_9 : decode cX1_dropOldest 9 = .ok (.iload_n 2, 1) := by decide +kernel
theorem dX1_dropOldest_10 : decode cX1_dropOldest 10 = .ok (.bipush 9, 2) := by decide +kernel
theorem dX1_dropOldest_12 : decode cX1_dropOldest 12 = .ok (.if_icmp .ge 23, 3) := by decide +kernel
theorem dX1_dropOldest_15 : decode cX1_dropOldest 15 = .ok (.aload_n 0, 1) := by decide +kernel
theorem dX1_dropOldest_16 : decode cX1_dropOldest 16 = .ok (.getfield 11, 3) := by decide +kernel
theorem dX1_dropOldest_19 : decode cX1_dropOldest 19 = .ok (.iload_n 2, 1) := by decide +kernel
theorem dX1_dropOldest_20 : decode cX1_dropOldest 20 = .ok (.aload_n 0, 1) := by decide +kernel
theorem dX1_dropOldest_21 : decode cX1_dropOldest 21 = .ok (.getfield 11, 3) := by decide +kernel
theorem dX1_dropOldest_24 : decode cX1_dropOldest 24 = .ok (.iload_n 2, 1) := by decide +kernel
theorem dX1_dropOldest_25 : decode cX1_dropOldest 25 = .ok (.iconst 1, 1) := by decide +kernel
theorem dX1_dropOldest_26 : decode cX1_dropOldest 26 = .ok (.iadd, 1) := by decide +kernel
theorem dX1_dropOldest_27 : decode cX1_dropOldest 27 = .ok (.aaload, 1) := by decide +kernel
theorem dX1_dropOldest_28 : decode cX1_dropOldest 28 = .ok (.aastore, 1) := by decide +kernel
theorem dX1_dropOldest_29 : decode cX1_dropOldest 29 = .ok (.iinc 2 1, 3) := by decide +kernel
theorem dX1_dropOldest_32 : decode cX1_dropOldest 32 = .ok (.goto (-23), 3) := by decide +kernel
theorem dX1_dropOldest_35 : decode cX1_dropOldest 35 = .ok (.aload_n 0, 1) := by decide +kernel
theorem dX1_dropOldest_36 : decode cX1_dropOldest 36 = .ok (.getfield 11, 3) := by decide +kernel
theorem dX1_dropOldest_39 : decode cX1_dropOldest 39 = .ok (.bipush 9, 2) := by decide +kernel
theorem dX1_dropOldest_41 : decode cX1_dropOldest 41 = .ok (.aload_n 1, 1) := by decide +kernel
theorem dX1_dropOldest_42 : decode cX1_dropOldest 42 = .ok (.aastore, 1) := by decide +kernel
theorem dX1_dropOldest_43 : decode cX1_dropOldest 43 = .ok (.aload_n 0, 1) := by decide +kernel
theorem dX1_dropOldest_44 : decode cX1_dropOldest 44 = .ok (.bipush 9, 2) := by decide +kernel
theorem dX1_dropOldest_46 : decode cX1_dropOldest 46 = .ok (.putfield 18, 3) := by decide +kernel
theorem dX1_dropOldest_49 : decode cX1_dropOldest 49 = .ok (.return_, 1) := by decide +kernel
theorem dX1_takeBack_0 : decode cX1_takeBack 0 = .ok (.aload_n 0, 1) := by decide +kernel
theorem dX1_takeBack_1 : decode cX1_takeBack 1 = .ok (.getfield 18, 3) := by decide +kernel
theorem dX1_takeBack_4 : decode cX1_takeBack 4 = .ok (.ifCond .ne 6, 3) := by decide +kernel
theorem dX1_takeBack_7 : decode cX1_takeBack 7 = .ok (.bipush (-3), 2) := by decide +kernel
theorem dX1_takeBack_9 : decode cX1_takeBack 9 = .ok (.ireturn, 1) := by decide +kernel
theorem dX1_takeBack_10 : decode cX1_takeBack 10 = .ok (.aload_n 0, 1) := by decide +kernel
theorem dX1_takeBack_11 : decode cX1_takeBack 11 = .ok (.dup, 1) := by decide +kernel
theorem dX1_takeBack_12 : decode cX1_takeBack 12 = .ok (.getfield 18, 3) := by decide +kernel
theorem dX1_takeBack_15 : decode cX1_takeBack 15 = .ok (.iconst 1, 1) := by decide +kernel
theorem dX1_takeBack_16 : decode cX1_takeBack 16 = .ok (.isub, 1) := by decide +kernel
theorem dX1_takeBack_17 : decode cX1_takeBack 17 = .ok (.putfield 18, 3) := by decide +kernel
theorem dX1_takeBack_20 : decode cX1_takeBack 20 = .ok (.aload_n 0, 1) := by decide +kernel
theorem dX1_takeBack_21 : decode cX1_takeBack 21 = .ok (.dup, 1) := by decide +kernel
theorem dX1_takeBack_22 : decode cX1_takeBack 22 = .ok (.getfield 22, 3) := by decide +kernel
theorem dX1_takeBack_25 : decode cX1_takeBack 25 = .ok (.iconst 1, 1) := by decide +kernel
theorem dX1_takeBack_26 : decode cX1_takeBack 26 = .ok (.iadd, 1) := by decide +kernel
theorem dX1_takeBack_27 : decode cX1_takeBack 27 = .ok (.putfield 22, 3) := by decide +kernel
theorem dX1_takeBack_30 : decode cX1_takeBack 30 = .ok (.aload_n 0, 1) := by decide +kernel
theorem dX1_takeBack_31 : decode cX1_takeBack 31 = .ok (.getfield 11, 3) := by decide +kernel
theorem dX1_takeBack_34 : decode cX1_takeBack 34 = .ok (.aload_n 0, 1) := by decide +kernel
theorem dX1_takeBack_35 : decode cX1_takeBack 35 = .ok (.getfield 18, 3) := by decide +kernel
theorem dX1_takeBack_38 : decode cX1_takeBack 38 = .ok (.aaload, 1) := by decide +kernel
theorem dX1_takeBack_39 : decode cX1_takeBack 39 = .ok (.aload_n 1, 1) := by decide +kernel
theorem dX1_takeBack_40 : decode cX1_takeBack 40 = .ok (.invokestatic 43, 3) := by decide +kernel
theorem dX1_takeBack_43 : decode cX1_takeBack 43 = .ok (.ireturn, 1) := by decide +kernel
theorem dX1_doAgain_0 : decode cX1_doAgain 0 = .ok (.aload_n 0, 1) := by decide +kernel
theorem dX1_doAgain_1 : decode cX1_doAgain 1 = .ok (.getfield 22, 3) := by decide +kernel
theorem dX1_doAgain_4 : decode cX1_doAgain 4 = .ok (.ifCond .ne 6, 3) := by decide +kernel
theorem dX1_doAgain_7 : decode cX1_doAgain 7 = .ok (.bipush (-3), 2) := by decide +kernel
theorem dX1_doAgain_9 : decode cX1_doAgain 9 = .ok (.ireturn, 1) := by decide +kernel
theorem dX1_doAgain_10 : decode cX1_doAgain 10 = .ok (.aload_n 0, 1) := by decide +kernel
theorem dX1_doAgain_11 : decode cX1_doAgain 11 = .ok (.dup, 1) := by decide +kernel
theorem dX1_doAgain_12 : decode cX1_doAgain 12 = .ok (.getfield 18, 3) := by decide +kernel
theorem dX1_doAgain_15 : decode cX1_doAgain 15 = .ok (.iconst 1, 1) := by decide +kernel
theorem dX1_doAgain_16 : decode cX1_doAgain 16 = .ok (.iadd, 1) := by decide +kernel
theorem dX1_doAgain_17 : decode cX1_doAgain 17 = .ok (.putfield 18, 3) := by decide +kernel
theorem dX1_doAgain_20 : decode cX1_doAgain 20 = .ok (.aload_n 0, 1) := by decide +kernel
theorem dX1_doAgain_21 : decode cX1_doAgain 21 = .ok (.dup, 1) := by decide +kernel
theorem dX1_doAgain_22 : decode cX1_doAgain 22 = .ok (.getfield 22, 3) := by decide +kernel
theorem dX1_doAgain_25 : decode cX1_doAgain 25 = .ok (.iconst 1, 1) := by decide +kernel
theorem dX1_doAgain_26 : decode cX1_doAgain 26 = .ok (.isub, 1) := by decide +kernel
theorem dX1_doAgain_27 : decode cX1_doAgain 27 = .ok (.putfield 22, 3) := by decide +kernel
theorem dX1_doAgain_30 : decode cX1_doAgain 30 = .ok (.aload_n 0, 1) := by decide +kernel
theorem dX1_doAgain_31 : decode cX1_doAgain 31 = .ok (.getfield 11, 3) := by decide +kernel
theorem dX1_doAgain_34 : decode cX1_doAgain 34 = .ok (.aload_n 0, 1) := by decide +kernel
theorem dX1_doAgain_35 : decode cX1_doAgain 35 = .ok (.getfield 18, 3) := by decide +kernel
theorem dX1_doAgain_38 : decode cX1_doAgain 38 = .ok (.iconst 1, 1) := by decide +kernel
theorem dX1_doAgain_39 : decode cX1_doAgain 39 = .ok (.isub, 1) := by decide +kernel
theorem dX1_doAgain_40 : decode cX1_doAgain 40 = .ok (.aaload, 1) := by decide +kernel
theorem dX1_doAgain_41 : decode cX1_doAgain 41 = .ok (.aload_n 1, 1) := by decide +kernel
theorem dX1_doAgain_42 : decode cX1_doAgain 42 = .ok (.invokestatic 43, 3) := by decide +kernel
theorem dX1_doAgain_45 : decode cX1_doAgain 45 = .ok (.ireturn, 1) := by decide +kernel
theorem dX1_swapped_0 : decode cX1_swapped 0 = .ok (.aload_n 0, 1) := by decide +kernel
theorem dX1_swapped_1 : decode cX1_swapped 1 = .ok (.aload_n 1, 1) := by decide +kernel
theorem dX1_swapped_2 : decode cX1_swapped 2 = .ok (.aload_n 0, 1) := by decide +kernel
theorem dX1_swapped_3 : decode cX1_swapped 3 = .ok (.getfield 47, 3) := by decide +kernel
theorem dX1_swapped_6 : decode cX1_swapped 6 = .ok (.aaload, 1) := by decide +kernel
theorem dX1_swapped_7 : decode cX1_swapped 7 = .ok (.invokevirtual 50, 3) := by decide +kernel
theorem dX1_swapped_10 : decode cX1_swapped 10 = .ok (.aload_n 0, 1) := by decide +kernel
theorem dX1_swapped_11 : decode cX1_swapped 11 = .ok (.getfield 37, 3) := by decide +kernel
theorem dX1_swapped_14 : decode cX1_swapped 14 = .ok (.invokestatic 53, 3) := by decide +kernel
theorem dX1_swapped_17 : decode cX1_swapped 17 = .ok (.ireturn, 1) := by decide +kernel
theorem dX1_tileCount_0 : decode cX1_tileCount 0 = .ok (.iconst 0, 1) := by decide +kernel
theorem dX1_tileCount_1 : decode cX1_tileCount 1 = .ok (.istore_n 1, 1) := by decide +kernel
theorem dX1_tileCount_2 : decode cX1_tileCount 2 = .ok (.iconst 0, 1) := by decide +kernel
theorem dX1_tileCount_3 : decode cX1_tileCount 3 = .ok (.istore_n 2, 1) := by decide +kernel
theorem dX1_tileCount_4 : decode cX1_tileCount 4 = .ok (.iload_n 2, 1) := by decide +kernel
theorem dX1_tileCount_5 : decode cX1_tileCount 5 = .ok (.aload_n 0, 1) := by decide +kernel
theorem dX1_tileCount_6 : decode cX1_tileCount 6 = .ok (.getfield 18, 3) := by decide +kernel
theorem dX1_tileCount_9 : decode cX1_tileCount 9 = .ok (.aload_n 0, 1) := by decide +kernel
theorem dX1_tileCount_10 : decode cX1_tileCount 10 = .ok (.getfield 22, 3) := by decide +kernel
theorem dX1_tileCount_13 : decode cX1_tileCount 13 = .ok (.iadd, 1) := by decide +kernel
theorem dX1_tileCount_14 : decode cX1_tileCount 14 = .ok (.if_icmp .ge 24, 3) := by decide +kernel
theorem dX1_tileCount_17 : decode cX1_tileCount 17 = .ok (.iload_n 1, 1) := by decide +kernel
theorem dX1_tileCount_18 : decode cX1_tileCount 18 = .ok (.aload_n 0, 1) := by decide +kernel
theorem dX1_tileCount_19 : decode cX1_tileCount 19 = .ok (.getfield 11, 3) := by decide +kernel
theorem dX1_tileCount_22 : decode cX1_tileCount 22 = .ok (.iload_n 2, 1) := by decide +kernel
theorem dX1_tileCount_23 : decode cX1_tileCount 23 = .ok (.aaload, 1) := by decide +kernel
theorem dX1_tileCount_24 : decode cX1_tileCount 24 = .ok (.getfield 37, 3) := by decide +kernel
theorem dX1_tileCount_27 : decode cX1_tileCount 27 = .ok (.invokestatic 53, 3) := by decide +kernel
theorem dX1_tileCount_30 : decode cX1_tileCount 30 = .ok (.iadd, 1) := by decide +kernel
theorem dX1_tileCount_31 : decode cX1_tileCount 31 = .ok (.istore_n 1, 1) := by decide +kernel
theorem dX1_tileCount_32 : decode cX1_tileCount 32 = .ok (.iinc 2 1, 3) := by decide +kernel
theorem dX1_tileCount_35 : decode cX1_tileCount 35 = .ok (.goto (-31), 3) := by decide +kernel
theorem dX1_tileCount_38 : decode cX1_tileCount 38 = .ok (.iload_n 1, 1) := by decide +kernel
theorem dX1_tileCount_39 : decode cX1_tileCount 39 = .ok (.ireturn, 1) := by decide +kernel
theorem dX2_init_0 : decode cX2_init 0 = .ok (.aload_n 0, 1) := by decide +kernel
theorem dX2_init_1 : decode cX2_init 1 = .ok (.invokespecial 3, 3) := by decide +kernel
theorem dX2_init_4 : decode cX2_init 4 = .ok (.aload_n 0, 1) := by decide +kernel
theorem dX2_init_5 : decode cX2_init 5 = .ok (.iconst 0, 1) := by decide +kernel
theorem dX2_init_6 : decode cX2_init 6 = .ok (.putfield 9, 3) := by decide +kernel
theorem dX2_init_9 : decode cX2_init 9 = .ok (.aload_n 0, 1) := by decide +kernel
theorem dX2_init_10 : decode cX2_init 10 = .ok (.iconst 1, 1) := by decide +kernel
theorem dX2_init_11 : decode cX2_init 11 = .ok (.putfield 15, 3) := by decide +kernel
theorem dX2_init_14 : decode cX2_init 14 = .ok (.aload_n 0, 1) := by decide +kernel
theorem dX2_init_15 : decode cX2_init 15 = .ok (.iconst 0, 1) := by decide +kernel
theorem dX2_init_16 : decode cX2_init 16 = .ok (.putfield 18, 3) := by decide +kernel
theorem dX2_init_19 : decode cX2_init 19 = .ok (.aload_n 0, 1) := by decide +kernel
theorem dX2_init_20 : decode cX2_init 20 = .ok (.bipush 9, 2) := by decide +kernel
theorem dX2_init_22 : decode cX2_init 22 = .ok (.putfield 21, 3) := by decide +kernel
theorem dX2_init_25 : decode cX2_init 25 = .ok (.return_, 1) := by decide +kernel
theorem dX2_become_0 : decode cX2_become 0 = .ok (.aload_n 0, 1) := by decide +kernel
theorem dX2_become_1 : decode cX2_become 1 = .ok (.iload_n 1, 1) := by decide +kernel
theorem dX2_become_2 : decode cX2_become 2 = .ok (.putfield 9, 3) := by decide +kernel
theorem dX2_become_5 : decode cX2_become 5 = .ok (.aload_n 0, 1) := by decide +kernel
theorem dX2_become_6 : decode cX2_become 6 = .ok (.iload_n 2, 1) := by decide +kernel
theorem dX2_become_7 : decode cX2_become 7 = .ok (.putfield 15, 3) := by decide +kernel
theorem dX2_become_10 : decode cX2_become 10 = .ok (.aload_n 0, 1) := by decide +kernel
theorem dX2_become_11 : decode cX2_become 11 = .ok (.iload_n 3, 1) := by decide +kernel
theorem dX2_become_12 : decode cX2_become 12 = .ok (.putfield 18, 3) := by decide +kernel
theorem dX2_become_15 : decode cX2_become 15 = .ok (.aload_n 0, 1) := by decide +kernel
theorem dX2_become_16 : decode cX2_become 16 = .ok (.iload 4, 2) := by decide +kernel
theorem dX2_become_18 : decode cX2_become 18 = .ok (.putfield 21, 3) := by decide +kernel
theorem dX2_become_21 : decode cX2_become 21 = .ok (.return_, 1) := by decide +kernel
theorem dX2_coverAt_0 : decode cX2_coverAt 0 = .ok (.aload_n 0, 1) := by decide +kernel
theorem dX2_coverAt_1 : decode cX2_coverAt 1 = .ok (.getfield 9, 3) := by decide +kernel
theorem dX2_coverAt_4 : decode cX2_coverAt 4 = .ok (.tableswitch 83 1 4 #[32, 39, 46, 64], 32) := by decide +kernel
theorem dX2_coverAt_36 : decode cX2_coverAt 36 = .ok (.aload_n 0, 1) := by decide +kernel
theorem dX2_coverAt_37 : decode cX2_coverAt 37 = .ok (.iload_n 1, 1) := by decide +kernel
theorem dX2_coverAt_38 : decode cX2_coverAt 38 = .ok (.iload_n 2, 1) := by decide +kernel
theorem dX2_coverAt_39 : decode cX2_coverAt 39 = .ok (.invokevirtual 24, 3) := by decide +kernel
theorem dX2_coverAt_42 : decode cX2_coverAt 42 = .ok (.ireturn, 1) := by decide +kernel
theorem dX2_coverAt_43 : decode cX2_coverAt 43 = .ok (.aload_n 0, 1) := by decide +kernel
theorem dX2_coverAt_44 : decode cX2_coverAt 44 = .ok (.iload_n 1, 1) := by decide +kernel
theorem dX2_coverAt_45 : decode cX2_coverAt 45 = .ok (.iload_n 2, 1) := by decide +kernel
theorem dX2_coverAt_46 : decode cX2_coverAt 46 = .ok (.invokevirtual 28, 3) := by decide +kernel
theorem dX2_coverAt_49 : decode cX2_coverAt 49 = .ok (.ireturn, 1) := by decide +kernel
theorem dX2_coverAt_50 : decode cX2_coverAt 50 = .ok (.aload_n 0, 1) := by decide +kernel
theorem dX2_coverAt_51 : decode cX2_coverAt 51 = .ok (.iload_n 1, 1) := by decide +kernel
theorem dX2_coverAt_52 : decode cX2_coverAt 52 = .ok (.iload_n 2, 1) := by decide +kernel
theorem dX2_coverAt_53 : decode cX2_coverAt 53 = .ok (.invokevirtual 24, 3) := by decide +kernel
theorem dX2_coverAt_56 : decode cX2_coverAt 56 = .ok (.i2f, 1) := by decide +kernel
theorem dX2_coverAt_57 : decode cX2_coverAt 57 = .ok (.aload_n 0, 1) := by decide +kernel
theorem dX2_coverAt_58 : decode cX2_coverAt 58 = .ok (.getfield 21, 3) := by decide +kernel
theorem dX2_coverAt_61 : decode cX2_coverAt 61 = .ok (.i2f, 1) := by decide +kernel
theorem dX2_coverAt_62 : decode cX2_coverAt 62 = .ok (.fmul, 1) := by decide +kernel
theorem dX2_coverAt_63 : decode cX2_coverAt 63 = .ok (.ldc 31, 2) := by decide +kernel
theorem dX2_coverAt_65 : decode cX2_coverAt 65 = .ok (.fdiv, 1) := by decide +kernel
theorem dX2_coverAt_66 : decode cX2_coverAt 66 = .ok (.f2i, 1) := by decide +kernel
theorem dX2_coverAt_67 : decode cX2_coverAt 67 = .ok (.ireturn, 1) := by decide +kernel
theorem dX2_coverAt_68 : decode cX2_coverAt 68 = .ok (.iload_n 1, 1) := by decide +kernel
theorem dX2_coverAt_69 : decode cX2_coverAt 69 = .ok (.ifCond .eq 7, 3) := by decide +kernel
theorem dX2_coverAt_72 : decode cX2_coverAt 72 = .ok (.iload_n 2, 1) := by decide +kernel
theorem dX2_coverAt_73 : decode cX2_coverAt 73 = .ok (.ifCond .ne 12, 3) := by decide +kernel
theorem dX2_coverAt_76 : decode cX2_coverAt 76 = .ok (.aload_n 0, 1) := by decide +kernel
theorem dX2_coverAt_77 : decode cX2_coverAt 77 = .ok (.iload_n 1, 1) := by decide +kernel
theorem dX2_coverAt_78 : decode cX2_coverAt 78 = .ok (.iload_n 2, 1) := by decide +kernel
theorem dX2_coverAt_79 : decode cX2_coverAt 79 = .ok (.invokevirtual 28, 3) := by decide +kernel
theorem dX2_coverAt_82 : decode cX2_coverAt 82 = .ok (.goto 4, 3) := by decide +kernel
theorem dX2_coverAt_85 : decode cX2_coverAt 85 = .ok (.iconst 0, 1) := by decide +kernel
theorem dX2_coverAt_86 : decode cX2_coverAt 86 = .ok (.ireturn, 1) := by decide +kernel
theorem dX2_coverAt_87 : decode cX2_coverAt 87 = .ok (.aload_n 0, 1) := by decide +kernel
theorem dX2_coverAt_88 : decode cX2_coverAt 88 = .ok (.iload_n 1, 1) := by decide +kernel
theorem dX2_coverAt_89 : decode cX2_coverAt 89 = .ok (.iload_n 2, 1) := by decide +kernel
theorem dX2_coverAt_90 : decode cX2_coverAt 90 = .ok (.invokevirtual 32, 3) := by decide +kernel
theorem dX2_coverAt_93 : decode cX2_coverAt 93 = .ok (.ireturn, 1) := by decide +kernel
theorem dX2_round_0 : decode cX2_round 0 = .ok (.iload_n 1, 1) := by decide +kernel
theorem dX2_round_1 : decode cX2_round 1 = .ok (.iload_n 1, 1) := by decide +kernel
theorem dX2_round_2 : decode cX2_round 2 = .ok (.imul, 1) := by decide +kernel
theorem dX2_round_3 : decode cX2_round 3 = .ok (.iload_n 2, 1) := by decide +kernel
theorem dX2_round_4 : decode cX2_round 4 = .ok (.iload_n 2, 1) := by decide +kernel
theorem dX2_round_5 : decode cX2_round 5 = .ok (.imul, 1) := by decide +kernel
theorem dX2_round_6 : decode cX2_round 6 = .ok (.iadd, 1) := by decide +kernel
theorem dX2_round_7 : decode cX2_round 7 = .ok (.aload_n 0, 1) := by decide +kernel
theorem dX2_round_8 : decode cX2_round 8 = .ok (.getfield 15, 3) := by decide +kernel
theorem dX2_round_11 : decode cX2_round 11 = .ok (.aload_n 0, 1) := by decide +kernel
theorem dX2_round_12 : decode cX2_round 12 = .ok (.getfield 15, 3) := by decide +kernel
theorem dX2_round_15 : decode cX2_round 15 = .ok (.imul, 1) := by decide +kernel
theorem dX2_round_16 : decode cX2_round 16 = .ok (.if_icmp .gt 9, 3) := by decide +kernel
theorem dX2_round_19 : decode cX2_round 19 = .ok (.sipush 255, 3) := by decide +kernel
theorem dX2_round_22 : decode cX2_round 22 = .ok (.goto 4, 3) := by decide +kernel
theorem dX2_round_25 : decode cX2_round 25 = .ok (.iconst 0, 1) := by decide +kernel
theorem dX2_round_26 : decode cX2_round 26 = .ok (.ireturn, 1) := by decide +kernel
theorem dX2_soft_0 : decode cX2_soft 0 = .ok (.iload_n 1, 1) := by decide +kernel
theorem dX2_soft_1 : decode cX2_soft 1 = .ok (.iload_n 1, 1) := by decide +kernel
theorem dX2_soft_2 : decode cX2_soft 2 = .ok (.imul, 1) := by decide +kernel
theorem dX2_soft_3 : decode cX2_soft 3 = .ok (.iload_n 2, 1) := by decide +kernel
theorem dX2_soft_4 : decode cX2_soft 4 = .ok (.iload_n 2, 1) := by decide +kernel
theorem dX2_soft_5 : decode cX2_soft 5 = .ok (.imul, 1) := by decide +kernel
theorem dX2_soft_6 : decode cX2_soft 6 = .ok (.iadd, 1) := by decide +kernel
theorem dX2_soft_7 : decode cX2_soft 7 = .ok (.i2f, 1) := by decide +kernel
theorem dX2_soft_8 : decode cX2_soft 8 = .ok (.fstore_n 3, 1) := by decide +kernel
theorem dX2_soft_9 : decode cX2_soft 9 = .ok (.aload_n 0, 1) := by decide +kernel
theorem dX2_soft_10 : decode cX2_soft 10 = .ok (.getfield 15, 3) := by decide +kernel
theorem dX2_soft_13 : decode cX2_soft 13 = .ok (.aload_n 0, 1) := by decide +kernel
theorem dX2_soft_14 : decode cX2_soft 14 = .ok (.getfield 15, 3) := by decide +kernel
theorem dX2_soft_17 : decode cX2_soft 17 = .ok (.imul, 1) := by decide +kernel
theorem dX2_soft_18 : decode cX2_soft 18 = .ok (.iconst 1, 1) := by decide +kernel
theorem dX2_soft_19 : decode cX2_soft 19 = .ok (.iadd, 1) := by decide +kernel
theorem dX2_soft_20 : decode cX2_soft 20 = .ok (.i2f, 1) := by decide +kernel
theorem dX2_soft_21 : decode cX2_soft 21 = .ok (.fstore 4, 2) := by decide +kernel
theorem dX2_soft_23 : decode cX2_soft 23 = .ok (.aload_n 0, 1) := by decide +kernel
theorem dX2_soft_24 : decode cX2_soft 24 = .ok (.iload_n 1, 1) := by decide +kernel
theorem dX2_soft_25 : decode cX2_soft 25 = .ok (.iload_n 2, 1) := by decide +kernel
theorem dX2_soft_26 : decode cX2_soft 26 = .ok (.invokevirtual 32, 3) := by decide +kernel
theorem dX2_soft_29 : decode cX2_soft 29 = .ok (.i2f, 1) := by decide +kernel
theorem dX2_soft_30 : decode cX2_soft 30 = .ok (.fconst 1, 1) := by decide +kernel
theorem dX2_soft_31 : decode cX2_soft 31 = .ok (.fload_n 3, 1) := by decide +kernel
theorem dX2_soft_32 : decode cX2_soft 32 = .ok (.fload 4, 2) := by decide +kernel
theorem dX2_soft_34 : decode cX2_soft 34 = .ok (.fdiv, 1) := by decide +kernel
theorem dX2_soft_35 : decode cX2_soft 35 = .ok (.fsub, 1) := by decide +kernel
theorem dX2_soft_36 : decode cX2_soft 36 = .ok (.fmul, 1) := by decide +kernel
theorem dX2_soft_37 : decode cX2_soft 37 = .ok (.f2i, 1) := by decide +kernel
theorem dX2_soft_38 : decode cX2_soft 38 = .ok (.ireturn, 1) := by decide +kernel
theorem dX2_square_0 : decode cX2_square 0 = .ok (.iload_n 1, 1) := by decide +kernel
theorem dX2_square_1 : decode cX2_square 1 = .ok (.invokestatic 35, 3) := by decide +kernel
theorem dX2_square_4 : decode cX2_square 4 = .ok (.aload_n 0, 1) := by decide +kernel
theorem dX2_square_5 : decode cX2_square 5 = .ok (.getfield 15, 3) := by decide +kernel
theorem dX2_square_8 : decode cX2_square 8 = .ok (.if_icmp .gt 20, 3) := by decide +kernel
theorem dX2_square_11 : decode cX2_square 11 = .ok (.iload_n 2, 1) := by decide +kernel
theorem dX2_square_12 : decode cX2_square 12 = .ok (.invokestatic 35, 3) := by decide +kernel
theorem dX2_square_15 : decode cX2_square 15 = .ok (.aload_n 0, 1) := by decide +kernel
theorem dX2_square_16 : decode cX2_square 16 = .ok (.getfield 15, 3) := by decide +kernel
theorem dX2_square_19 : decode cX2_square 19 = .ok (.if_icmp .gt 9, 3) := by decide +kernel
theorem dX2_square_22 : decode cX2_square 22 = .ok (.sipush 255, 3) := by decide +kernel
theorem dX2_square_25 : decode cX2_square 25 = .ok (.goto 4, 3) := by decide +kernel
theorem dX2_square_28 : decode cX2_square 28 = .ok (.iconst 0, 1) := by decide +kernel
theorem dX2_square_29 : decode cX2_square 29 = .ok (.ireturn, 1) := by decide +kernel
theorem dX3_init_0 : decode cX3_init 0 = .ok (.aload_n 0, 1) := by decide +kernel
theorem dX3_init_1 : decode cX3_init 1 = .ok (.invokespecial 3, 3) := by decide +kernel
theorem dX3_init_4 : decode cX3_init 4 = .ok (.aload_n 0, 1) := by decide +kernel
theorem dX3_init_5 : decode cX3_init 5 = .ok (.sipush 192, 3) := by decide +kernel
theorem dX3_init_8 : decode cX3_init 8 = .ok (.newarray .boolean, 2) := by decide +kernel
theorem dX3_init_10 : decode cX3_init 10 = .ok (.putfield 9, 3) := by decide +kernel
theorem dX3_init_13 : decode cX3_init 13 = .ok (.aload_n 0, 1) := by decide +kernel
theorem dX3_init_14 : decode cX3_init 14 = .ok (.sipush 192, 3) := by decide +kernel
theorem dX3_init_17 : decode cX3_init 17 = .ok (.newarray .int, 2) := by decide +kernel
theorem dX3_init_19 : decode cX3_init 19 = .ok (.putfield 15, 3) := by decide +kernel
theorem dX3_init_22 : decode cX3_init 22 = .ok (.aload_n 0, 1) := by decide +kernel
theorem dX3_init_23 : decode cX3_init 23 = .ok (.sipush 192, 3) := by decide +kernel
theorem dX3_init_26 : decode cX3_init 26 = .ok (.newarray .int, 2) := by decide +kernel
theorem dX3_init_28 : decode cX3_init 28 = .ok (.putfield 19, 3) := by decide +kernel
theorem dX3_init_31 : decode cX3_init 31 = .ok (.return_, 1) := by decide +kernel
theorem dX3_clear_0 : decode cX3_clear 0 = .ok (.iconst 0, 1) := by decide +kernel
theorem dX3_clear_1 : decode cX3_clear 1 = .ok (.istore_n 1, 1) := by decide +kernel
theorem dX3_clear_2 : decode cX3_clear 2 = .ok (.iload_n 1, 1) := by decide +kernel
theorem dX3_clear_3 : decode cX3_clear 3 = .ok (.sipush 192, 3) := by decide +kernel
theorem dX3_clear_6 : decode cX3_clear 6 = .ok (.if_icmp .ge 16, 3) := by decide +kernel
theorem dX3_clear_9 : decode cX3_clear 9 = .ok (.aload_n 0, 1) := by decide +kernel
theorem dX3_clear_10 : decode cX3_clear 10 = .ok (.getfield 9, 3) := by decide +kernel
theorem dX3_clear_13 : decode cX3_clear 13 = .ok (.iload_n 1, 1) := by decide +kernel
theorem dX3_clear_14 : decode cX3_clear 14 = .ok (.iconst 0, 1) := by decide +kernel
theorem dX3_clear_15 : decode cX3_clear 15 = .ok (.bastore, 1) := by decide +kernel
theorem dX3_clear_16 : decode cX3_clear 16 = .ok (.iinc 1 1, 3) := by decide +kernel
theorem dX3_clear_19 : decode cX3_clear 19 = .ok (.goto (-17), 3) := by decide +kernel
theorem dX3_clear_22 : decode cX3_clear 22 = .ok (.return_, 1) := by decide +kernel
theorem dX3_chooseBox_0 : decode cX3_chooseBox 0 = .ok (.aload_n 0, 1) := by decide +kernel
theorem dX3_chooseBox_1 : decode cX3_chooseBox 1 = .ok (.invokevirtual 22, 3) := by decide +kernel
theorem dX3_chooseBox_4 : decode cX3_chooseBox 4 = .ok (.iload_n 2, 1) := by decide +kernel
theorem dX3_chooseBox_5 : decode cX3_chooseBox 5 = .ok (.iload 4, 2) := by decide +kernel
theorem dX3_chooseBox_7 : decode cX3_chooseBox 7 = .ok (.invokestatic 25, 3) := by decide +kernel
theorem dX3_chooseBox_10 : decode cX3_chooseBox 10 = .ok (.istore 5, 2) := by decide +kernel
theorem dX3_chooseBox_12 : decode cX3_chooseBox 12 = .ok (.iload 5, 2) := by decide +kernel
theorem dX3_chooseBox_14 : decode cX3_chooseBox 14 = .ok (.iload_n 2, 1) := by decide +kernel
theorem dX3_chooseBox_15 : decode cX3_chooseBox 15 = .ok (.iload 4, 2) := by decide +kernel
theorem dX3_chooseBox_17 : decode cX3_chooseBox 17 = .ok (.invokestatic 31, 3) := by decide +kernel
theorem dX3_chooseBox_20 : decode cX3_chooseBox 20 = .ok (.if_icmp .gt 45, 3) := by decide +kernel
theorem dX3_chooseBox_23 : decode cX3_chooseBox 23 = .ok (.iload_n 1, 1) := by decide +kernel
theorem dX3_chooseBox_24 : decode cX3_chooseBox 24 = .ok (.iload_n 3, 1) := by decide +kernel
theorem dX3_chooseBox_25 : decode cX3_chooseBox 25 = .ok (.invokestatic 25, 3) := by decide +kernel
theorem dX3_chooseBox_28 : decode cX3_chooseBox 28 = .ok (.istore 6, 2) := by decide +kernel
theorem dX3_chooseBox_30 : decode cX3_chooseBox 30 = .ok (.iload 6, 2) := by decide +kernel
theorem dX3_chooseBox_32 : decode cX3_chooseBox 32 = .ok (.iload_n 1, 1) := by decide +kernel
theorem dX3_chooseBox_33 : decode cX3_chooseBox 33 = .ok (.iload_n 3, 1) := by decide +kernel
theorem dX3_chooseBox_34 : decode cX3_chooseBox 34 = .ok (.invokestatic 31, 3) := by decide +kernel
theorem dX3_chooseBox_37 : decode cX3_chooseBox 37 = .ok (.if_icmp .gt 22, 3) := by decide +kernel
theorem dX3_chooseBox_40 : decode cX3_chooseBox 40 = .ok (.aload_n 0, 1) := by decide +kernel
theorem dX3_chooseBox_41 : decode cX3_chooseBox 41 = .ok (.getfield 9, 3) := by decide +kernel
theorem dX3_chooseBox_44 : decode cX3_chooseBox 44 = .ok (.iload 6, 2) := by decide +kernel
theorem dX3_chooseBox_46 : decode cX3_chooseBox 46 = .ok (.iload 5, 2) := by decide +kernel
theorem dX3_chooseBox_48 : decode cX3_chooseBox 48 = .ok (.invokestatic 34, 3) := by decide +kernel
theorem dX3_chooseBox_51 : decode cX3_chooseBox 51 = .ok (.iconst 1, 1) := by decide +kernel
theorem dX3_chooseBox_52 : decode cX3_chooseBox 52 = .ok (.bastore, 1) := by decide +kernel
theorem dX3_chooseBox_53 : decode cX3_chooseBox 53 = .ok (.iinc 6 1, 3) := by decide +kernel
theorem dX3_chooseBox_56 : decode cX3_chooseBox 56 = .ok (.goto (-26), 3) := by decide +kernel
theorem dX3_chooseBox_59 : decode cX3_chooseBox 59 = .ok (.iinc 5 1, 3) := by decide +kernel
theorem dX3_chooseBox_62 : decode cX3_chooseBox 62 = .ok (.goto (-50), 3) := by decide +kernel
theorem dX3_chooseBox_65 : decode cX3_chooseBox 65 = .ok (.return_, 1) := by decide +kernel
theorem dX3_chooseRegion_0 : decode cX3_chooseRegion 0 = .ok (.aload_n 1, 1) := by decide +kernel
theorem dX3_chooseRegion_1 : decode cX3_chooseRegion 1 = .ok (.getfield 37, 3) := by decide +kernel
theorem dX3_chooseRegion_4 : decode cX3_chooseRegion 4 = .ok (.iload_n 2, 1) := by decide +kernel
theorem dX3_chooseRegion_5 : decode cX3_chooseRegion 5 = .ok (.iaload, 1) := by decide +kernel
theorem dX3_chooseRegion_6 : decode cX3_chooseRegion 6 = .ok (.istore 4, 2) := by decide +kernel
theorem dX3_chooseRegion_8 : decode cX3_chooseRegion 8 = .ok (.aload_n 1, 1) := by decide +kernel
theorem dX3_chooseRegion_9 : decode cX3_chooseRegion 9 = .ok (.getfield 42, 3) := by decide +kernel
theorem dX3_chooseRegion_12 : decode cX3_chooseRegion 12 = .ok (.iload_n 2, 1) := by decide +kernel
theorem dX3_chooseRegion_13 : decode cX3_chooseRegion 13 = .ok (.iaload, 1) := by decide +kernel
theorem dX3_chooseRegion_14 : decode cX3_chooseRegion 14 = .ok (.istore 5, 2) := by decide +kernel
theorem dX3_chooseRegion_16 : decode cX3_chooseRegion 16 = .ok (.iconst 0, 1) := by decide +kernel
theorem dX3_chooseRegion_17 : decode cX3_chooseRegion 17 = .ok (.istore 6, 2) := by decide +kernel
theorem dX3_chooseRegion_19 : decode cX3_chooseRegion 19 = .ok (.iload 6, 2) := by decide +kernel
theorem dX3_chooseRegion_21 : decode cX3_chooseRegion 21 = .ok (.sipush 192, 3) := by decide +kernel
theorem dX3_chooseRegion_24 : decode cX3_chooseRegion 24 = .ok (.if_icmp .ge 67, 3) := by decide +kernel
theorem dX3_chooseRegion_27 : decode cX3_chooseRegion 27 = .ok (.aload_n 1, 1) := by decide +kernel
theorem dX3_chooseRegion_28 : decode cX3_chooseRegion 28 = .ok (.getfield 37, 3) := by decide +kernel
theorem dX3_chooseRegion_31 : decode cX3_chooseRegion 31 = .ok (.iload 6, 2) := by decide +kernel
theorem dX3_chooseRegion_33 : decode cX3_chooseRegion 33 = .ok (.iaload, 1) := by decide +kernel
theorem dX3_chooseRegion_34 : decode cX3_chooseRegion 34 = .ok (.iload 4, 2) := by decide +kernel
theorem dX3_chooseRegion_36 : decode cX3_chooseRegion 36 = .ok (.isub, 1) := by decide +kernel
theorem dX3_chooseRegion_37 : decode cX3_chooseRegion 37 = .ok (.invokestatic 45, 3) := by decide +kernel
theorem dX3_chooseRegion_40 : decode cX3_chooseRegion 40 = .ok (.iload_n 3, 1) := by decide +kernel
theorem dX3_chooseRegion_41 : decode cX3_chooseRegion 41 = .ok (.if_icmp .gt 24, 3) := by decide +kernel
theorem dX3_chooseRegion_44 : decode cX3_chooseRegion 44 = .ok (.aload_n 1, 1) := by decide +kernel
theorem dX3_chooseRegion_45 : decode cX3_chooseRegion 45 = .ok (.getfield 42, 3) := by decide +kernel
theorem dX3_chooseRegion_48 : decode cX3_chooseRegion 48 = .ok (.iload 6, 2) := by decide +kernel
theorem dX3_chooseRegion_50 : decode cX3_chooseRegion 50 = .ok (.iaload, 1) := by decide +kernel
theorem dX3_chooseRegion_51 : decode cX3_chooseRegion 51 = .ok (.iload 5, 2) := by decide +kernel
theorem dX3_chooseRegion_53 : decode cX3_chooseRegion 53 = .ok (.isub, 1) := by decide +kernel
theorem dX3_chooseRegion_54 : decode cX3_chooseRegion 54 = .ok (.invokestatic 45, 3) := by decide +kernel
theorem dX3_chooseRegion_57 : decode cX3_chooseRegion 57 = .ok (.iload_n 3, 1) := by decide +kernel
theorem dX3_chooseRegion_58 : decode cX3_chooseRegion 58 = .ok (.if_icmp .gt 7, 3) := by decide +kernel
theorem dX3_chooseRegion_61 : decode cX3_chooseRegion 61 = .ok (.iconst 1, 1) := by decide +kernel
theorem dX3_chooseRegion_62 : decode cX3_chooseRegion 62 = .ok (.goto 4, 3) := by decide +kernel
theorem dX3_chooseRegion_65 : decode cX3_chooseRegion 65 = .ok (.iconst 0, 1) := by decide +kernel
theorem dX3_chooseRegion_66 : decode cX3_chooseRegion 66 = .ok (.istore 7, 2) := by decide +kernel
theorem dX3_chooseRegion_68 : decode cX3_chooseRegion 68 = .ok (.aload_n 0, 1) := by decide +kernel
theorem dX3_chooseRegion_69 : decode cX3_chooseRegion 69 = .ok (.getfield 15, 3) := by decide +kernel
theorem dX3_chooseRegion_72 : decode cX3_chooseRegion 72 = .ok (.iload 6, 2) := by decide +kernel
theorem dX3_chooseRegion_74 : decode cX3_chooseRegion 74 = .ok (.iload 7, 2) := by decide +kernel
theorem dX3_chooseRegion_76 : decode cX3_chooseRegion 76 = .ok (.ifCond .eq 7, 3) := by decide +kernel
theorem dX3_chooseRegion_79 : decode cX3_chooseRegion 79 = .ok (.iconst 1, 1) := by decide +kernel
theorem dX3_chooseRegion_80 : decode cX3_chooseRegion 80 = .ok (.goto 4, 3) := by decide +kernel
theorem dX3_chooseRegion_83 : decode cX3_chooseRegion 83 = .ok (.iconst 0, 1) := by decide +kernel
theorem dX3_chooseRegion_84 : decode cX3_chooseRegion 84 = .ok (.iastore, 1) := by decide +kernel
theorem dX3_chooseRegion_85 : decode cX3_chooseRegion 85 = .ok (.iinc 6 1, 3) := by decide +kernel
theorem dX3_chooseRegion_88 : decode cX3_chooseRegion 88 = .ok (.goto (-69), 3) := by decide +kernel
theorem dX3_chooseRegion_91 : decode cX3_chooseRegion 91 = .ok (.aload_n 0, 1) := by decide +kernel
theorem dX3_chooseRegion_92 : decode cX3_chooseRegion 92 = .ok (.invokevirtual 22, 3) := by decide +kernel
theorem dX3_chooseRegion_95 : decode cX3_chooseRegion 95 = .ok (.aload_n 0, 1) := by decide +kernel
theorem dX3_chooseRegion_96 : decode cX3_chooseRegion 96 = .ok (.iload_n 2, 1) := by decide +kernel
theorem dX3_chooseRegion_97 : decode cX3_chooseRegion 97 = .ok (.invokevirtual 49, 3) := by decide +kernel
theorem dX3_chooseRegion_100 : decode cX3_chooseRegion 100 = .ok (.pop, 1) := by decide +kernel
theorem dX3_chooseRegion_101 : decode cX3_chooseRegion 101 = .ok (.return_, 1) := by decide +kernel
theorem dX3_chooseBeside_0 : decode cX3_chooseBeside 0 = .ok (.iconst 0, 1) := by decide +kernel
theorem dX3_chooseBeside_1 : decode cX3_chooseBeside 1 = .ok (.istore_n 3, 1) := by decide +kernel
theorem dX3_chooseBeside_2 : decode cX3_chooseBeside 2 = .ok (.iload_n 3, 1) := by decide +kernel
theorem dX3_chooseBeside_3 : decode cX3_chooseBeside 3 = .ok (.sipush 192, 3) := by decide +kernel
theorem dX3_chooseBeside_6 : decode cX3_chooseBeside 6 = .ok (.if_icmp .ge 88, 3) := by decide +kernel
theorem dX3_chooseBeside_9 : decode cX3_chooseBeside 9 = .ok (.iload_n 3, 1) := by decide +kernel
theorem dX3_chooseBeside_10 : decode cX3_chooseBeside 10 = .ok (.bipush 16, 2) := by decide +kernel
theorem dX3_chooseBeside_12 : decode cX3_chooseBeside 12 = .ok (.irem, 1) := by decide +kernel
theorem dX3_chooseBeside_13 : decode cX3_chooseBeside 13 = .ok (.istore 4, 2) := by decide +kernel
theorem dX3_chooseBeside_15 : decode cX3_chooseBeside 15 = .ok (.iload_n 3, 1) := by decide +kernel
theorem dX3_chooseBeside_16 : decode cX3_chooseBeside 16 = .ok (.bipush 16, 2) := by decide +kernel
theorem dX3_chooseBeside_18 : decode cX3_chooseBeside 18 = .ok (.idiv, 1) := by decide +kernel
theorem dX3_chooseBeside_19 : decode cX3_chooseBeside 19 = .ok (.istore 5, 2) := by decide +kernel
theorem dX3_chooseBeside_21 : decode cX3_chooseBeside 21 = .ok (.aload_n 0, 1) := by decide +kernel
theorem dX3_chooseBeside_22 : decode cX3_chooseBeside 22 = .ok (.getfield 9, 3) := by decide +kernel
theorem dX3_chooseBeside_25 : decode cX3_chooseBeside 25 = .ok (.iload_n 3, 1) := by decide +kernel
theorem dX3_chooseBeside_26 : decode cX3_chooseBeside 26 = .ok (.aload_n 1, 1) := by decide +kernel
theorem dX3_chooseBeside_27 : decode cX3_chooseBeside 27 = .ok (.iload_n 2, 1) := by decide +kernel
theorem dX3_chooseBeside_28 : decode cX3_chooseBeside 28 = .ok (.iload 4, 2) := by decide +kernel
theorem dX3_chooseBeside_30 : decode cX3_chooseBeside 30 = .ok (.iconst 1, 1) := by decide +kernel
theorem dX3_chooseBeside_31 : decode cX3_chooseBeside 31 = .ok (.isub, 1) := by decide +kernel
theorem dX3_chooseBeside_32 : decode cX3_chooseBeside 32 = .ok (.iload 5, 2) := by decide +kernel
theorem dX3_chooseBeside_34 : decode cX3_chooseBeside 34 = .ok (.invokestatic 52, 3) := by decide +kernel
theorem dX3_chooseBeside_37 : decode cX3_chooseBeside 37 = .ok (.ifCond .ne 45, 3) := by decide +kernel
theorem dX3_chooseBeside_40 : decode cX3_chooseBeside 40 = .ok (.aload_n 1, 1) := by decide +kernel
theorem dX3_chooseBeside_41 : decode cX3_chooseBeside 41 = .ok (.iload_n 2, 1) := by decide +kernel
theorem dX3_chooseBeside_42 : decode cX3_chooseBeside 42 = .ok (.iload 4, 2) := by decide +kernel
theorem dX3_chooseBeside_44 : decode cX3_chooseBeside 44 = .ok (.iconst 1, 1) := by decide +kernel
theorem dX3_chooseBeside_45 : decode cX3_chooseBeside 45 = .ok (.iadd, 1) := by decide +kernel
theorem dX3_chooseBeside_46 : decode cX3_chooseBeside 46 = .ok (.iload 5, 2) := by decide +kernel
theorem dX3_chooseBeside_48 : decode cX3_chooseBeside 48 = .ok (.invokestatic 52, 3) := by decide +kernel
theorem dX3_chooseBeside_51 : decode cX3_chooseBeside 51 = .ok (.ifCond .ne 31, 3) := by decide +kernel
theorem dX3_chooseBeside_54 : decode cX3_chooseBeside 54 = .ok (.aload_n 1, 1) := by decide +kernel
theorem dX3_chooseBeside_55 : decode cX3_chooseBeside 55 = .ok (.iload_n 2, 1) := by decide +kernel
theorem dX3_chooseBeside_56 : decode cX3_chooseBeside 56 = .ok (.iload 4, 2) := by decide +kernel
theorem dX3_chooseBeside_58 : decode cX3_chooseBeside 58 = .ok (.iload 5, 2) := by decide +kernel
theorem dX3_chooseBeside_60 : decode cX3_chooseBeside 60 = .ok (.iconst 1, 1) := by decide +kernel
theorem dX3_chooseBeside_61 : decode cX3_chooseBeside 61 = .ok (.isub, 1) := by decide +kernel
theorem dX3_chooseBeside_62 : decode cX3_chooseBeside 62 = .ok (.invokestatic 52, 3) := by decide +kernel
theorem dX3_chooseBeside_65 : decode cX3_chooseBeside 65 = .ok (.ifCond .ne 17, 3) := by decide +kernel
theorem dX3_chooseBeside_68 : decode cX3_chooseBeside 68 = .ok (.aload_n 1, 1) := by decide +kernel
theorem dX3_chooseBeside_69 : decode cX3_chooseBeside 69 = .ok (.iload_n 2, 1) := by decide +kernel
theorem dX3_chooseBeside_70 : decode cX3_chooseBeside 70 = .ok (.iload 4, 2) := by decide +kernel
theorem dX3_chooseBeside_72 : decode cX3_chooseBeside 72 = .ok (.iload 5, 2) := by decide +kernel
theorem dX3_chooseBeside_74 : decode cX3_chooseBeside 74 = .ok (.iconst 1, 1) := by decide +kernel
theorem dX3_chooseBeside_75 : decode cX3_chooseBeside 75 = .ok (.iadd, 1) := by decide +kernel
theorem dX3_chooseBeside_76 : decode cX3_chooseBeside 76 = .ok (.invokestatic 52, 3) := by decide +kernel
theorem dX3_chooseBeside_79 : decode cX3_chooseBeside 79 = .ok (.ifCond .eq 7, 3) := by decide +kernel
theorem dX3_chooseBeside_82 : decode cX3_chooseBeside 82 = .ok (.iconst 1, 1) := by decide +kernel
theorem dX3_chooseBeside_83 : decode cX3_chooseBeside 83 = .ok (.goto 4, 3) := by decide +kernel
theorem dX3_chooseBeside_86 : decode cX3_chooseBeside 86 = .ok (.iconst 0, 1) := by decide +kernel
theorem dX3_chooseBeside_87 : decode cX3_chooseBeside 87 = .ok (.bastore, 1) := by decide +kernel
theorem dX3_chooseBeside_88 : decode cX3_chooseBeside 88 = .ok (.iinc 3 1, 3) := by decide +kernel
theorem dX3_chooseBeside_91 : decode cX3_chooseBeside 91 = .ok (.goto (-89), 3) := by decide +kernel
theorem dX3_chooseBeside_94 : decode cX3_chooseBeside 94 = .ok (.return_, 1) := by decide +kernel
theorem dX3_isHeldAs_0 : decode cX3_isHeldAs 0 = .ok (.iload_n 2, 1) := by decide +kernel
theorem dX3_isHeldAs_1 : decode cX3_isHeldAs 1 = .ok (.iload_n 3, 1) := by decide +kernel
theorem dX3_isHeldAs_2 : decode cX3_isHeldAs 2 = .ok (.invokestatic 56, 3) := by decide +kernel
theorem dX3_isHeldAs_5 : decode cX3_isHeldAs 5 = .ok (.ifCond .eq 18, 3) := by decide +kernel
theorem dX3_isHeldAs_8 : decode cX3_isHeldAs 8 = .ok (.aload_n 0, 1) := by decide +kernel
theorem dX3_isHeldAs_9 : decode cX3_isHeldAs 9 = .ok (.iload_n 2, 1) := by decide +kernel
theorem dX3_isHeldAs_10 : decode cX3_isHeldAs 10 = .ok (.iload_n 3, 1) := by decide +kernel
theorem dX3_isHeldAs_11 : decode cX3_isHeldAs 11 = .ok (.invokestatic 34, 3) := by decide +kernel
theorem dX3_isHeldAs_14 : decode cX3_isHeldAs 14 = .ok (.baload, 1) := by decide +kernel
theorem dX3_isHeldAs_15 : decode cX3_isHeldAs 15 = .ok (.iload_n 1, 1) := by decide +kernel
theorem dX3_isHeldAs_16 : decode cX3_isHeldAs 16 = .ok (.if_icmp .ne 7, 3) := by decide +kernel
theorem dX3_isHeldAs_19 : decode cX3_isHeldAs 19 = .ok (.iconst 1, 1) := by decide +kernel
theorem dX3_isHeldAs_20 : decode cX3_isHeldAs 20 = .ok (.goto 4, 3) := by decide +kernel
theorem dX3_isHeldAs_23 : decode cX3_isHeldAs 23 = .ok (.iconst 0, 1) := by decide +kernel
theorem dX3_isHeldAs_24 : decode cX3_isHeldAs 24 = .ok (.ireturn, 1) := by decide +kernel
theorem dX3_spreadFrom_0 : decode cX3_spreadFrom 0 = .ok (.aload_n 0, 1) := by decide +kernel
theorem dX3_spreadFrom_1 : decode cX3_spreadFrom 1 = .ok (.iconst 0, 1) := by decide +kernel
theorem dX3_spreadFrom_2 : decode cX3_spreadFrom 2 = .ok (.putfield 60, 3) := by decide +kernel
theorem dX3_spreadFrom_5 : decode cX3_spreadFrom 5 = .ok (.aload_n 0, 1) := by decide +kernel
theorem dX3_spreadFrom_6 : decode cX3_spreadFrom 6 = .ok (.iload_n 1, 1) := by decide +kernel
theorem dX3_spreadFrom_7 : decode cX3_spreadFrom 7 = .ok (.bipush 16, 2) := by decide +kernel
theorem dX3_spreadFrom_9 : decode cX3_spreadFrom 9 = .ok (.irem, 1) := by decide +kernel
theorem dX3_spreadFrom_10 : decode cX3_spreadFrom 10 = .ok (.iload_n 1, 1) := by decide +kernel
theorem dX3_spreadFrom_11 : decode cX3_spreadFrom 11 = .ok (.bipush 16, 2) := by decide +kernel
theorem dX3_spreadFrom_13 : decode cX3_spreadFrom 13 = .ok (.idiv, 1) := by decide +kernel
theorem dX3_spreadFrom_14 : decode cX3_spreadFrom 14 = .ok (.aload_n 0, 1) := by decide +kernel
theorem dX3_spreadFrom_15 : decode cX3_spreadFrom 15 = .ok (.getfield 15, 3) := by decide +kernel
theorem dX3_spreadFrom_18 : decode cX3_spreadFrom 18 = .ok (.iload_n 1, 1) := by decide +kernel
theorem dX3_spreadFrom_19 : decode cX3_spreadFrom 19 = .ok (.iaload, 1) := by decide +kernel
theorem dX3_spreadFrom_20 : decode cX3_spreadFrom 20 = .ok (.invokevirtual 64, 3) := by decide +kernel
theorem dX3_spreadFrom_23 : decode cX3_spreadFrom 23 = .ok (.iconst 0, 1) := by decide +kernel
theorem dX3_spreadFrom_24 : decode cX3_spreadFrom 24 = .ok (.istore_n 2, 1) := by decide +kernel
theorem dX3_spreadFrom_25 : decode cX3_spreadFrom 25 = .ok (.iload_n 2, 1) := by decide +kernel
theorem dX3_spreadFrom_26 : decode cX3_spreadFrom 26 = .ok (.aload_n 0, 1) := by decide +kernel
theorem dX3_spreadFrom_27 : decode cX3_spreadFrom 27 = .ok (.getfield 60, 3) := by decide +kernel
theorem dX3_spreadFrom_30 : decode cX3_spreadFrom 30 = .ok (.if_icmp .ge 90, 3) := by decide +kernel
theorem dX3_spreadFrom_33 : decode cX3_spreadFrom 33 = .ok (.aload_n 0, 1) := by decide +kernel
theorem dX3_spreadFrom_34 : decode cX3_spreadFrom 34 = .ok (.getfield 19, 3) := by decide +kernel
theorem dX3_spreadFrom_37 : decode cX3_spreadFrom 37 = .ok (.iload_n 2, 1) := by decide +kernel
theorem dX3_spreadFrom_38 : decode cX3_spreadFrom 38 = .ok (.iaload, 1) := by decide +kernel
theorem dX3_spreadFrom_39 : decode cX3_spreadFrom 39 = .ok (.bipush 16, 2) := by decide +kernel
theorem dX3_spreadFrom_41 : decode cX3_spreadFrom 41 = .ok (.irem, 1) := by decide +kernel
theorem dX3_spreadFrom_42 : decode cX3_spreadFrom 42 = .ok (.istore_n 3, 1) := by decide +kernel
theorem dX3_spreadFrom_43 : decode cX3_spreadFrom 43 = .ok (.aload_n 0, 1) := by decide +kernel
theorem dX3_spreadFrom_44 : decode cX3_spreadFrom 44 = .ok (.getfield 19, 3) := by decide +kernel
theorem dX3_spreadFrom_47 : decode cX3_spreadFrom 47 = .ok (.iload_n 2, 1) := by decide +kernel
theorem dX3_spreadFrom_48 : decode cX3_spreadFrom 48 = .ok (.iaload, 1) := by decide +kernel
theorem dX3_spreadFrom_49 : decode cX3_spreadFrom 49 = .ok (.bipush 16, 2) := by decide +kernel
theorem dX3_spreadFrom_51 : decode cX3_spreadFrom 51 = .ok (.idiv, 1) := by decide +kernel
theorem dX3_spreadFrom_52 : decode cX3_spreadFrom 52 = .ok (.istore 4, 2) := by decide +kernel
theorem dX3_spreadFrom_54 : decode cX3_spreadFrom 54 = .ok (.aload_n 0, 1) := by decide +kernel
theorem dX3_spreadFrom_55 : decode cX3_spreadFrom 55 = .ok (.iload_n 3, 1) := by decide +kernel
theorem dX3_spreadFrom_56 : decode cX3_spreadFrom 56 = .ok (.iconst 1, 1) := by decide +kernel
theorem dX3_spreadFrom_57 : decode cX3_spreadFrom 57 = .ok (.isub, 1) := by decide +kernel
theorem dX3_spreadFrom_58 : decode cX3_spreadFrom 58 = .ok (.iload 4, 2) := by decide +kernel
theorem dX3_spreadFrom_60 : decode cX3_spreadFrom 60 = .ok (.aload_n 0, 1) := by decide +kernel
theorem dX3_spreadFrom_61 : decode cX3_spreadFrom 61 = .ok (.getfield 15, 3) := by decide +kernel
theorem dX3_spreadFrom_64 : decode cX3_spreadFrom 64 = .ok (.iload_n 1, 1) := by decide +kernel
theorem dX3_spreadFrom_65 : decode cX3_spreadFrom 65 = .ok (.iaload, 1) := by decide +kernel
theorem dX3_spreadFrom_66 : decode cX3_spreadFrom 66 = .ok (.invokevirtual 64, 3) := by decide +kernel
theorem dX3_spreadFrom_69 : decode cX3_spreadFrom 69 = .ok (.aload_n 0, 1) := by decide +kernel
theorem dX3_spreadFrom_70 : decode cX3_spreadFrom 70 = .ok (.iload_n 3, 1) := by decide +kernel
theorem dX3_spreadFrom_71 : decode cX3_spreadFrom 71 = .ok (.iconst 1, 1) := by decide +kernel
theorem dX3_spreadFrom_72 : decode cX3_spreadFrom 72 = .ok (.iadd, 1) := by decide +kernel
theorem dX3_spreadFrom_73 : decode cX3_spreadFrom 73 = .ok (.iload 4, 2) := by decide +kernel
theorem dX3_spreadFrom_75 : decode cX3_spreadFrom 75 = .ok (.aload_n 0, 1) := by decide +kernel
theorem dX3_spreadFrom_76 : decode cX3_spreadFrom 76 = .ok (.getfield 15, 3) := by decide +kernel
theorem dX3_spreadFrom_79 : decode cX3_spreadFrom 79 = .ok (.iload_n 1, 1) := by decide +kernel
theorem dX3_spreadFrom_80 : decode cX3_spreadFrom 80 = .ok (.iaload, 1) := by decide +kernel
theorem dX3_spreadFrom_81 : decode cX3_spreadFrom 81 = .ok (.invokevirtual 64, 3) := by decide +kernel
theorem dX3_spreadFrom_84 : decode cX3_spreadFrom 84 = .ok (.aload_n 0, 1) := by decide +kernel
theorem dX3_spreadFrom_85 : decode cX3_spreadFrom 85 = .ok (.iload_n 3, 1) := by decide +kernel
theorem dX3_spreadFrom_86 : decode cX3_spreadFrom 86 = .ok (.iload 4, 2) := by decide +kernel
theorem dX3_spreadFrom_88 : decode cX3_spreadFrom 88 = .ok (.iconst 1, 1) := by decide +kernel
theorem dX3_spreadFrom_89 : decode cX3_spreadFrom 89 = .ok (.isub, 1) := by decide +kernel
theorem dX3_spreadFrom_90 : decode cX3_spreadFrom 90 = .ok (.aload_n 0, 1) := by decide +kernel
theorem dX3_spreadFrom_91 : decode cX3_spreadFrom 91 = .ok (.getfield 15, 3) := by decide +kernel
theorem dX3_spreadFrom_94 : decode cX3_spreadFrom 94 = .ok (.iload_n 1, 1) := by decide +kernel
theorem dX3_spreadFrom_95 : decode cX3_spreadFrom 95 = .ok (.iaload, 1) := by decide +kernel
theorem dX3_spreadFrom_96 : decode cX3_spreadFrom 96 = .ok (.invokevirtual 64, 3) := by decide +kernel
theorem dX3_spreadFrom_99 : decode cX3_spreadFrom 99 = .ok (.aload_n 0, 1) := by decide +kernel
theorem dX3_spreadFrom_100 : decode cX3_spreadFrom 100 = .ok (.iload_n 3, 1) := by decide +kernel
theorem dX3_spreadFrom_101 : decode cX3_spreadFrom 101 = .ok (.iload 4, 2) := by decide +kernel
theorem dX3_spreadFrom_103 : decode cX3_spreadFrom 103 = .ok (.iconst 1, 1) := by decide +kernel
theorem dX3_spreadFrom_104 : decode cX3_spreadFrom 104 = .ok (.iadd, 1) := by decide +kernel
theorem dX3_spreadFrom_105 : decode cX3_spreadFrom 105 = .ok (.aload_n 0, 1) := by decide +kernel
theorem dX3_spreadFrom_106 : decode cX3_spreadFrom 106 = .ok (.getfield 15, 3) := by decide +kernel
theorem dX3_spreadFrom_109 : decode cX3_spreadFrom 109 = .ok (.iload_n 1, 1) := by decide +kernel
theorem dX3_spreadFrom_110 : decode cX3_spreadFrom 110 = .ok (.iaload, 1) := by decide +kernel
theorem dX3_spreadFrom_111 : decode cX3_spreadFrom 111 = .ok (.invokevirtual 64, 3) := by decide +kernel
theorem dX3_spreadFrom_114 : decode cX3_spreadFrom 114 = .ok (.iinc 2 1, 3) := by decide +kernel
theorem dX3_spreadFrom_117 : decode cX3_spreadFrom 117 = .ok (.goto (-92), 3) := by decide +kernel
theorem dX3_spreadFrom_120 : decode cX3_spreadFrom 120 = .ok (.aload_n 0, 1) := by decide +kernel
theorem dX3_spreadFrom_121 : decode cX3_spreadFrom 121 = .ok (.getfield 60, 3) := by decide +kernel
theorem dX3_spreadFrom_124 : decode cX3_spreadFrom 124 = .ok (.ireturn, 1) := by decide +kernel
theorem dX3_reach_0 : decode cX3_reach 0 = .ok (.iload_n 1, 1) := by decide +kernel
theorem dX3_reach_1 : decode cX3_reach 1 = .ok (.iload_n 2, 1) := by decide +kernel
theorem dX3_reach_2 : decode cX3_reach 2 = .ok (.invokestatic 56, 3) := by decide +kernel
theorem dX3_reach_5 : decode cX3_reach 5 = .ok (.ifCond .eq 13, 3) := by decide +kernel
theorem dX3_reach_8 : decode cX3_reach 8 = .ok (.aload_n 0, 1) := by decide +kernel
theorem dX3_reach_9 : decode cX3_reach 9 = .ok (.getfield 60, 3) := by decide +kernel
theorem dX3_reach_12 : decode cX3_reach 12 = .ok (.sipush 192, 3) := by decide +kernel
theorem dX3_reach_15 : decode cX3_reach 15 = .ok (.if_icmp .lt 4, 3) := by decide +kernel
theorem dX3_reach_18 : decode cX3_reach 18 = .ok (.return_, 1) := by decide +kernel
theorem dX3_reach_19 : decode cX3_reach 19 = .ok (.iload_n 1, 1) := by decide +kernel
theorem dX3_reach_20 : decode cX3_reach 20 = .ok (.iload_n 2, 1) := by decide +kernel
theorem dX3_reach_21 : decode cX3_reach 21 = .ok (.invokestatic 34, 3) := by decide +kernel
theorem dX3_reach_24 : decode cX3_reach 24 = .ok (.istore 4, 2) := by decide +kernel
theorem dX3_reach_26 : decode cX3_reach 26 = .ok (.aload_n 0, 1) := by decide +kernel
theorem dX3_reach_27 : decode cX3_reach 27 = .ok (.getfield 9, 3) := by decide +kernel
theorem dX3_reach_30 : decode cX3_reach 30 = .ok (.iload 4, 2) := by decide +kernel
theorem dX3_reach_32 : decode cX3_reach 32 = .ok (.baload, 1) := by decide +kernel
theorem dX3_reach_33 : decode cX3_reach 33 = .ok (.ifCond .ne 43, 3) := by decide +kernel
theorem dX3_reach_36 : decode cX3_reach 36 = .ok (.aload_n 0, 1) := by decide +kernel
theorem dX3_reach_37 : decode cX3_reach 37 = .ok (.getfield 15, 3) := by decide +kernel
theorem dX3_reach_40 : decode cX3_reach 40 = .ok (.iload 4, 2) := by decide +kernel
theorem dX3_reach_42 : decode cX3_reach 42 = .ok (.iaload, 1) := by decide +kernel
theorem dX3_reach_43 : decode cX3_reach 43 = .ok (.iload_n 3, 1) := by decide +kernel
theorem dX3_reach_44 : decode cX3_reach 44 = .ok (.if_icmp .ne 32, 3) := by decide +kernel
theorem dX3_reach_47 : decode cX3_reach 47 = .ok (.aload_n 0, 1) := by decide +kernel
theorem dX3_reach_48 : decode cX3_reach 48 = .ok (.getfield 9, 3) := by decide +kernel
theorem dX3_reach_51 : decode cX3_reach 51 = .ok (.iload 4, 2) := by decide +kernel
theorem dX3_reach_53 : decode cX3_reach 53 = .ok (.iconst 1, 1) := by decide +kernel
theorem dX3_reach_54 : decode cX3_reach 54 = .ok (.bastore, 1) := by decide +kernel
theorem dX3_reach_55 : decode cX3_reach 55 = .ok (.aload_n 0, 1) := by decide +kernel
theorem dX3_reach_56 : decode cX3_reach 56 = .ok (.getfield 19, 3) := by decide +kernel
theorem dX3_reach_59 : decode cX3_reach 59 = .ok (.aload_n 0, 1) := by decide +kernel
theorem dX3_reach_60 : decode cX3_reach 60 = .ok (.getfield 60, 3) := by decide +kernel
theorem dX3_reach_63 : decode cX3_reach 63 = .ok (.iload 4, 2) := by decide +kernel
theorem dX3_reach_65 : decode cX3_reach 65 = .ok (.iastore, 1) := by decide +kernel
theorem dX3_reach_66 : decode cX3_reach 66 = .ok (.aload_n 0, 1) := by decide +kernel
theorem dX3_reach_67 : decode cX3_reach 67 = .ok (.dup, 1) := by decide +kernel
theorem dX3_reach_68 : decode cX3_reach 68 = .ok (.getfield 60, 3) := by decide +kernel
theorem dX3_reach_71 : decode cX3_reach 71 = .ok (.iconst 1, 1) := by decide +kernel
theorem dX3_reach_72 : decode cX3_reach 72 = .ok (.iadd, 1) := by decide +kernel
theorem dX3_reach_73 : decode cX3_reach 73 = .ok (.putfield 60, 3) := by decide +kernel
theorem dX3_reach_76 : decode cX3_reach 76 = .ok (.return_, 1) := by decide +kernel
theorem dX4_init_0 : decode cX4_init 0 = .ok (.aload_n 0, 1) := by decide +kernel
theorem dX4_init_1 : decode cX4_init 1 = .ok (.invokespecial 3, 3) := by decide +kernel
theorem dX4_init_4 : decode cX4_init 4 = .ok (.aload_n 0, 1) := by decide +kernel
theorem dX4_init_5 : decode cX4_init 5 = .ok (.sipush 192, 3) := by decide +kernel
theorem dX4_init_8 : decode cX4_init 8 = .ok (.newarray .int, 2) := by decide +kernel
theorem dX4_init_10 : decode cX4_init 10 = .ok (.putfield 9, 3) := by decide +kernel
theorem dX4_init_13 : decode cX4_init 13 = .ok (.aload_n 0, 1) := by decide +kernel
theorem dX4_init_14 : decode cX4_init 14 = .ok (.sipush 192, 3) := by decide +kernel
theorem dX4_init_17 : decode cX4_init 17 = .ok (.newarray .int, 2) := by decide +kernel
theorem dX4_init_19 : decode cX4_init 19 = .ok (.putfield 15, 3) := by decide +kernel
theorem dX4_init_22 : decode cX4_init 22 = .ok (.return_, 1) := by decide +kernel
theorem dX4_clear_0 : decode cX4_clear 0 = .ok (.aload_n 0, 1) := by decide +kernel
theorem dX4_clear_1 : decode cX4_clear 1 = .ok (.getfield 9, 3) := by decide +kernel
theorem dX4_clear_4 : decode cX4_clear 4 = .ok (.iconst 0, 1) := by decide +kernel
theorem dX4_clear_5 : decode cX4_clear 5 = .ok (.invokestatic 18, 3) := by decide +kernel
theorem dX4_clear_8 : decode cX4_clear 8 = .ok (.aload_n 0, 1) := by decide +kernel
theorem dX4_clear_9 : decode cX4_clear 9 = .ok (.getfield 15, 3) := by decide +kernel
theorem dX4_clear_12 : decode cX4_clear 12 = .ok (.iconst 0, 1) := by decide +kernel
theorem dX4_clear_13 : decode cX4_clear 13 = .ok (.invokestatic 18, 3) := by decide +kernel
theorem dX4_clear_16 : decode cX4_clear 16 = .ok (.return_, 1) := by decide +kernel
theorem dX4_wear_0 : decode cX4_wear 0 = .ok (.aload_n 0, 1) := by decide +kernel
theorem dX4_wear_1 : decode cX4_wear 1 = .ok (.iload_n 1, 1) := by decide +kernel
theorem dX4_wear_2 : decode cX4_wear 2 = .ok (.putfield 24, 3) := by decide +kernel
theorem dX4_wear_5 : decode cX4_wear 5 = .ok (.aload_n 0, 1) := by decide +kernel
theorem dX4_wear_6 : decode cX4_wear 6 = .ok (.iload_n 2, 1) := by decide +kernel
theorem dX4_wear_7 : decode cX4_wear 7 = .ok (.putfield 28, 3) := by decide +kernel
theorem dX4_wear_10 : decode cX4_wear 10 = .ok (.aload_n 0, 1) := by decide +kernel
theorem dX4_wear_11 : decode cX4_wear 11 = .ok (.iload_n 3, 1) := by decide +kernel
theorem dX4_wear_12 : decode cX4_wear 12 = .ok (.putfield 31, 3) := by decide +kernel
theorem dX4_wear_15 : decode cX4_wear 15 = .ok (.return_, 1) := by decide +kernel
theorem dX4_become_0 : decode cX4_become 0 = .ok (.aload_n 1, 1) := by decide +kernel
theorem dX4_become_1 : decode cX4_become 1 = .ok (.getfield 9, 3) := by decide +kernel
theorem dX4_become_4 : decode cX4_become 4 = .ok (.iconst 0, 1) := by decide +kernel
theorem dX4_become_5 : decode cX4_become 5 = .ok (.aload_n 0, 1) := by decide +kernel
theorem dX4_become_6 : decode cX4_become 6 = .ok (.getfield 9, 3) := by decide +kernel
theorem dX4_become_9 : decode cX4_become 9 = .ok (.iconst 0, 1) := by decide +kernel
theorem dX4_become_10 : decode cX4_become 10 = .ok (.sipush 192, 3) := by decide +kernel
theorem dX4_become_13 : decode cX4_become 13 = .ok (.invokestatic 34, 3) := by decide +kernel
theorem dX4_become_16 : decode cX4_become 16 = .ok (.aload_n 1, 1) := by decide +kernel
theorem dX4_become_17 : decode cX4_become 17 = .ok (.getfield 15, 3) := by decide +kernel
theorem dX4_become_20 : decode cX4_become 20 = .ok (.iconst 0, 1) := by decide +kernel
theorem dX4_become_21 : decode cX4_become 21 = .ok (.aload_n 0, 1) := by decide +kernel
theorem dX4_become_22 : decode cX4_become 22 = .ok (.getfield 15, 3) := by decide +kernel
theorem dX4_become_25 : decode cX4_become 25 = .ok (.iconst 0, 1) := by decide +kernel
theorem dX4_become_26 : decode cX4_become 26 = .ok (.sipush 192, 3) := by decide +kernel
theorem dX4_become_29 : decode cX4_become 29 = .ok (.invokestatic 34, 3) := by decide +kernel
theorem dX4_become_32 : decode cX4_become 32 = .ok (.aload_n 0, 1) := by decide +kernel
theorem dX4_become_33 : decode cX4_become 33 = .ok (.aload_n 1, 1) := by decide +kernel
theorem dX4_become_34 : decode cX4_become 34 = .ok (.getfield 24, 3) := by decide +kernel
theorem dX4_become_37 : decode cX4_become 37 = .ok (.aload_n 1, 1) := by decide +kernel
theorem dX4_become_38 : decode cX4_become 38 = .ok (.getfield 28, 3) := by decide +kernel
theorem dX4_become_41 : decode cX4_become 41 = .ok (.aload_n 1, 1) := by decide +kernel
theorem dX4_become_42 : decode cX4_become 42 = .ok (.getfield 31, 3) := by decide +kernel
theorem dX4_become_45 : decode cX4_become 45 = .ok (.invokevirtual 40, 3) := by decide +kernel
theorem dX4_become_48 : decode cX4_become 48 = .ok (.return_, 1) := by decide +kernel
theorem dX4_coveredDots_0 : decode cX4_coveredDots 0 = .ok (.iconst 0, 1) := by decide +kernel
theorem dX4_coveredDots_1 : decode cX4_coveredDots 1 = .ok (.istore_n 1, 1) := by decide +kernel
theorem dX4_coveredDots_2 : decode cX4_coveredDots 2 = .ok (.iconst 0, 1) := by decide +kernel
theorem dX4_coveredDots_3 : decode cX4_coveredDots 3 = .ok (.istore_n 2, 1) := by decide +kernel
theorem dX4_coveredDots_4 : decode cX4_coveredDots 4 = .ok (.iload_n 2, 1) := by decide +kernel
theorem dX4_coveredDots_5 : decode cX4_coveredDots 5 = .ok (.sipush 192, 3) := by decide +kernel
theorem dX4_coveredDots_8 : decode cX4_coveredDots 8 = .ok (.if_icmp .ge 21, 3) := by decide +kernel
theorem dX4_coveredDots_11 : decode cX4_coveredDots 11 = .ok (.aload_n 0, 1) := by decide +kernel
theorem dX4_coveredDots_12 : decode cX4_coveredDots 12 = .ok (.getfield 15, 3) := by decide +kernel
theorem dX4_coveredDots_15 : decode cX4_coveredDots 15 = .ok (.iload_n 2, 1) := by decide +kernel
theorem dX4_coveredDots_16 : decode cX4_coveredDots 16 = .ok (.iaload, 1) := by decide +kernel
theorem dX4_coveredDots_17 : decode cX4_coveredDots 17 = .ok (.ifCond .eq 6, 3) := by decide +kernel
theorem dX4_coveredDots_20 : decode cX4_coveredDots 20 = .ok (.iinc 1 1, 3) := by decide +kernel
theorem dX4_coveredDots_23 : decode cX4_coveredDots 23 = .ok (.iinc 2 1, 3) := by decide +kernel
theorem dX4_coveredDots_26 : decode cX4_coveredDots 26 = .ok (.goto (-22), 3) := by decide +kernel
theorem dX4_coveredDots_29 : decode cX4_coveredDots 29 = .ok (.iload_n 1, 1) := by decide +kernel
theorem dX4_coveredDots_30 : decode cX4_coveredDots 30 = .ok (.ireturn, 1) := by decide +kernel
theorem dX4_paint_0 : decode cX4_paint 0 = .ok (.iload_n 3, 1) := by decide +kernel
theorem dX4_paint_1 : decode cX4_paint 1 = .ok (.ifCond .ne 4, 3) := by decide +kernel
theorem dX4_paint_4 : decode cX4_paint 4 = .ok (.return_, 1) := by decide +kernel
theorem dX4_paint_5 : decode cX4_paint 5 = .ok (.aload_n 0, 1) := by decide +kernel
theorem dX4_paint_6 : decode cX4_paint 6 = .ok (.getfield 9, 3) := by decide +kernel
theorem dX4_paint_9 : decode cX4_paint 9 = .ok (.iload_n 1, 1) := by decide +kernel
theorem dX4_paint_10 : decode cX4_paint 10 = .ok (.iaload, 1) := by decide +kernel
theorem dX4_paint_11 : decode cX4_paint 11 = .ok (.istore 4, 2) := by decide +kernel
theorem dX4_paint_13 : decode cX4_paint 13 = .ok (.aload_n 0, 1) := by decide +kernel
theorem dX4_paint_14 : decode cX4_paint 14 = .ok (.getfield 9, 3) := by decide +kernel
theorem dX4_paint_17 : decode cX4_paint 17 = .ok (.iload_n 1, 1) := by decide +kernel
theorem dX4_paint_18 : decode cX4_paint 18 = .ok (.aload_n 0, 1) := by decide +kernel
theorem dX4_paint_19 : decode cX4_paint 19 = .ok (.getfield 15, 3) := by decide +kernel
theorem dX4_paint_22 : decode cX4_paint 22 = .ok (.iload_n 1, 1) := by decide +kernel
theorem dX4_paint_23 : decode cX4_paint 23 = .ok (.iaload, 1) := by decide +kernel
theorem dX4_paint_24 : decode cX4_paint 24 = .ok (.ifCond .ne 7, 3) := by decide +kernel
theorem dX4_paint_27 : decode cX4_paint 27 = .ok (.iload_n 2, 1) := by decide +kernel
theorem dX4_paint_28 : decode cX4_paint 28 = .ok (.goto 16, 3) := by decide +kernel
theorem dX4_paint_31 : decode cX4_paint 31 = .ok (.iload 4, 2) := by decide +kernel
theorem dX4_paint_33 : decode cX4_paint 33 = .ok (.iload_n 2, 1) := by decide +kernel
theorem dX4_paint_34 : decode cX4_paint 34 = .ok (.iload 4, 2) := by decide +kernel
theorem dX4_paint_36 : decode cX4_paint 36 = .ok (.isub, 1) := by decide +kernel
theorem dX4_paint_37 : decode cX4_paint 37 = .ok (.iload_n 3, 1) := by decide +kernel
theorem dX4_paint_38 : decode cX4_paint 38 = .ok (.imul, 1) := by decide +kernel
theorem dX4_paint_39 : decode cX4_paint 39 = .ok (.sipush 255, 3) := by decide +kernel
theorem dX4_paint_42 : decode cX4_paint 42 = .ok (.idiv, 1) := by decide +kernel
theorem dX4_paint_43 : decode cX4_paint 43 = .ok (.iadd, 1) := by decide +kernel
theorem dX4_paint_44 : decode cX4_paint 44 = .ok (.iastore, 1) := by decide +kernel
theorem dX4_paint_45 : decode cX4_paint 45 = .ok (.aload_n 0, 1) := by decide +kernel
theorem dX4_paint_46 : decode cX4_paint 46 = .ok (.getfield 15, 3) := by decide +kernel
theorem dX4_paint_49 : decode cX4_paint 49 = .ok (.iload_n 1, 1) := by decide +kernel
theorem dX4_paint_50 : decode cX4_paint 50 = .ok (.dup2, 1) := by decide +kernel
theorem dX4_paint_51 : decode cX4_paint 51 = .ok (.iaload, 1) := by decide +kernel
theorem dX4_paint_52 : decode cX4_paint 52 = .ok (.sipush 255, 3) := by decide +kernel
theorem dX4_paint_55 : decode cX4_paint 55 = .ok (.aload_n 0, 1) := by decide +kernel
theorem dX4_paint_56 : decode cX4_paint 56 = .ok (.getfield 15, 3) := by decide +kernel
theorem dX4_paint_59 : decode cX4_paint 59 = .ok (.iload_n 1, 1) := by decide +kernel
theorem dX4_paint_60 : decode cX4_paint 60 = .ok (.iaload, 1) := by decide +kernel
theorem dX4_paint_61 : decode cX4_paint 61 = .ok (.isub, 1) := by decide +kernel
theorem dX4_paint_62 : decode cX4_paint 62 = .ok (.iload_n 3, 1) := by decide +kernel
theorem dX4_paint_63 : decode cX4_paint 63 = .ok (.imul, 1) := by decide +kernel
theorem dX4_paint_64 : decode cX4_paint 64 = .ok (.sipush 255, 3) := by decide +kernel
theorem dX4_paint_67 : decode cX4_paint 67 = .ok (.idiv, 1) := by decide +kernel
theorem dX4_paint_68 : decode cX4_paint 68 = .ok (.iadd, 1) := by decide +kernel
theorem dX4_paint_69 : decode cX4_paint 69 = .ok (.iastore, 1) := by decide +kernel
theorem dX4_paint_70 : decode cX4_paint 70 = .ok (.return_, 1) := by decide +kernel
theorem dX4_wipe_0 : decode cX4_wipe 0 = .ok (.aload_n 0, 1) := by decide +kernel
theorem dX4_wipe_1 : decode cX4_wipe 1 = .ok (.getfield 15, 3) := by decide +kernel
theorem dX4_wipe_4 : decode cX4_wipe 4 = .ok (.iload_n 1, 1) := by decide +kernel
theorem dX4_wipe_5 : decode cX4_wipe 5 = .ok (.aload_n 0, 1) := by decide +kernel
theorem dX4_wipe_6 : decode cX4_wipe 6 = .ok (.getfield 15, 3) := by decide +kernel
theorem dX4_wipe_9 : decode cX4_wipe 9 = .ok (.iload_n 1, 1) := by decide +kernel
theorem dX4_wipe_10 : decode cX4_wipe 10 = .ok (.iaload, 1) := by decide +kernel
theorem dX4_wipe_11 : decode cX4_wipe 11 = .ok (.sipush 255, 3) := by decide +kernel
theorem dX4_wipe_14 : decode cX4_wipe 14 = .ok (.iload_n 2, 1) := by decide +kernel
theorem dX4_wipe_15 : decode cX4_wipe 15 = .ok (.isub, 1) := by decide +kernel
theorem dX4_wipe_16 : decode cX4_wipe 16 = .ok (.imul, 1) := by decide +kernel
theorem dX4_wipe_17 : decode cX4_wipe 17 = .ok (.sipush 255, 3) := by decide +kernel
theorem dX4_wipe_20 : decode cX4_wipe 20 = .ok (.idiv, 1) := by decide +kernel
theorem dX4_wipe_21 : decode cX4_wipe 21 = .ok (.iastore, 1) := by decide +kernel
theorem dX4_wipe_22 : decode cX4_wipe 22 = .ok (.aload_n 0, 1) := by decide +kernel
theorem dX4_wipe_23 : decode cX4_wipe 23 = .ok (.getfield 15, 3) := by decide +kernel
theorem dX4_wipe_26 : decode cX4_wipe 26 = .ok (.iload_n 1, 1) := by decide +kernel
theorem dX4_wipe_27 : decode cX4_wipe 27 = .ok (.iaload, 1) := by decide +kernel
theorem dX4_wipe_28 : decode cX4_wipe 28 = .ok (.ifCond .ne 10, 3) := by decide +kernel
theorem dX4_wipe_31 : decode cX4_wipe 31 = .ok (.aload_n 0, 1) := by decide +kernel
theorem dX4_wipe_32 : decode cX4_wipe 32 = .ok (.getfield 9, 3) := by decide +kernel
theorem dX4_wipe_35 : decode cX4_wipe 35 = .ok (.iload_n 1, 1) := by decide +kernel
theorem dX4_wipe_36 : decode cX4_wipe 36 = .ok (.iconst 0, 1) := by decide +kernel
theorem dX4_wipe_37 : decode cX4_wipe 37 = .ok (.iastore, 1) := by decide +kernel
theorem dX4_wipe_38 : decode cX4_wipe 38 = .ok (.return_, 1) := by decide +kernel
theorem dX4_makes_0 : decode cX4_makes 0 = .ok (.aload_n 0, 1) := by decide +kernel
theorem dX4_makes_1 : decode cX4_makes 1 = .ok (.getfield 24, 3) := by decide +kernel
theorem dX4_makes_4 : decode cX4_makes 4 = .ok (.tableswitch 87 1 5 #[36, 42, 48, 63, 80], 36) := by decide +kernel
theorem dX4_makes_40 : decode cX4_makes 40 = .ok (.iload_n 1, 1) := by decide +kernel
theorem dX4_makes_41 : decode cX4_makes 41 = .ok (.iload_n 2, 1) := by decide +kernel
theorem dX4_makes_42 : decode cX4_makes 42 = .ok (.invokestatic 44, 3) := by decide +kernel
theorem dX4_makes_45 : decode cX4_makes 45 = .ok (.ireturn, 1) := by decide +kernel
theorem dX4_makes_46 : decode cX4_makes 46 = .ok (.iload_n 1, 1) := by decide +kernel
theorem dX4_makes_47 : decode cX4_makes 47 = .ok (.iload_n 2, 1) := by decide +kernel
theorem dX4_makes_48 : decode cX4_makes 48 = .ok (.invokestatic 48, 3) := by decide +kernel
theorem dX4_makes_51 : decode cX4_makes 51 = .ok (.ireturn, 1) := by decide +kernel
theorem dX4_makes_52 : decode cX4_makes 52 = .ok (.iload_n 1, 1) := by decide +kernel
theorem dX4_makes_53 : decode cX4_makes 53 = .ok (.iload_n 2, 1) := by decide +kernel
theorem dX4_makes_54 : decode cX4_makes 54 = .ok (.invokestatic 44, 3) := by decide +kernel
theorem dX4_makes_57 : decode cX4_makes 57 = .ok (.aload_n 0, 1) := by decide +kernel
theorem dX4_makes_58 : decode cX4_makes 58 = .ok (.getfield 28, 3) := by decide +kernel
theorem dX4_makes_61 : decode cX4_makes 61 = .ok (.isub, 1) := by decide +kernel
theorem dX4_makes_62 : decode cX4_makes 62 = .ok (.iconst 0, 1) := by decide +kernel
theorem dX4_makes_63 : decode cX4_makes 63 = .ok (.invokestatic 51, 3) := by decide +kernel
theorem dX4_makes_66 : decode cX4_makes 66 = .ok (.ireturn, 1) := by decide +kernel
theorem dX4_makes_67 : decode cX4_makes 67 = .ok (.iload_n 1, 1) := by decide +kernel
theorem dX4_makes_68 : decode cX4_makes 68 = .ok (.iload_n 2, 1) := by decide +kernel
theorem dX4_makes_69 : decode cX4_makes 69 = .ok (.invokestatic 48, 3) := by decide +kernel
theorem dX4_makes_72 : decode cX4_makes 72 = .ok (.aload_n 0, 1) := by decide +kernel
theorem dX4_makes_73 : decode cX4_makes 73 = .ok (.getfield 28, 3) := by decide +kernel
theorem dX4_makes_76 : decode cX4_makes 76 = .ok (.iadd, 1) := by decide +kernel
theorem dX4_makes_77 : decode cX4_makes 77 = .ok (.sipush 255, 3) := by decide +kernel
theorem dX4_makes_80 : decode cX4_makes 80 = .ok (.invokestatic 56, 3) := by decide +kernel
theorem dX4_makes_83 : decode cX4_makes 83 = .ok (.ireturn, 1) := by decide +kernel
theorem dX4_makes_84 : decode cX4_makes 84 = .ok (.iload_n 1, 1) := by decide +kernel
theorem dX4_makes_85 : decode cX4_makes 85 = .ok (.iload_n 2, 1) := by decide +kernel
theorem dX4_makes_86 : decode cX4_makes 86 = .ok (.isub, 1) := by decide +kernel
theorem dX4_makes_87 : decode cX4_makes 87 = .ok (.invokestatic 59, 3) := by decide +kernel
theorem dX4_makes_90 : decode cX4_makes 90 = .ok (.ireturn, 1) := by decide +kernel
theorem dX4_makes_91 : decode cX4_makes 91 = .ok (.iload_n 2, 1) := by decide +kernel
theorem dX4_makes_92 : decode cX4_makes 92 = .ok (.ireturn, 1) := by decide +kernel
theorem dX4_times_0 : decode cX4_times 0 = .ok (.iload_n 0, 1) := by decide +kernel
theorem dX4_times_1 : decode cX4_times 1 = .ok (.iload_n 1, 1) := by decide +kernel
theorem dX4_times_2 : decode cX4_times 2 = .ok (.imul, 1) := by decide +kernel
theorem dX4_times_3 : decode cX4_times 3 = .ok (.sipush 255, 3) := by decide +kernel
theorem dX4_times_6 : decode cX4_times 6 = .ok (.idiv, 1) := by decide +kernel
theorem dX4_times_7 : decode cX4_times 7 = .ok (.ireturn, 1) := by decide +kernel
theorem dX4_screened_0 : decode cX4_screened 0 = .ok (.sipush 255, 3) := by decide +kernel
theorem dX4_screened_3 : decode cX4_screened 3 = .ok (.sipush 255, 3) := by decide +kernel
theorem dX4_screened_6 : decode cX4_screened 6 = .ok (.iload_n 0, 1) := by decide +kernel
theorem dX4_screened_7 : decode cX4_screened 7 = .ok (.isub, 1) := by decide +kernel
theorem dX4_screened_8 : decode cX4_screened 8 = .ok (.sipush 255, 3) := by decide +kernel
theorem dX4_screened_11 : decode cX4_screened 11 = .ok (.iload_n 1, 1) := by decide +kernel
theorem dX4_screened_12 : decode cX4_screened 12 = .ok (.isub, 1) := by decide +kernel
theorem dX4_screened_13 : decode cX4_screened 13 = .ok (.imul, 1) := by decide +kernel
theorem dX4_screened_14 : decode cX4_screened 14 = .ok (.sipush 255, 3) := by decide +kernel
theorem dX4_screened_17 : decode cX4_screened 17 = .ok (.idiv, 1) := by decide +kernel
theorem dX4_screened_18 : decode cX4_screened 18 = .ok (.isub, 1) := by decide +kernel
theorem dX4_screened_19 : decode cX4_screened 19 = .ok (.ireturn, 1) := by decide +kernel
theorem dX4_seenOver_0 : decode cX4_seenOver 0 = .ok (.aload_n 0, 1) := by decide +kernel
theorem dX4_seenOver_1 : decode cX4_seenOver 1 = .ok (.getfield 15, 3) := by decide +kernel
theorem dX4_seenOver_4 : decode cX4_seenOver 4 = .ok (.iload_n 2, 1) := by decide +kernel
theorem dX4_seenOver_5 : decode cX4_seenOver 5 = .ok (.iaload, 1) := by decide +kernel
theorem dX4_seenOver_6 : decode cX4_seenOver 6 = .ok (.aload_n 0, 1) := by decide +kernel
theorem dX4_seenOver_7 : decode cX4_seenOver 7 = .ok (.getfield 31, 3) := by decide +kernel
theorem dX4_seenOver_10 : decode cX4_seenOver 10 = .ok (.imul, 1) := by decide +kernel
theorem dX4_seenOver_11 : decode cX4_seenOver 11 = .ok (.sipush 255, 3) := by decide +kernel
theorem dX4_seenOver_14 : decode cX4_seenOver 14 = .ok (.idiv, 1) := by decide +kernel
theorem dX4_seenOver_15 : decode cX4_seenOver 15 = .ok (.istore_n 3, 1) := by decide +kernel
theorem dX4_seenOver_16 : decode cX4_seenOver 16 = .ok (.iload_n 1, 1) := by decide +kernel
theorem dX4_seenOver_17 : decode cX4_seenOver 17 = .ok (.aload_n 0, 1) := by decide +kernel
theorem dX4_seenOver_18 : decode cX4_seenOver 18 = .ok (.iload_n 1, 1) := by decide +kernel
theorem dX4_seenOver_19 : decode cX4_seenOver 19 = .ok (.aload_n 0, 1) := by decide +kernel
theorem dX4_seenOver_20 : decode cX4_seenOver 20 = .ok (.getfield 9, 3) := by decide +kernel
theorem dX4_seenOver_23 : decode cX4_seenOver 23 = .ok (.iload_n 2, 1) := by decide +kernel
theorem dX4_seenOver_24 : decode cX4_seenOver 24 = .ok (.iaload, 1) := by decide +kernel
theorem dX4_seenOver_25 : decode cX4_seenOver 25 = .ok (.invokevirtual 63, 3) := by decide +kernel
theorem dX4_seenOver_28 : decode cX4_seenOver 28 = .ok (.iload_n 1, 1) := by decide +kernel
theorem dX4_seenOver_29 : decode cX4_seenOver 29 = .ok (.isub, 1) := by decide +kernel
theorem dX4_seenOver_30 : decode cX4_seenOver 30 = .ok (.iload_n 3, 1) := by decide +kernel
theorem dX4_seenOver_31 : decode cX4_seenOver 31 = .ok (.imul, 1) := by decide +kernel
theorem dX4_seenOver_32 : decode cX4_seenOver 32 = .ok (.sipush 255, 3) := by decide +kernel
theorem dX4_seenOver_35 : decode cX4_seenOver 35 = .ok (.idiv, 1) := by decide +kernel
theorem dX4_seenOver_36 : decode cX4_seenOver 36 = .ok (.iadd, 1) := by decide +kernel
theorem dX4_seenOver_37 : decode cX4_seenOver 37 = .ok (.ireturn, 1) := by decide +kernel
theorem dX5_init_0 : decode cX5_init 0 = .ok (.aload_n 0, 1) := by decide +kernel
theorem dX5_init_1 : decode cX5_init 1 = .ok (.invokespecial 3, 3) := by decide +kernel
theorem dX5_init_4 : decode cX5_init 4 = .ok (.aload_n 0, 1) := by decide +kernel
theorem dX5_init_5 : decode cX5_init 5 = .ok (.sipush 192, 3) := by decide +kernel
theorem dX5_init_8 : decode cX5_init 8 = .ok (.newarray .boolean, 2) := by decide +kernel
theorem dX5_init_10 : decode cX5_init 10 = .ok (.putfield 9, 3) := by decide +kernel
theorem dX5_init_13 : decode cX5_init 13 = .ok (.return_, 1) := by decide +kernel
theorem dX5_isFree_0 : decode cX5_isFree 0 = .ok (.aload_n 0, 1) := by decide +kernel
theorem dX5_isFree_1 : decode cX5_isFree 1 = .ok (.getfield 15, 3) := by decide +kernel
theorem dX5_isFree_4 : decode cX5_isFree 4 = .ok (.ifCond .eq 12, 3) := by decide +kernel
theorem dX5_isFree_7 : decode cX5_isFree 7 = .ok (.aload_n 0, 1) := by decide +kernel
theorem dX5_isFree_8 : decode cX5_isFree 8 = .ok (.getfield 9, 3) := by decide +kernel
theorem dX5_isFree_11 : decode cX5_isFree 11 = .ok (.iload_n 1, 1) := by decide +kernel
theorem dX5_isFree_12 : decode cX5_isFree 12 = .ok (.baload, 1) := by decide +kernel
theorem dX5_isFree_13 : decode cX5_isFree 13 = .ok (.ifCond .eq 7, 3) := by decide +kernel
theorem dX5_isFree_16 : decode cX5_isFree 16 = .ok (.iconst 1, 1) := by decide +kernel
theorem dX5_isFree_17 : decode cX5_isFree 17 = .ok (.goto 4, 3) := by decide +kernel
theorem dX5_isFree_20 : decode cX5_isFree 20 = .ok (.iconst 0, 1) := by decide +kernel
theorem dX5_isFree_21 : decode cX5_isFree 21 = .ok (.ireturn, 1) := by decide +kernel
theorem dX5_join_0 : decode cX5_join 0 = .ok (.iconst 0, 1) := by decide +kernel
theorem dX5_join_1 : decode cX5_join 1 = .ok (.istore_n 3, 1) := by decide +kernel
theorem dX5_join_2 : decode cX5_join 2 = .ok (.iload_n 3, 1) := by decide +kernel
theorem dX5_join_3 : decode cX5_join 3 = .ok (.sipush 192, 3) := by decide +kernel
theorem dX5_join_6 : decode cX5_join 6 = .ok (.if_icmp .ge 28, 3) := by decide +kernel
theorem dX5_join_9 : decode cX5_join 9 = .ok (.aload_n 0, 1) := by decide +kernel
theorem dX5_join_10 : decode cX5_join 10 = .ok (.getfield 9, 3) := by decide +kernel
theorem dX5_join_13 : decode cX5_join 13 = .ok (.iload_n 3, 1) := by decide +kernel
theorem dX5_join_14 : decode cX5_join 14 = .ok (.aload_n 0, 1) := by decide +kernel
theorem dX5_join_15 : decode cX5_join 15 = .ok (.getfield 9, 3) := by decide +kernel
theorem dX5_join_18 : decode cX5_join 18 = .ok (.iload_n 3, 1) := by decide +kernel
theorem dX5_join_19 : decode cX5_join 19 = .ok (.baload, 1) := by decide +kernel
theorem dX5_join_20 : decode cX5_join 20 = .ok (.aload_n 1, 1) := by decide +kernel
theorem dX5_join_21 : decode cX5_join 21 = .ok (.iload_n 3, 1) := by decide +kernel
theorem dX5_join_22 : decode cX5_join 22 = .ok (.baload, 1) := by decide +kernel
theorem dX5_join_23 : decode cX5_join 23 = .ok (.iload_n 2, 1) := by decide +kernel
theorem dX5_join_24 : decode cX5_join 24 = .ok (.invokestatic 19, 3) := by decide +kernel
theorem dX5_join_27 : decode cX5_join 27 = .ok (.bastore, 1) := by decide +kernel
theorem dX5_join_28 : decode cX5_join 28 = .ok (.iinc 3 1, 3) := by decide +kernel
theorem dX5_join_31 : decode cX5_join 31 = .ok (.goto (-29), 3) := by decide +kernel
theorem dX5_join_34 : decode cX5_join 34 = .ok (.aload_n 0, 1) := by decide +kernel
theorem dX5_join_35 : decode cX5_join 35 = .ok (.invokevirtual 23, 3) := by decide +kernel
theorem dX5_join_38 : decode cX5_join 38 = .ok (.return_, 1) := by decide +kernel
theorem dX5_isHeldAfter_0 : decode cX5_isHeldAfter 0 = .ok (.iload_n 2, 1) := by decide +kernel
theorem dX5_isHeldAfter_1 : decode cX5_isHeldAfter 1 = .ok (.tableswitch 57 0 2 #[27, 29, 43], 27) := by decide +kernel
theorem dX5_isHeldAfter_28 : decode cX5_isHeldAfter 28 = .ok (.iload_n 1, 1) := by decide +kernel
theorem dX5_isHeldAfter_29 : decode cX5_isHeldAfter 29 = .ok (.ireturn, 1) := by decide +kernel
theorem dX5_isHeldAfter_30 : decode cX5_isHeldAfter 30 = .ok (.iload_n 0, 1) := by decide +kernel
theorem dX5_isHeldAfter_31 : decode cX5_isHeldAfter 31 = .ok (.ifCond .ne 7, 3) := by decide +kernel
theorem dX5_isHeldAfter_34 : decode cX5_isHeldAfter 34 = .ok (.iload_n 1, 1) := by decide +kernel
theorem dX5_isHeldAfter_35 : decode cX5_isHeldAfter 35 = .ok (.ifCond .eq 7, 3) := by decide +kernel
theorem dX5_isHeldAfter_38 : decode cX5_isHeldAfter 38 = .ok (.iconst 1, 1) := by decide +kernel
theorem dX5_isHeldAfter_39 : decode cX5_isHeldAfter 39 = .ok (.goto 4, 3) := by decide +kernel
theorem dX5_isHeldAfter_42 : decode cX5_isHeldAfter 42 = .ok (.iconst 0, 1) := by decide +kernel
theorem dX5_isHeldAfter_43 : decode cX5_isHeldAfter 43 = .ok (.ireturn, 1) := by decide +kernel
theorem dX5_isHeldAfter_44 : decode cX5_isHeldAfter 44 = .ok (.iload_n 0, 1) := by decide +kernel
theorem dX5_isHeldAfter_45 : decode cX5_isHeldAfter 45 = .ok (.ifCond .eq 11, 3) := by decide +kernel
theorem dX5_isHeldAfter_48 : decode cX5_isHeldAfter 48 = .ok (.iload_n 1, 1) := by decide +kernel
theorem dX5_isHeldAfter_49 : decode cX5_isHeldAfter 49 = .ok (.ifCond .ne 7, 3) := by decide +kernel
theorem dX5_isHeldAfter_52 : decode cX5_isHeldAfter 52 = .ok (.iconst 1, 1) := by decide +kernel
theorem dX5_isHeldAfter_53 : decode cX5_isHeldAfter 53 = .ok (.goto 4, 3) := by decide +kernel
theorem dX5_isHeldAfter_56 : decode cX5_isHeldAfter 56 = .ok (.iconst 0, 1) := by decide +kernel
theorem dX5_isHeldAfter_57 : decode cX5_isHeldAfter 57 = .ok (.ireturn, 1) := by decide +kernel
theorem dX5_isHeldAfter_58 : decode cX5_isHeldAfter 58 = .ok (.iload_n 0, 1) := by decide +kernel
theorem dX5_isHeldAfter_59 : decode cX5_isHeldAfter 59 = .ok (.ifCond .eq 11, 3) := by decide +kernel
theorem dX5_isHeldAfter_62 : decode cX5_isHeldAfter 62 = .ok (.iload_n 1, 1) := by decide +kernel
theorem dX5_isHeldAfter_63 : decode cX5_isHeldAfter 63 = .ok (.ifCond .eq 7, 3) := by decide +kernel
theorem dX5_isHeldAfter_66 : decode cX5_isHeldAfter 66 = .ok (.iconst 1, 1) := by decide +kernel
theorem dX5_isHeldAfter_67 : decode cX5_isHeldAfter 67 = .ok (.goto 4, 3) := by decide +kernel
theorem dX5_isHeldAfter_70 : decode cX5_isHeldAfter 70 = .ok (.iconst 0, 1) := by decide +kernel
theorem dX5_isHeldAfter_71 : decode cX5_isHeldAfter 71 = .ok (.ireturn, 1) := by decide +kernel
theorem dX5_turn_0 : decode cX5_turn 0 = .ok (.iconst 0, 1) := by decide +kernel
theorem dX5_turn_1 : decode cX5_turn 1 = .ok (.istore_n 1, 1) := by decide +kernel
theorem dX5_turn_2 : decode cX5_turn 2 = .ok (.iload_n 1, 1) := by decide +kernel
theorem dX5_turn_3 : decode cX5_turn 3 = .ok (.sipush 192, 3) := by decide +kernel
theorem dX5_turn_6 : decode cX5_turn 6 = .ok (.if_icmp .ge 29, 3) := by decide +kernel
theorem dX5_turn_9 : decode cX5_turn 9 = .ok (.aload_n 0, 1) := by decide +kernel
theorem dX5_turn_10 : decode cX5_turn 10 = .ok (.getfield 9, 3) := by decide +kernel
theorem dX5_turn_13 : decode cX5_turn 13 = .ok (.iload_n 1, 1) := by decide +kernel
theorem dX5_turn_14 : decode cX5_turn 14 = .ok (.aload_n 0, 1) := by decide +kernel
theorem dX5_turn_15 : decode cX5_turn 15 = .ok (.getfield 9, 3) := by decide +kernel
theorem dX5_turn_18 : decode cX5_turn 18 = .ok (.iload_n 1, 1) := by decide +kernel
theorem dX5_turn_19 : decode cX5_turn 19 = .ok (.baload, 1) := by decide +kernel
theorem dX5_turn_20 : decode cX5_turn 20 = .ok (.ifCond .ne 7, 3) := by decide +kernel
theorem dX5_turn_23 : decode cX5_turn 23 = .ok (.iconst 1, 1) := by decide +kernel
theorem dX5_turn_24 : decode cX5_turn 24 = .ok (.goto 4, 3) := by decide +kernel
theorem dX5_turn_27 : decode cX5_turn 27 = .ok (.iconst 0, 1) := by decide +kernel
theorem dX5_turn_28 : decode cX5_turn 28 = .ok (.bastore, 1) := by decide +kernel
theorem dX5_turn_29 : decode cX5_turn 29 = .ok (.iinc 1 1, 3) := by decide +kernel
theorem dX5_turn_32 : decode cX5_turn 32 = .ok (.goto (-30), 3) := by decide +kernel
theorem dX5_turn_35 : decode cX5_turn 35 = .ok (.aload_n 0, 1) := by decide +kernel
theorem dX5_turn_36 : decode cX5_turn 36 = .ok (.invokevirtual 23, 3) := by decide +kernel
theorem dX5_turn_39 : decode cX5_turn 39 = .ok (.return_, 1) := by decide +kernel
theorem dX5_recount_0 : decode cX5_recount 0 = .ok (.aload_n 0, 1) := by decide +kernel
theorem dX5_recount_1 : decode cX5_recount 1 = .ok (.iconst 0, 1) := by decide +kernel
theorem dX5_recount_2 : decode cX5_recount 2 = .ok (.putfield 15, 3) := by decide +kernel
theorem dX5_recount_5 : decode cX5_recount 5 = .ok (.iconst 0, 1) := by decide +kernel
theorem dX5_recount_6 : decode cX5_recount 6 = .ok (.istore_n 1, 1) := by decide +kernel
theorem dX5_recount_7 : decode cX5_recount 7 = .ok (.iload_n 1, 1) := by decide +kernel
theorem dX5_recount_8 : decode cX5_recount 8 = .ok (.sipush 192, 3) := by decide +kernel
theorem dX5_recount_11 : decode cX5_recount 11 = .ok (.if_icmp .ge 28, 3) := by decide +kernel
theorem dX5_recount_14 : decode cX5_recount 14 = .ok (.aload_n 0, 1) := by decide +kernel
theorem dX5_recount_15 : decode cX5_recount 15 = .ok (.getfield 9, 3) := by decide +kernel
theorem dX5_recount_18 : decode cX5_recount 18 = .ok (.iload_n 1, 1) := by decide +kernel
theorem dX5_recount_19 : decode cX5_recount 19 = .ok (.baload, 1) := by decide +kernel
theorem dX5_recount_20 : decode cX5_recount 20 = .ok (.ifCond .eq 13, 3) := by decide +kernel
theorem dX5_recount_23 : decode cX5_recount 23 = .ok (.aload_n 0, 1) := by decide +kernel
theorem dX5_recount_24 : decode cX5_recount 24 = .ok (.dup, 1) := by decide +kernel
theorem dX5_recount_25 : decode cX5_recount 25 = .ok (.getfield 15, 3) := by decide +kernel
theorem dX5_recount_28 : decode cX5_recount 28 = .ok (.iconst 1, 1) := by decide +kernel
theorem dX5_recount_29 : decode cX5_recount 29 = .ok (.iadd, 1) := by decide +kernel
theorem dX5_recount_30 : decode cX5_recount 30 = .ok (.putfield 15, 3) := by decide +kernel
theorem dX5_recount_33 : decode cX5_recount 33 = .ok (.iinc 1 1, 3) := by decide +kernel
theorem dX5_recount_36 : decode cX5_recount 36 = .ok (.goto (-29), 3) := by decide +kernel
theorem dX5_recount_39 : decode cX5_recount 39 = .ok (.return_, 1) := by decide +kernel
theorem dX5_rowBits_0 : decode cX5_rowBits 0 = .ok (.iconst 0, 1) := by decide +kernel
theorem dX5_rowBits_1 : decode cX5_rowBits 1 = .ok (.istore_n 2, 1) := by decide +kernel
theorem dX5_rowBits_2 : decode cX5_rowBits 2 = .ok (.iconst 0, 1) := by decide +kernel
theorem dX5_rowBits_3 : decode cX5_rowBits 3 = .ok (.istore_n 3, 1) := by decide +kernel
theorem dX5_rowBits_4 : decode cX5_rowBits 4 = .ok (.iload_n 3, 1) := by decide +kernel
theorem dX5_rowBits_5 : decode cX5_rowBits 5 = .ok (.bipush 16, 2) := by decide +kernel
theorem dX5_rowBits_7 : decode cX5_rowBits 7 = .ok (.if_icmp .ge 28, 3) := by decide +kernel
theorem dX5_rowBits_10 : decode cX5_rowBits 10 = .ok (.aload_n 0, 1) := by decide +kernel
theorem dX5_rowBits_11 : decode cX5_rowBits 11 = .ok (.getfield 9, 3) := by decide +kernel
theorem dX5_rowBits_14 : decode cX5_rowBits 14 = .ok (.iload_n 3, 1) := by decide +kernel
theorem dX5_rowBits_15 : decode cX5_rowBits 15 = .ok (.iload_n 1, 1) := by decide +kernel
theorem dX5_rowBits_16 : decode cX5_rowBits 16 = .ok (.invokestatic 26, 3) := by decide +kernel
theorem dX5_rowBits_19 : decode cX5_rowBits 19 = .ok (.baload, 1) := by decide +kernel
theorem dX5_rowBits_20 : decode cX5_rowBits 20 = .ok (.ifCond .eq 9, 3) := by decide +kernel
theorem dX5_rowBits_23 : decode cX5_rowBits 23 = .ok (.iload_n 2, 1) := by decide +kernel
theorem dX5_rowBits_24 : decode cX5_rowBits 24 = .ok (.iconst 1, 1) := by decide +kernel
theorem dX5_rowBits_25 : decode cX5_rowBits 25 = .ok (.iload_n 3, 1) := by decide +kernel
theorem dX5_rowBits_26 : decode cX5_rowBits 26 = .ok (.ishl, 1) := by decide +kernel
theorem dX5_rowBits_27 : decode cX5_rowBits 27 = .ok (.ior, 1) := by decide +kernel
theorem dX5_rowBits_28 : decode cX5_rowBits 28 = .ok (.istore_n 2, 1) := by decide +kernel
theorem dX5_rowBits_29 : decode cX5_rowBits 29 = .ok (.iinc 3 1, 3) := by decide +kernel
theorem dX5_rowBits_32 : decode cX5_rowBits 32 = .ok (.goto (-28), 3) := by decide +kernel
theorem dX5_rowBits_35 : decode cX5_rowBits 35 = .ok (.iload_n 2, 1) := by decide +kernel
theorem dX5_rowBits_36 : decode cX5_rowBits 36 = .ok (.ireturn, 1) := by decide +kernel
theorem dX6_init_0 : decode cX6_init 0 = .ok (.aload_n 0, 1) := by decide +kernel
theorem dX6_init_1 : decode cX6_init 1 = .ok (.invokespecial 3, 3) := by decide +kernel
theorem dX6_init_4 : decode cX6_init 4 = .ok (.aload_n 0, 1) := by decide +kernel
theorem dX6_init_5 : decode cX6_init 5 = .ok (.iconst 4, 1) := by decide +kernel
theorem dX6_init_6 : decode cX6_init 6 = .ok (.anewarray 9, 3) := by decide +kernel
theorem dX6_init_9 : decode cX6_init 9 = .ok (.putfield 11, 3) := by decide +kernel
theorem dX6_init_12 : decode cX6_init 12 = .ok (.aload_n 0, 1) := by decide +kernel
theorem dX6_init_13 : decode cX6_init 13 = .ok (.sipush 255, 3) := by decide +kernel
theorem dX6_init_16 : decode cX6_init 16 = .ok (.putfield 17, 3) := by decide +kernel
theorem dX6_init_19 : decode cX6_init 19 = .ok (.aload_n 0, 1) := by decide +kernel
theorem dX6_init_20 : decode cX6_init 20 = .ok (.new 21, 3) := by decide +kernel
theorem dX6_init_23 : decode cX6_init 23 = .ok (.dup, 1) := by decide +kernel
theorem dX6_init_24 : decode cX6_init 24 = .ok (.invokespecial 23, 3) := by decide +kernel
theorem dX6_init_27 : decode cX6_init 27 = .ok (.putfield 24, 3) := by decide +kernel
theorem dX6_init_30 : decode cX6_init 30 = .ok (.aload_n 0, 1) := by decide +kernel
theorem dX6_init_31 : decode cX6_init 31 = .ok (.new 28, 3) := by decide +kernel
theorem dX6_init_34 : decode cX6_init 34 = .ok (.dup, 1) := by decide +kernel
theorem dX6_init_35 : decode cX6_init 35 = .ok (.invokespecial 30, 3) := by decide +kernel
theorem dX6_init_38 : decode cX6_init 38 = .ok (.putfield 31, 3) := by decide +kernel
theorem dX6_init_41 : decode cX6_init 41 = .ok (.aload_n 0, 1) := by decide +kernel
theorem dX6_init_42 : decode cX6_init 42 = .ok (.new 35, 3) := by decide +kernel
theorem dX6_init_45 : decode cX6_init 45 = .ok (.dup, 1) := by decide +kernel
theorem dX6_init_46 : decode cX6_init 46 = .ok (.invokespecial 37, 3) := by decide +kernel
theorem dX6_init_49 : decode cX6_init 49 = .ok (.putfield 38, 3) := by decide +kernel
theorem dX6_init_52 : decode cX6_init 52 = .ok (.iconst 0, 1) := by decide +kernel
theorem dX6_init_53 : decode cX6_init 53 = .ok (.istore_n 1, 1) := by decide +kernel
theorem dX6_init_54 : decode cX6_init 54 = .ok (.iload_n 1, 1) := by decide +kernel
theorem dX6_init_55 : decode cX6_init 55 = .ok (.iconst 4, 1) := by decide +kernel
theorem dX6_init_56 : decode cX6_init 56 = .ok (.if_icmp .ge 22, 3) := by decide +kernel
theorem dX6_init_59 : decode cX6_init 59 = .ok (.aload_n 0, 1) := by decide +kernel
theorem dX6_init_60 : decode cX6_init 60 = .ok (.getfield 11, 3) := by decide +kernel
theorem dX6_init_63 : decode cX6_init 63 = .ok (.iload_n 1, 1) := by decide +kernel
theorem dX6_init_64 : decode cX6_init 64 = .ok (.new 9, 3) := by decide +kernel
theorem dX6_init_67 : decode cX6_init 67 = .ok (.dup, 1) := by decide +kernel
theorem dX6_init_68 : decode cX6_init 68 = .ok (.invokespecial 42, 3) := by decide +kernel
theorem dX6_init_71 : decode cX6_init 71 = .ok (.aastore, 1) := by decide +kernel
theorem dX6_init_72 : decode cX6_init 72 = .ok (.iinc 1 1, 3) := by decide +kernel
theorem dX6_init_75 : decode cX6_init 75 = .ok (.goto (-21), 3) := by decide +kernel
theorem dX6_init_78 : decode cX6_init 78 = .ok (.return_, 1) := by decide +kernel
theorem dX6_become_0 : decode cX6_become 0 = .ok (.iconst 0, 1) := by decide +kernel
theorem dX6_become_1 : decode cX6_become 1 = .ok (.istore_n 2, 1) := by decide +kernel
theorem dX6_become_2 : decode cX6_become 2 = .ok (.iload_n 2, 1) := by decide +kernel
theorem dX6_become_3 : decode cX6_become 3 = .ok (.iconst 4, 1) := by decide +kernel
theorem dX6_become_4 : decode cX6_become 4 = .ok (.if_icmp .ge 24, 3) := by decide +kernel
theorem dX6_become_7 : decode cX6_become 7 = .ok (.aload_n 0, 1) := by decide +kernel
theorem dX6_become_8 : decode cX6_become 8 = .ok (.getfield 11, 3) := by decide +kernel
theorem dX6_become_11 : decode cX6_become 11 = .ok (.iload_n 2, 1) := by decide +kernel
theorem dX6_become_12 : decode cX6_become 12 = .ok (.aaload, 1) := by decide +kernel
theorem dX6_become_13 : decode cX6_become 13 = .ok (.aload_n 1, 1) := by decide +kernel
theorem dX6_become_14 : decode cX6_become 14 = .ok (.getfield 11, 3) := by decide +kernel
theorem dX6_become_17 : decode cX6_become 17 = .ok (.iload_n 2, 1) := by decide +kernel
theorem dX6_become_18 : decode cX6_become 18 = .ok (.aaload, 1) := by decide +kernel
theorem dX6_become_19 : decode cX6_become 19 = .ok (.invokevirtual 43, 3) := by decide +kernel
theorem dX6_become_22 : decode cX6_become 22 = .ok (.iinc 2 1, 3) := by decide +kernel
theorem dX6_become_25 : decode cX6_become 25 = .ok (.goto (-23), 3) := by decide +kernel
theorem dX6_become_28 : decode cX6_become 28 = .ok (.aload_n 0, 1) := by decide +kernel
theorem dX6_become_29 : decode cX6_become 29 = .ok (.aload_n 1, 1) := by decide +kernel
theorem dX6_become_30 : decode cX6_become 30 = .ok (.getfield 47, 3) := by decide +kernel
theorem dX6_become_33 : decode cX6_become 33 = .ok (.putfield 47, 3) := by decide +kernel
theorem dX6_become_36 : decode cX6_become 36 = .ok (.aload_n 0, 1) := by decide +kernel
theorem dX6_become_37 : decode cX6_become 37 = .ok (.aload_n 1, 1) := by decide +kernel
theorem dX6_become_38 : decode cX6_become 38 = .ok (.getfield 17, 3) := by decide +kernel
theorem dX6_become_41 : decode cX6_become 41 = .ok (.putfield 17, 3) := by decide +kernel
theorem dX6_become_44 : decode cX6_become 44 = .ok (.aload_n 0, 1) := by decide +kernel
theorem dX6_become_45 : decode cX6_become 45 = .ok (.getfield 24, 3) := by decide +kernel
theorem dX6_become_48 : decode cX6_become 48 = .ok (.aload_n 1, 1) := by decide +kernel
theorem dX6_become_49 : decode cX6_become 49 = .ok (.getfield 24, 3) := by decide +kernel
theorem dX6_become_52 : decode cX6_become 52 = .ok (.getfield 50, 3) := by decide +kernel
theorem dX6_become_55 : decode cX6_become 55 = .ok (.iconst 0, 1) := by decide +kernel
theorem dX6_become_56 : decode cX6_become 56 = .ok (.invokevirtual 54, 3) := by decide +kernel
theorem dX6_become_59 : decode cX6_become 59 = .ok (.aload_n 0, 1) := by decide +kernel
theorem dX6_become_60 : decode cX6_become 60 = .ok (.getfield 31, 3) := by decide +kernel
theorem dX6_become_63 : decode cX6_become 63 = .ok (.aload_n 1, 1) := by decide +kernel
theorem dX6_become_64 : decode cX6_become 64 = .ok (.getfield 31, 3) := by decide +kernel
theorem dX6_become_67 : decode cX6_become 67 = .ok (.getfield 58, 3) := by decide +kernel
theorem dX6_become_70 : decode cX6_become 70 = .ok (.aload_n 1, 1) := by decide +kernel
theorem dX6_become_71 : decode cX6_become 71 = .ok (.getfield 31, 3) := by decide +kernel
theorem dX6_become_74 : decode cX6_become 74 = .ok (.getfield 61, 3) := by decide +kernel
theorem dX6_become_77 : decode cX6_become 77 = .ok (.aload_n 1, 1) := by decide +kernel
theorem dX6_become_78 : decode cX6_become 78 = .ok (.getfield 31, 3) := by decide +kernel
theorem dX6_become_81 : decode cX6_become 81 = .ok (.getfield 64, 3) := by decide +kernel
theorem dX6_become_84 : decode cX6_become 84 = .ok (.aload_n 1, 1) := by decide +kernel
theorem dX6_become_85 : decode cX6_become 85 = .ok (.getfield 31, 3) := by decide +kernel
theorem dX6_become_88 : decode cX6_become 88 = .ok (.getfield 67, 3) := by decide +kernel
theorem dX6_become_91 : decode cX6_become 91 = .ok (.invokevirtual 70, 3) := by decide +kernel
theorem dX6_become_94 : decode cX6_become 94 = .ok (.aload_n 0, 1) := by decide +kernel
theorem dX6_become_95 : decode cX6_become 95 = .ok (.getfield 38, 3) := by decide +kernel
theorem dX6_become_98 : decode cX6_become 98 = .ok (.aload_n 1, 1) := by decide +kernel
theorem dX6_become_99 : decode cX6_become 99 = .ok (.getfield 38, 3) := by decide +kernel
theorem dX6_become_102 : decode cX6_become 102 = .ok (.invokevirtual 73, 3) := by decide +kernel
theorem dX6_become_105 : decode cX6_become 105 = .ok (.return_, 1) := by decide +kernel
theorem dX6_hasLayer_0 : decode cX6_hasLayer 0 = .ok (.iload_n 1, 1) := by decide +kernel
theorem dX6_hasLayer_1 : decode cX6_hasLayer 1 = .ok (.ifCond .lt 15, 3) := by decide +kernel
theorem dX6_hasLayer_4 : decode cX6_hasLayer 4 = .ok (.iload_n 1, 1) := by decide +kernel
theorem dX6_hasLayer_5 : decode cX6_hasLayer 5 = .ok (.aload_n 0, 1) := by decide +kernel
theorem dX6_hasLayer_6 : decode cX6_hasLayer 6 = .ok (.getfield 47, 3) := by decide +kernel
theorem dX6_hasLayer_9 : decode cX6_hasLayer 9 = .ok (.if_icmp .ge 7, 3) := by decide +kernel
theorem dX6_hasLayer_12 : decode cX6_hasLayer 12 = .ok (.iconst 1, 1) := by decide +kernel
theorem dX6_hasLayer_13 : decode cX6_hasLayer 13 = .ok (.goto 4, 3) := by decide +kernel
theorem dX6_hasLayer_16 : decode cX6_hasLayer 16 = .ok (.iconst 0, 1) := by decide +kernel
theorem dX6_hasLayer_17 : decode cX6_hasLayer 17 = .ok (.ireturn, 1) := by decide +kernel
theorem dX6_addLayer_0 : decode cX6_addLayer 0 = .ok (.aload_n 0, 1) := by decide +kernel
theorem dX6_addLayer_1 : decode cX6_addLayer 1 = .ok (.getfield 38, 3) := by decide +kernel
theorem dX6_addLayer_4 : decode cX6_addLayer 4 = .ok (.invokevirtual 76, 3) := by decide +kernel
theorem dX6_addLayer_7 : decode cX6_addLayer 7 = .ok (.aload_n 0, 1) := by decide +kernel
theorem dX6_addLayer_8 : decode cX6_addLayer 8 = .ok (.getfield 11, 3) := by decide +kernel
theorem dX6_addLayer_11 : decode cX6_addLayer 11 = .ok (.aload_n 0, 1) := by decide +kernel
theorem dX6_addLayer_12 : decode cX6_addLayer 12 = .ok (.getfield 47, 3) := by decide +kernel
theorem dX6_addLayer_15 : decode cX6_addLayer 15 = .ok (.aaload, 1) := by decide +kernel
theorem dX6_addLayer_16 : decode cX6_addLayer 16 = .ok (.invokevirtual 79, 3) := by decide +kernel
theorem dX6_addLayer_19 : decode cX6_addLayer 19 = .ok (.aload_n 0, 1) := by decide +kernel
theorem dX6_addLayer_20 : decode cX6_addLayer 20 = .ok (.getfield 11, 3) := by decide +kernel
theorem dX6_addLayer_23 : decode cX6_addLayer 23 = .ok (.aload_n 0, 1) := by decide +kernel
theorem dX6_addLayer_24 : decode cX6_addLayer 24 = .ok (.getfield 47, 3) := by decide +kernel
theorem dX6_addLayer_27 : decode cX6_addLayer 27 = .ok (.aaload, 1) := by decide +kernel
theorem dX6_addLayer_28 : decode cX6_addLayer 28 = .ok (.iload_n 1, 1) := by decide +kernel
theorem dX6_addLayer_29 : decode cX6_addLayer 29 = .ok (.iload_n 2, 1) := by decide +kernel
theorem dX6_addLayer_30 : decode cX6_addLayer 30 = .ok (.iload_n 3, 1) := by decide +kernel
theorem dX6_addLayer_31 : decode cX6_addLayer 31 = .ok (.invokevirtual 82, 3) := by decide +kernel
theorem dX6_addLayer_34 : decode cX6_addLayer 34 = .ok (.aload_n 0, 1) := by decide +kernel
theorem dX6_addLayer_35 : decode cX6_addLayer 35 = .ok (.dup, 1) := by decide +kernel
theorem dX6_addLayer_36 : decode cX6_addLayer 36 = .ok (.getfield 47, 3) := by decide +kernel
theorem dX6_addLayer_39 : decode cX6_addLayer 39 = .ok (.iconst 1, 1) := by decide +kernel
theorem dX6_addLayer_40 : decode cX6_addLayer 40 = .ok (.iadd, 1) := by decide +kernel
theorem dX6_addLayer_41 : decode cX6_addLayer 41 = .ok (.putfield 47, 3) := by decide +kernel
theorem dX6_addLayer_44 : decode cX6_addLayer 44 = .ok (.aload_n 0, 1) := by decide +kernel
theorem dX6_addLayer_45 : decode cX6_addLayer 45 = .ok (.getfield 47, 3) := by decide +kernel
theorem dX6_addLayer_48 : decode cX6_addLayer 48 = .ok (.iconst 1, 1) := by decide +kernel
theorem dX6_addLayer_49 : decode cX6_addLayer 49 = .ok (.isub, 1) := by decide +kernel
theorem dX6_addLayer_50 : decode cX6_addLayer 50 = .ok (.ireturn, 1) := by decide +kernel
theorem dX6_removeLayer_0 : decode cX6_removeLayer 0 = .ok (.aload_n 0, 1) := by decide +kernel
theorem dX6_removeLayer_1 : decode cX6_removeLayer 1 = .ok (.iload_n 1, 1) := by decide +kernel
theorem dX6_removeLayer_2 : decode cX6_removeLayer 2 = .ok (.aload_n 0, 1) := by decide +kernel
theorem dX6_removeLayer_3 : decode cX6_removeLayer 3 = .ok (.getfield 47, 3) := by decide +kernel
theorem dX6_removeLayer_6 : decode cX6_removeLayer 6 = .ok (.iconst 1, 1) := by decide +kernel
theorem dX6_removeLayer_7 : decode cX6_removeLayer 7 = .ok (.isub, 1) := by decide +kernel
theorem dX6_removeLayer_8 : decode cX6_removeLayer 8 = .ok (.invokevirtual 86, 3) := by decide +kernel
theorem dX6_removeLayer_11 : decode cX6_removeLayer 11 = .ok (.aload_n 0, 1) := by decide +kernel
theorem dX6_removeLayer_12 : decode cX6_removeLayer 12 = .ok (.dup, 1) := by decide +kernel
theorem dX6_removeLayer_13 : decode cX6_removeLayer 13 = .ok (.getfield 47, 3) := by decide +kernel
theorem dX6_removeLayer_16 : decode cX6_removeLayer 16 = .ok (.iconst 1, 1) := by decide +kernel
theorem dX6_removeLayer_17 : decode cX6_removeLayer 17 = .ok (.isub, 1) := by decide +kernel
theorem dX6_removeLayer_18 : decode cX6_removeLayer 18 = .ok (.putfield 47, 3) := by decide +kernel
theorem dX6_removeLayer_21 : decode cX6_removeLayer 21 = .ok (.return_, 1) := by decide +kernel
theorem dX6_shiftLayer_0 : decode cX6_shiftLayer 0 = .ok (.aload_n 0, 1) := by decide +kernel
theorem dX6_shiftLayer_1 : decode cX6_shiftLayer 1 = .ok (.getfield 38, 3) := by decide +kernel
theorem dX6_shiftLayer_4 : decode cX6_shiftLayer 4 = .ok (.invokevirtual 76, 3) := by decide +kernel
theorem dX6_shiftLayer_7 : decode cX6_shiftLayer 7 = .ok (.aload_n 0, 1) := by decide +kernel
theorem dX6_shiftLayer_8 : decode cX6_shiftLayer 8 = .ok (.getfield 11, 3) := by decide +kernel
theorem dX6_shiftLayer_11 : decode cX6_shiftLayer 11 = .ok (.iload_n 1, 1) := by decide +kernel
theorem dX6_shiftLayer_12 : decode cX6_shiftLayer 12 = .ok (.aaload, 1) := by decide +kernel
theorem dX6_shiftLayer_13 : decode cX6_shiftLayer 13 = .ok (.astore_n 3, 1) := by decide +kernel
theorem dX6_shiftLayer_14 : decode cX6_shiftLayer 14 = .ok (.iload_n 1, 1) := by decide +kernel
theorem dX6_shiftLayer_15 : decode cX6_shiftLayer 15 = .ok (.istore 4, 2) := by decide +kernel
theorem dX6_shiftLayer_17 : decode cX6_shiftLayer 17 = .ok (.iload 4, 2) := by decide +kernel
theorem dX6_shiftLayer_19 : decode cX6_shiftLayer 19 = .ok (.iload_n 2, 1) := by decide +kernel
theorem dX6_shiftLayer_20 : decode cX6_shiftLayer 20 = .ok (.if_icmp .ge 25, 3) := by decide +kernel
theorem dX6_shiftLayer_23 : decode cX6_shiftLayer 23 = .ok (.aload_n 0, 1) := by decide +kernel
theorem dX6_shiftLayer_24 : decode cX6_shiftLayer 24 = .ok (.getfield 11, 3) := by decide +kernel
theorem dX6_shiftLayer_27 : decode cX6_shiftLayer 27 = .ok (.iload 4, 2) := by decide +kernel
theorem dX6_shiftLayer_29 : decode cX6_shiftLayer 29 = .ok (.aload_n 0, 1) := by decide +kernel
theorem dX6_shiftLayer_30 : decode cX6_shiftLayer 30 = .ok (.getfield 11, 3) := by decide +kernel
theorem dX6_shiftLayer_33 : decode cX6_shiftLayer 33 = .ok (.iload 4, 2) := by decide +kernel
theorem dX6_shiftLayer_35 : decode cX6_shiftLayer 35 = .ok (.iconst 1, 1) := by decide +kernel
theorem dX6_shiftLayer_36 : decode cX6_shiftLayer 36 = .ok (.iadd, 1) := by decide +kernel
theorem dX6_shiftLayer_37 : decode cX6_shiftLayer 37 = .ok (.aaload, 1) := by decide +kernel
theorem dX6_shiftLayer_38 : decode cX6_shiftLayer 38 = .ok (.aastore, 1) := by decide +kernel
theorem dX6_shiftLayer_39 : decode cX6_shiftLayer 39 = .ok (.iinc 4 1, 3) := by decide +kernel
theorem dX6_shiftLayer_42 : decode cX6_shiftLayer 42 = .ok (.goto (-25), 3) := by decide +kernel
theorem dX6_shiftLayer_45 : decode cX6_shiftLayer 45 = .ok (.iload_n 1, 1) := by decide +kernel
theorem dX6_shiftLayer_46 : decode cX6_shiftLayer 46 = .ok (.istore 4, 2) := by decide +kernel
theorem dX6_shiftLayer_48 : decode cX6_shiftLayer 48 = .ok (.iload 4, 2) := by decide +kernel
theorem dX6_shiftLayer_50 : decode cX6_shiftLayer 50 = .ok (.iload_n 2, 1) := by decide +kernel
theorem dX6_shiftLayer_51 : decode cX6_shiftLayer 51 = .ok (.if_icmp .le 25, 3) := by decide +kernel
theorem dX6_shiftLayer_54 : decode cX6_shiftLayer 54 = .ok (.aload_n 0, 1) := by decide +kernel
theorem dX6_shiftLayer_55 : decode cX6_shiftLayer 55 = .ok (.getfield 11, 3) := by decide +kernel
theorem dX6_shiftLayer_58 : decode cX6_shiftLayer 58 = .ok (.iload 4, 2) := by decide +kernel
theorem dX6_shiftLayer_60 : decode cX6_shiftLayer 60 = .ok (.aload_n 0, 1) := by decide +kernel
theorem dX6_shiftLayer_61 : decode cX6_shiftLayer 61 = .ok (.getfield 11, 3) := by decide +kernel
theorem dX6_shiftLayer_64 : decode cX6_shiftLayer 64 = .ok (.iload 4, 2) := by decide +kernel
theorem dX6_shiftLayer_66 : decode cX6_shiftLayer 66 = .ok (.iconst 1, 1) := by decide +kernel
theorem dX6_shiftLayer_67 : decode cX6_shiftLayer 67 = .ok (.isub, 1) := by decide +kernel
theorem dX6_shiftLayer_68 : decode cX6_shiftLayer 68 = .ok (.aaload, 1) := by decide +kernel
theorem dX6_shiftLayer_69 : decode cX6_shiftLayer 69 = .ok (.aastore, 1) := by decide +kernel
theorem dX6_shiftLayer_70 : decode cX6_shiftLayer 70 = .ok (.iinc 4 (-1), 3) := by decide +kernel
theorem dX6_shiftLayer_73 : decode cX6_shiftLayer 73 = .ok (.goto (-25), 3) := by decide +kernel
theorem dX6_shiftLayer_76 : decode cX6_shiftLayer 76 = .ok (.aload_n 0, 1) := by decide +kernel
theorem dX6_shiftLayer_77 : decode cX6_shiftLayer 77 = .ok (.getfield 11, 3) := by decide +kernel
theorem dX6_shiftLayer_80 : decode cX6_shiftLayer 80 = .ok (.iload_n 2, 1) := by decide +kernel
theorem dX6_shiftLayer_81 : decode cX6_shiftLayer 81 = .ok (.aload_n 3, 1) := by decide +kernel
theorem dX6_shiftLayer_82 : decode cX6_shiftLayer 82 = .ok (.aastore, 1) := by decide +kernel
theorem dX6_shiftLayer_83 : decode cX6_shiftLayer 83 = .ok (.return_, 1) := by decide +kernel
theorem dX6_seenIf_0 : decode cX6_seenIf 0 = .ok (.iload_n 2, 1) := by decide +kernel
theorem dX6_seenIf_1 : decode cX6_seenIf 1 = .ok (.istore 5, 2) := by decide +kernel
theorem dX6_seenIf_3 : decode cX6_seenIf 3 = .ok (.iconst 0, 1) := by decide +kernel
theorem dX6_seenIf_4 : decode cX6_seenIf 4 = .ok (.istore 6, 2) := by decide +kernel
theorem dX6_seenIf_6 : decode cX6_seenIf 6 = .ok (.iload 6, 2) := by decide +kernel
theorem dX6_seenIf_8 : decode cX6_seenIf 8 = .ok (.aload_n 0, 1) := by decide +kernel
theorem dX6_seenIf_9 : decode cX6_seenIf 9 = .ok (.getfield 47, 3) := by decide +kernel
theorem dX6_seenIf_12 : decode cX6_seenIf 12 = .ok (.if_icmp .ge 39, 3) := by decide +kernel
theorem dX6_seenIf_15 : decode cX6_seenIf 15 = .ok (.iload 6, 2) := by decide +kernel
theorem dX6_seenIf_17 : decode cX6_seenIf 17 = .ok (.iload_n 3, 1) := by decide +kernel
theorem dX6_seenIf_18 : decode cX6_seenIf 18 = .ok (.if_icmp .ne 8, 3) := by decide +kernel
theorem dX6_seenIf_21 : decode cX6_seenIf 21 = .ok (.aload 4, 2) := by decide +kernel
theorem dX6_seenIf_23 : decode cX6_seenIf 23 = .ok (.goto 10, 3) := by decide +kernel
theorem dX6_seenIf_26 : decode cX6_seenIf 26 = .ok (.aload_n 0, 1) := by decide +kernel
theorem dX6_seenIf_27 : decode cX6_seenIf 27 = .ok (.getfield 11, 3) := by decide +kernel
theorem dX6_seenIf_30 : decode cX6_seenIf 30 = .ok (.iload 6, 2) := by decide +kernel
theorem dX6_seenIf_32 : decode cX6_seenIf 32 = .ok (.aaload, 1) := by decide +kernel
theorem dX6_seenIf_33 : decode cX6_seenIf 33 = .ok (.astore 7, 2) := by decide +kernel
theorem dX6_seenIf_35 : decode cX6_seenIf 35 = .ok (.aload 7, 2) := by decide +kernel
theorem dX6_seenIf_37 : decode cX6_seenIf 37 = .ok (.iload 5, 2) := by decide +kernel
theorem dX6_seenIf_39 : decode cX6_seenIf 39 = .ok (.iload_n 1, 1) := by decide +kernel
theorem dX6_seenIf_40 : decode cX6_seenIf 40 = .ok (.invokevirtual 90, 3) := by decide +kernel
theorem dX6_seenIf_43 : decode cX6_seenIf 43 = .ok (.istore 5, 2) := by decide +kernel
theorem dX6_seenIf_45 : decode cX6_seenIf 45 = .ok (.iinc 6 1, 3) := by decide +kernel
theorem dX6_seenIf_48 : decode cX6_seenIf 48 = .ok (.goto (-42), 3) := by decide +kernel
theorem dX6_seenIf_51 : decode cX6_seenIf 51 = .ok (.iload 5, 2) := by decide +kernel
theorem dX6_seenIf_53 : decode cX6_seenIf 53 = .ok (.ireturn, 1) := by decide +kernel
theorem dX6_drawStroke_0 : decode cX6_drawStroke 0 = .ok (.aload_n 0, 1) := by decide +kernel
theorem dX6_drawStroke_1 : decode cX6_drawStroke 1 = .ok (.getfield 38, 3) := by decide +kernel
theorem dX6_drawStroke_4 : decode cX6_drawStroke 4 = .ok (.iload_n 1, 1) := by decide +kernel
theorem dX6_drawStroke_5 : decode cX6_drawStroke 5 = .ok (.aload_n 0, 1) := by decide +kernel
theorem dX6_drawStroke_6 : decode cX6_drawStroke 6 = .ok (.getfield 11, 3) := by decide +kernel
theorem dX6_drawStroke_9 : decode cX6_drawStroke 9 = .ok (.iload_n 1, 1) := by decide +kernel
theorem dX6_drawStroke_10 : decode cX6_drawStroke 10 = .ok (.aaload, 1) := by decide +kernel
theorem dX6_drawStroke_11 : decode cX6_drawStroke 11 = .ok (.invokevirtual 94, 3) := by decide +kernel
theorem dX6_drawStroke_14 : decode cX6_drawStroke 14 = .ok (.aload_n 0, 1) := by decide +kernel
theorem dX6_drawStroke_15 : decode cX6_drawStroke 15 = .ok (.aload_n 0, 1) := by decide +kernel
theorem dX6_drawStroke_16 : decode cX6_drawStroke 16 = .ok (.getfield 11, 3) := by decide +kernel
theorem dX6_drawStroke_19 : decode cX6_drawStroke 19 = .ok (.iload_n 1, 1) := by decide +kernel
theorem dX6_drawStroke_20 : decode cX6_drawStroke 20 = .ok (.aaload, 1) := by decide +kernel
theorem dX6_drawStroke_21 : decode cX6_drawStroke 21 = .ok (.aload_n 2, 1) := by decide +kernel
theorem dX6_drawStroke_22 : decode cX6_drawStroke 22 = .ok (.getfield 98, 3) := by decide +kernel
theorem dX6_drawStroke_25 : decode cX6_drawStroke 25 = .ok (.iconst 0, 1) := by decide +kernel
theorem dX6_drawStroke_26 : decode cX6_drawStroke 26 = .ok (.iaload, 1) := by decide +kernel
theorem dX6_drawStroke_27 : decode cX6_drawStroke 27 = .ok (.aload_n 2, 1) := by decide +kernel
theorem dX6_drawStroke_28 : decode cX6_drawStroke 28 = .ok (.getfield 104, 3) := by decide +kernel
theorem dX6_drawStroke_31 : decode cX6_drawStroke 31 = .ok (.iconst 0, 1) := by decide +kernel
theorem dX6_drawStroke_32 : decode cX6_drawStroke 32 = .ok (.iaload, 1) := by decide +kernel
theorem dX6_drawStroke_33 : decode cX6_drawStroke 33 = .ok (.invokevirtual 107, 3) := by decide +kernel
theorem dX6_drawStroke_36 : decode cX6_drawStroke 36 = .ok (.iconst 1, 1) := by decide +kernel
theorem dX6_drawStroke_37 : decode cX6_drawStroke 37 = .ok (.istore_n 3, 1) := by decide +kernel
theorem dX6_drawStroke_38 : decode cX6_drawStroke 38 = .ok (.iconst 1, 1) := by decide +kernel
theorem dX6_drawStroke_39 : decode cX6_drawStroke 39 = .ok (.istore 4, 2) := by decide +kernel
theorem dX6_drawStroke_41 : decode cX6_drawStroke 41 = .ok (.iload 4, 2) := by decide +kernel
theorem dX6_drawStroke_43 : decode cX6_drawStroke 43 = .ok (.aload_n 2, 1) := by decide +kernel
theorem dX6_drawStroke_44 : decode cX6_drawStroke 44 = .ok (.getfield 111, 3) := by decide +kernel
theorem dX6_drawStroke_47 : decode cX6_drawStroke 47 = .ok (.if_icmp .ge 54, 3) := by decide +kernel
theorem dX6_drawStroke_50 : decode cX6_drawStroke 50 = .ok (.iload_n 3, 1) := by decide +kernel
theorem dX6_drawStroke_51 : decode cX6_drawStroke 51 = .ok (.aload_n 0, 1) := by decide +kernel
theorem dX6_drawStroke_52 : decode cX6_drawStroke 52 = .ok (.aload_n 0, 1) := by decide +kernel
theorem dX6_drawStroke_53 : decode cX6_drawStroke 53 = .ok (.getfield 11, 3) := by decide +kernel
theorem dX6_drawStroke_56 : decode cX6_drawStroke 56 = .ok (.iload_n 1, 1) := by decide +kernel
theorem dX6_drawStroke_57 : decode cX6_drawStroke 57 = .ok (.aaload, 1) := by decide +kernel
theorem dX6_drawStroke_58 : decode cX6_drawStroke 58 = .ok (.aload_n 2, 1) := by decide +kernel
theorem dX6_drawStroke_59 : decode cX6_drawStroke 59 = .ok (.getfield 98, 3) := by decide +kernel
theorem dX6_drawStroke_62 : decode cX6_drawStroke 62 = .ok (.iload 4, 2) := by decide +kernel
theorem dX6_drawStroke_64 : decode cX6_drawStroke 64 = .ok (.iconst 1, 1) := by decide +kernel
theorem dX6_drawStroke_65 : decode cX6_drawStroke 65 = .ok (.isub, 1) := by decide +kernel
theorem dX6_drawStroke_66 : decode cX6_drawStroke 66 = .ok (.iaload, 1) := by decide +kernel
theorem dX6_drawStroke_67 : decode cX6_drawStroke 67 = .ok (.aload_n 2, 1) := by decide +kernel
theorem dX6_drawStroke_68 : decode cX6_drawStroke 68 = .ok (.getfield 104, 3) := by decide +kernel
theorem dX6_drawStroke_71 : decode cX6_drawStroke 71 = .ok (.iload 4, 2) := by decide +kernel
theorem dX6_drawStroke_73 : decode cX6_drawStroke 73 = .ok (.iconst 1, 1) := by decide +kernel
theorem dX6_drawStroke_74 : decode cX6_drawStroke 74 = .ok (.isub, 1) := by decide +kernel
theorem dX6_drawStroke_75 : decode cX6_drawStroke 75 = .ok (.iaload, 1) := by decide +kernel
theorem dX6_drawStroke_76 : decode cX6_drawStroke 76 = .ok (.aload_n 2, 1) := by decide +kernel
theorem dX6_drawStroke_77 : decode cX6_drawStroke 77 = .ok (.getfield 98, 3) := by decide +kernel
theorem dX6_drawStroke_80 : decode cX6_drawStroke 80 = .ok (.iload 4, 2) := by decide +kernel
theorem dX6_drawStroke_82 : decode cX6_drawStroke 82 = .ok (.iaload, 1) := by decide +kernel
theorem dX6_drawStroke_83 : decode cX6_drawStroke 83 = .ok (.aload_n 2, 1) := by decide +kernel
theorem dX6_drawStroke_84 : decode cX6_drawStroke 84 = .ok (.getfield 104, 3) := by decide +kernel
theorem dX6_drawStroke_87 : decode cX6_drawStroke 87 = .ok (.iload 4, 2) := by decide +kernel
theorem dX6_drawStroke_89 : decode cX6_drawStroke 89 = .ok (.iaload, 1) := by decide +kernel
theorem dX6_drawStroke_90 : decode cX6_drawStroke 90 = .ok (.invokevirtual 114, 3) := by decide +kernel
theorem dX6_drawStroke_93 : decode cX6_drawStroke 93 = .ok (.iadd, 1) := by decide +kernel
theorem dX6_drawStroke_94 : decode cX6_drawStroke 94 = .ok (.istore_n 3, 1) := by decide +kernel
theorem dX6_drawStroke_95 : decode cX6_drawStroke 95 = .ok (.iinc 4 1, 3) := by decide +kernel
theorem dX6_drawStroke_98 : decode cX6_drawStroke 98 = .ok (.goto (-57), 3) := by decide +kernel
theorem dX6_drawStroke_101 : decode cX6_drawStroke 101 = .ok (.aload_n 0, 1) := by decide +kernel
theorem dX6_drawStroke_102 : decode cX6_drawStroke 102 = .ok (.getfield 38, 3) := by decide +kernel
theorem dX6_drawStroke_105 : decode cX6_drawStroke 105 = .ok (.aload_n 0, 1) := by decide +kernel
theorem dX6_drawStroke_106 : decode cX6_drawStroke 106 = .ok (.getfield 11, 3) := by decide +kernel
theorem dX6_drawStroke_109 : decode cX6_drawStroke 109 = .ok (.iload_n 1, 1) := by decide +kernel
theorem dX6_drawStroke_110 : decode cX6_drawStroke 110 = .ok (.aaload, 1) := by decide +kernel
theorem dX6_drawStroke_111 : decode cX6_drawStroke 111 = .ok (.invokevirtual 118, 3) := by decide +kernel
theorem dX6_drawStroke_114 : decode cX6_drawStroke 114 = .ok (.iload_n 3, 1) := by decide +kernel
theorem dX6_drawStroke_115 : decode cX6_drawStroke 115 = .ok (.ireturn, 1) := by decide +kernel
theorem dX6_drawLine_0 : decode cX6_drawLine 0 = .ok (.iload 4, 2) := by decide +kernel
theorem dX6_drawLine_2 : decode cX6_drawLine 2 = .ok (.iload_n 2, 1) := by decide +kernel
theorem dX6_drawLine_3 : decode cX6_drawLine 3 = .ok (.isub, 1) := by decide +kernel
theorem dX6_drawLine_4 : decode cX6_drawLine 4 = .ok (.invokestatic 121, 3) := by decide +kernel
theorem dX6_drawLine_7 : decode cX6_drawLine 7 = .ok (.iload 5, 2) := by decide +kernel
theorem dX6_drawLine_9 : decode cX6_drawLine 9 = .ok (.iload_n 3, 1) := by decide +kernel
theorem dX6_drawLine_10 : decode cX6_drawLine 10 = .ok (.isub, 1) := by decide +kernel
theorem dX6_drawLine_11 : decode cX6_drawLine 11 = .ok (.invokestatic 121, 3) := by decide +kernel
theorem dX6_drawLine_14 : decode cX6_drawLine 14 = .ok (.invokestatic 127, 3) := by decide +kernel
theorem dX6_drawLine_17 : decode cX6_drawLine 17 = .ok (.istore 6, 2) := by decide +kernel
theorem dX6_drawLine_19 : decode cX6_drawLine 19 = .ok (.iconst 1, 1) := by decide +kernel
theorem dX6_drawLine_20 : decode cX6_drawLine 20 = .ok (.istore 7, 2) := by decide +kernel
theorem dX6_drawLine_22 : decode cX6_drawLine 22 = .ok (.iload 7, 2) := by decide +kernel
theorem dX6_drawLine_24 : decode cX6_drawLine 24 = .ok (.iload 6, 2) := by decide +kernel
theorem dX6_drawLine_26 : decode cX6_drawLine 26 = .ok (.if_icmp .gt 34, 3) := by decide +kernel
theorem dX6_drawLine_29 : decode cX6_drawLine 29 = .ok (.aload_n 0, 1) := by decide +kernel
theorem dX6_drawLine_30 : decode cX6_drawLine 30 = .ok (.aload_n 1, 1) := by decide +kernel
theorem dX6_drawLine_31 : decode cX6_drawLine 31 = .ok (.iload_n 2, 1) := by decide +kernel
theorem dX6_drawLine_32 : decode cX6_drawLine 32 = .ok (.iload 4, 2) := by decide +kernel
theorem dX6_drawLine_34 : decode cX6_drawLine 34 = .ok (.iload 7, 2) := by decide +kernel
theorem dX6_drawLine_36 : decode cX6_drawLine 36 = .ok (.iload 6, 2) := by decide +kernel
theorem dX6_drawLine_38 : decode cX6_drawLine 38 = .ok (.invokestatic 130, 3) := by decide +kernel
theorem dX6_drawLine_41 : decode cX6_drawLine 41 = .ok (.iload_n 3, 1) := by decide +kernel
theorem dX6_drawLine_42 : decode cX6_drawLine 42 = .ok (.iload 5, 2) := by decide +kernel
theorem dX6_drawLine_44 : decode cX6_drawLine 44 = .ok (.iload 7, 2) := by decide +kernel
theorem dX6_drawLine_46 : decode cX6_drawLine 46 = .ok (.iload 6, 2) := by decide +kernel
theorem dX6_drawLine_48 : decode cX6_drawLine 48 = .ok (.invokestatic 130, 3) := by decide +kernel
theorem dX6_drawLine_51 : decode cX6_drawLine 51 = .ok (.invokevirtual 107, 3) := by decide +kernel
theorem dX6_drawLine_54 : decode cX6_drawLine 54 = .ok (.iinc 7 1, 3) := by decide +kernel
theorem dX6_drawLine_57 : decode cX6_drawLine 57 = .ok (.goto (-35), 3) := by decide +kernel
theorem dX6_drawLine_60 : decode cX6_drawLine 60 = .ok (.iload 6, 2) := by decide +kernel
theorem dX6_drawLine_62 : decode cX6_drawLine 62 = .ok (.ireturn, 1) := by decide +kernel
theorem dX6_between_0 : decode cX6_between 0 = .ok (.iload_n 3, 1) := by decide +kernel
theorem dX6_between_1 : decode cX6_between 1 = .ok (.iconst 1, 1) := by decide +kernel
theorem dX6_between_2 : decode cX6_between 2 = .ok (.if_icmp .ge 5, 3) := by decide +kernel
theorem dX6_between_5 : decode cX6_between 5 = .ok (.iload_n 0, 1) := by decide +kernel
theorem dX6_between_6 : decode cX6_between 6 = .ok (.ireturn, 1) := by decide +kernel
theorem dX6_between_7 : decode cX6_between 7 = .ok (.iload_n 0, 1) := by decide +kernel
theorem dX6_between_8 : decode cX6_between 8 = .ok (.iconst 2, 1) := by decide +kernel
theorem dX6_between_9 : decode cX6_between 9 = .ok (.iload_n 2, 1) := by decide +kernel
theorem dX6_between_10 : decode cX6_between 10 = .ok (.imul, 1) := by decide +kernel
theorem dX6_between_11 : decode cX6_between 11 = .ok (.iload_n 1, 1) := by decide +kernel
theorem dX6_between_12 : decode cX6_between 12 = .ok (.iload_n 0, 1) := by decide +kernel
theorem dX6_between_13 : decode cX6_between 13 = .ok (.isub, 1) := by decide +kernel
theorem dX6_between_14 : decode cX6_between 14 = .ok (.imul, 1) := by decide +kernel
theorem dX6_between_15 : decode cX6_between 15 = .ok (.iload_n 3, 1) := by decide +kernel
theorem dX6_between_16 : decode cX6_between 16 = .ok (.iadd, 1) := by decide +kernel
theorem dX6_between_17 : decode cX6_between 17 = .ok (.iconst 2, 1) := by decide +kernel
theorem dX6_between_18 : decode cX6_between 18 = .ok (.iload_n 3, 1) := by decide +kernel
theorem dX6_between_19 : decode cX6_between 19 = .ok (.imul, 1) := by decide +kernel
theorem dX6_between_20 : decode cX6_between 20 = .ok (.invokestatic 134, 3) := by decide +kernel
theorem dX6_between_23 : decode cX6_between 23 = .ok (.iadd, 1) := by decide +kernel
theorem dX6_between_24 : decode cX6_between 24 = .ok (.ireturn, 1) := by decide +kernel
theorem dX6_stamp_0 : decode cX6_stamp 0 = .ok (.iload_n 3, 1) := by decide +kernel
theorem dX6_stamp_1 : decode cX6_stamp 1 = .ok (.aload_n 0, 1) := by decide +kernel
theorem dX6_stamp_2 : decode cX6_stamp 2 = .ok (.getfield 31, 3) := by decide +kernel
theorem dX6_stamp_5 : decode cX6_stamp 5 = .ok (.getfield 61, 3) := by decide +kernel
theorem dX6_stamp_8 : decode cX6_stamp 8 = .ok (.iadd, 1) := by decide +kernel
theorem dX6_stamp_9 : decode cX6_stamp 9 = .ok (.bipush 11, 2) := by decide +kernel
theorem dX6_stamp_11 : decode cX6_stamp 11 = .ok (.invokestatic 137, 3) := by decide +kernel
theorem dX6_stamp_14 : decode cX6_stamp 14 = .ok (.istore 4, 2) := by decide +kernel
theorem dX6_stamp_16 : decode cX6_stamp 16 = .ok (.iload_n 2, 1) := by decide +kernel
theorem dX6_stamp_17 : decode cX6_stamp 17 = .ok (.aload_n 0, 1) := by decide +kernel
theorem dX6_stamp_18 : decode cX6_stamp 18 = .ok (.getfield 31, 3) := by decide +kernel
theorem dX6_stamp_21 : decode cX6_stamp 21 = .ok (.getfield 61, 3) := by decide +kernel
theorem dX6_stamp_24 : decode cX6_stamp 24 = .ok (.iadd, 1) := by decide +kernel
theorem dX6_stamp_25 : decode cX6_stamp 25 = .ok (.bipush 15, 2) := by decide +kernel
theorem dX6_stamp_27 : decode cX6_stamp 27 = .ok (.invokestatic 137, 3) := by decide +kernel
theorem dX6_stamp_30 : decode cX6_stamp 30 = .ok (.istore 5, 2) := by decide +kernel
theorem dX6_stamp_32 : decode cX6_stamp 32 = .ok (.iload_n 3, 1) := by decide +kernel
theorem dX6_stamp_33 : decode cX6_stamp 33 = .ok (.aload_n 0, 1) := by decide +kernel
theorem dX6_stamp_34 : decode cX6_stamp 34 = .ok (.getfield 31, 3) := by decide +kernel
theorem dX6_stamp_37 : decode cX6_stamp 37 = .ok (.getfield 61, 3) := by decide +kernel
theorem dX6_stamp_40 : decode cX6_stamp 40 = .ok (.isub, 1) := by decide +kernel
theorem dX6_stamp_41 : decode cX6_stamp 41 = .ok (.iconst 0, 1) := by decide +kernel
theorem dX6_stamp_42 : decode cX6_stamp 42 = .ok (.invokestatic 127, 3) := by decide +kernel
theorem dX6_stamp_45 : decode cX6_stamp 45 = .ok (.istore 6, 2) := by decide +kernel
theorem dX6_stamp_47 : decode cX6_stamp 47 = .ok (.iload 6, 2) := by decide +kernel
theorem dX6_stamp_49 : decode cX6_stamp 49 = .ok (.iload 4, 2) := by decide +kernel
theorem dX6_stamp_51 : decode cX6_stamp 51 = .ok (.if_icmp .gt 81, 3) := by decide +kernel
theorem dX6_stamp_54 : decode cX6_stamp 54 = .ok (.iload_n 2, 1) := by decide +kernel
theorem dX6_stamp_55 : decode cX6_stamp 55 = .ok (.aload_n 0, 1) := by decide +kernel
theorem dX6_stamp_56 : decode cX6_stamp 56 = .ok (.getfield 31, 3) := by decide +kernel
theorem dX6_stamp_59 : decode cX6_stamp 59 = .ok (.getfield 61, 3) := by decide +kernel
theorem dX6_stamp_62 : decode cX6_stamp 62 = .ok (.isub, 1) := by decide +kernel
theorem dX6_stamp_63 : decode cX6_stamp 63 = .ok (.iconst 0, 1) := by decide +kernel
theorem dX6_stamp_64 : decode cX6_stamp 64 = .ok (.invokestatic 127, 3) := by decide +kernel
theorem dX6_stamp_67 : decode cX6_stamp 67 = .ok (.istore 7, 2) := by decide +kernel
theorem dX6_stamp_69 : decode cX6_stamp 69 = .ok (.iload 7, 2) := by decide +kernel
theorem dX6_stamp_71 : decode cX6_stamp 71 = .ok (.iload 5, 2) := by decide +kernel
theorem dX6_stamp_73 : decode cX6_stamp 73 = .ok (.if_icmp .gt 53, 3) := by decide +kernel
theorem dX6_stamp_76 : decode cX6_stamp 76 = .ok (.aload_n 0, 1) := by decide +kernel
theorem dX6_stamp_77 : decode cX6_stamp 77 = .ok (.getfield 24, 3) := by decide +kernel
theorem dX6_stamp_80 : decode cX6_stamp 80 = .ok (.iload 7, 2) := by decide +kernel
theorem dX6_stamp_82 : decode cX6_stamp 82 = .ok (.iload 6, 2) := by decide +kernel
theorem dX6_stamp_84 : decode cX6_stamp 84 = .ok (.invokestatic 140, 3) := by decide +kernel
theorem dX6_stamp_87 : decode cX6_stamp 87 = .ok (.invokevirtual 143, 3) := by decide +kernel
theorem dX6_stamp_90 : decode cX6_stamp 90 = .ok (.ifCond .eq 30, 3) := by decide +kernel
theorem dX6_stamp_93 : decode cX6_stamp 93 = .ok (.aload_n 0, 1) := by decide +kernel
theorem dX6_stamp_94 : decode cX6_stamp 94 = .ok (.aload_n 1, 1) := by decide +kernel
theorem dX6_stamp_95 : decode cX6_stamp 95 = .ok (.iload 7, 2) := by decide +kernel
theorem dX6_stamp_97 : decode cX6_stamp 97 = .ok (.iload 6, 2) := by decide +kernel
theorem dX6_stamp_99 : decode cX6_stamp 99 = .ok (.invokestatic 140, 3) := by decide +kernel
theorem dX6_stamp_102 : decode cX6_stamp 102 = .ok (.aload_n 0, 1) := by decide +kernel
theorem dX6_stamp_103 : decode cX6_stamp 103 = .ok (.getfield 31, 3) := by decide +kernel
theorem dX6_stamp_106 : decode cX6_stamp 106 = .ok (.iload 7, 2) := by decide +kernel
theorem dX6_stamp_108 : decode cX6_stamp 108 = .ok (.iload_n 2, 1) := by decide +kernel
theorem dX6_stamp_109 : decode cX6_stamp 109 = .ok (.isub, 1) := by decide +kernel
theorem dX6_stamp_110 : decode cX6_stamp 110 = .ok (.iload 6, 2) := by decide +kernel
theorem dX6_stamp_112 : decode cX6_stamp 112 = .ok (.iload_n 3, 1) := by decide +kernel
theorem dX6_stamp_113 : decode cX6_stamp 113 = .ok (.isub, 1) := by decide +kernel
theorem dX6_stamp_114 : decode cX6_stamp 114 = .ok (.invokevirtual 147, 3) := by decide +kernel
theorem dX6_stamp_117 : decode cX6_stamp 117 = .ok (.invokevirtual 150, 3) := by decide +kernel
theorem dX6_stamp_120 : decode cX6_stamp 120 = .ok (.iinc 7 1, 3) := by decide +kernel
theorem dX6_stamp_123 : decode cX6_stamp 123 = .ok (.goto (-54), 3) := by decide +kernel
theorem dX6_stamp_126 : decode cX6_stamp 126 = .ok (.iinc 6 1, 3) := by decide +kernel
theorem dX6_stamp_129 : decode cX6_stamp 129 = .ok (.goto (-82), 3) := by decide +kernel
theorem dX6_stamp_132 : decode cX6_stamp 132 = .ok (.return_, 1) := by decide +kernel
theorem dX6_fillChosen_0 : decode cX6_fillChosen 0 = .ok (.aload_n 0, 1) := by decide +kernel
theorem dX6_fillChosen_1 : decode cX6_fillChosen 1 = .ok (.getfield 38, 3) := by decide +kernel
theorem dX6_fillChosen_4 : decode cX6_fillChosen 4 = .ok (.iload_n 1, 1) := by decide +kernel
theorem dX6_fillChosen_5 : decode cX6_fillChosen 5 = .ok (.aload_n 0, 1) := by decide +kernel
theorem dX6_fillChosen_6 : decode cX6_fillChosen 6 = .ok (.getfield 11, 3) := by decide +kernel
theorem dX6_fillChosen_9 : decode cX6_fillChosen 9 = .ok (.iload_n 1, 1) := by decide +kernel
theorem dX6_fillChosen_10 : decode cX6_fillChosen 10 = .ok (.aaload, 1) := by decide +kernel
theorem dX6_fillChosen_11 : decode cX6_fillChosen 11 = .ok (.invokevirtual 94, 3) := by decide +kernel
theorem dX6_fillChosen_14 : decode cX6_fillChosen 14 = .ok (.iconst 0, 1) := by decide +kernel
theorem dX6_fillChosen_15 : decode cX6_fillChosen 15 = .ok (.istore_n 3, 1) := by decide +kernel
theorem dX6_fillChosen_16 : decode cX6_fillChosen 16 = .ok (.iconst 0, 1) := by decide +kernel
theorem dX6_fillChosen_17 : decode cX6_fillChosen 17 = .ok (.istore 4, 2) := by decide +kernel
theorem dX6_fillChosen_19 : decode cX6_fillChosen 19 = .ok (.iload 4, 2) := by decide +kernel
theorem dX6_fillChosen_21 : decode cX6_fillChosen 21 = .ok (.sipush 192, 3) := by decide +kernel
theorem dX6_fillChosen_24 : decode cX6_fillChosen 24 = .ok (.if_icmp .ge 46, 3) := by decide +kernel
theorem dX6_fillChosen_27 : decode cX6_fillChosen 27 = .ok (.aload_n 2, 1) := by decide +kernel
theorem dX6_fillChosen_28 : decode cX6_fillChosen 28 = .ok (.iload 4, 2) := by decide +kernel
theorem dX6_fillChosen_30 : decode cX6_fillChosen 30 = .ok (.baload, 1) := by decide +kernel
theorem dX6_fillChosen_31 : decode cX6_fillChosen 31 = .ok (.ifCond .eq 33, 3) := by decide +kernel
theorem dX6_fillChosen_34 : decode cX6_fillChosen 34 = .ok (.aload_n 0, 1) := by decide +kernel
theorem dX6_fillChosen_35 : decode cX6_fillChosen 35 = .ok (.getfield 24, 3) := by decide +kernel
theorem dX6_fillChosen_38 : decode cX6_fillChosen 38 = .ok (.iload 4, 2) := by decide +kernel
theorem dX6_fillChosen_40 : decode cX6_fillChosen 40 = .ok (.invokevirtual 143, 3) := by decide +kernel
theorem dX6_fillChosen_43 : decode cX6_fillChosen 43 = .ok (.ifCond .eq 21, 3) := by decide +kernel
theorem dX6_fillChosen_46 : decode cX6_fillChosen 46 = .ok (.aload_n 0, 1) := by decide +kernel
theorem dX6_fillChosen_47 : decode cX6_fillChosen 47 = .ok (.aload_n 0, 1) := by decide +kernel
theorem dX6_fillChosen_48 : decode cX6_fillChosen 48 = .ok (.getfield 11, 3) := by decide +kernel
theorem dX6_fillChosen_51 : decode cX6_fillChosen 51 = .ok (.iload_n 1, 1) := by decide +kernel
theorem dX6_fillChosen_52 : decode cX6_fillChosen 52 = .ok (.aaload, 1) := by decide +kernel
theorem dX6_fillChosen_53 : decode cX6_fillChosen 53 = .ok (.iload 4, 2) := by decide +kernel
theorem dX6_fillChosen_55 : decode cX6_fillChosen 55 = .ok (.sipush 255, 3) := by decide +kernel
theorem dX6_fillChosen_58 : decode cX6_fillChosen 58 = .ok (.invokevirtual 150, 3) := by decide +kernel
theorem dX6_fillChosen_61 : decode cX6_fillChosen 61 = .ok (.iinc 3 1, 3) := by decide +kernel
theorem dX6_fillChosen_64 : decode cX6_fillChosen 64 = .ok (.iinc 4 1, 3) := by decide +kernel
theorem dX6_fillChosen_67 : decode cX6_fillChosen 67 = .ok (.goto (-48), 3) := by decide +kernel
theorem dX6_fillChosen_70 : decode cX6_fillChosen 70 = .ok (.aload_n 0, 1) := by decide +kernel
theorem dX6_fillChosen_71 : decode cX6_fillChosen 71 = .ok (.getfield 38, 3) := by decide +kernel
theorem dX6_fillChosen_74 : decode cX6_fillChosen 74 = .ok (.aload_n 0, 1) := by decide +kernel
theorem dX6_fillChosen_75 : decode cX6_fillChosen 75 = .ok (.getfield 11, 3) := by decide +kernel
theorem dX6_fillChosen_78 : decode cX6_fillChosen 78 = .ok (.iload_n 1, 1) := by decide +kernel
theorem dX6_fillChosen_79 : decode cX6_fillChosen 79 = .ok (.aaload, 1) := by decide +kernel
theorem dX6_fillChosen_80 : decode cX6_fillChosen 80 = .ok (.invokevirtual 118, 3) := by decide +kernel
theorem dX6_fillChosen_83 : decode cX6_fillChosen 83 = .ok (.iload_n 3, 1) := by decide +kernel
theorem dX6_fillChosen_84 : decode cX6_fillChosen 84 = .ok (.ireturn, 1) := by decide +kernel
theorem dX6_apply_0 : decode cX6_apply 0 = .ok (.aload_n 0, 1) := by decide +kernel
theorem dX6_apply_1 : decode cX6_apply 1 = .ok (.getfield 31, 3) := by decide +kernel
theorem dX6_apply_4 : decode cX6_apply 4 = .ok (.getfield 64, 3) := by decide +kernel
theorem dX6_apply_7 : decode cX6_apply 7 = .ok (.iconst (-1), 1) := by decide +kernel
theorem dX6_apply_8 : decode cX6_apply 8 = .ok (.if_icmp .ne 12, 3) := by decide +kernel
theorem dX6_apply_11 : decode cX6_apply 11 = .ok (.aload_n 1, 1) := by decide +kernel
theorem dX6_apply_12 : decode cX6_apply 12 = .ok (.iload_n 2, 1) := by decide +kernel
theorem dX6_apply_13 : decode cX6_apply 13 = .ok (.iload_n 3, 1) := by decide +kernel
theorem dX6_apply_14 : decode cX6_apply 14 = .ok (.invokevirtual 153, 3) := by decide +kernel
theorem dX6_apply_17 : decode cX6_apply 17 = .ok (.goto 16, 3) := by decide +kernel
theorem dX6_apply_20 : decode cX6_apply 20 = .ok (.aload_n 1, 1) := by decide +kernel
theorem dX6_apply_21 : decode cX6_apply 21 = .ok (.iload_n 2, 1) := by decide +kernel
theorem dX6_apply_22 : decode cX6_apply 22 = .ok (.aload_n 0, 1) := by decide +kernel
theorem dX6_apply_23 : decode cX6_apply 23 = .ok (.getfield 31, 3) := by decide +kernel
theorem dX6_apply_26 : decode cX6_apply 26 = .ok (.getfield 64, 3) := by decide +kernel
theorem dX6_apply_29 : decode cX6_apply 29 = .ok (.iload_n 3, 1) := by decide +kernel
theorem dX6_apply_30 : decode cX6_apply 30 = .ok (.invokevirtual 156, 3) := by decide +kernel
theorem dX6_apply_33 : decode cX6_apply 33 = .ok (.return_, 1) := by decide +kernel
theorem dX7_init_0 : decode cX7_init 0 = .ok (.aload_n 0, 1) := by decide +kernel
theorem dX7_init_1 : decode cX7_init 1 = .ok (.invokespecial 3, 3) := by decide +kernel
theorem dX7_init_4 : decode cX7_init 4 = .ok (.aload_n 0, 1) := by decide +kernel
theorem dX7_init_5 : decode cX7_init 5 = .ok (.iconst (-1), 1) := by decide +kernel
theorem dX7_init_6 : decode cX7_init 6 = .ok (.putfield 9, 3) := by decide +kernel
theorem dX7_init_9 : decode cX7_init 9 = .ok (.aload_n 0, 1) := by decide +kernel
theorem dX7_init_10 : decode cX7_init 10 = .ok (.bipush 40, 2) := by decide +kernel
theorem dX7_init_12 : decode cX7_init 12 = .ok (.newarray .int, 2) := by decide +kernel
theorem dX7_init_14 : decode cX7_init 14 = .ok (.putfield 15, 3) := by decide +kernel
theorem dX7_init_17 : decode cX7_init 17 = .ok (.return_, 1) := by decide +kernel
theorem dX7_isMissing_0 : decode cX7_isMissing 0 = .ok (.aload_n 0, 1) := by decide +kernel
theorem dX7_isMissing_1 : decode cX7_isMissing 1 = .ok (.getfield 9, 3) := by decide +kernel
theorem dX7_isMissing_4 : decode cX7_isMissing 4 = .ok (.iconst (-1), 1) := by decide +kernel
theorem dX7_isMissing_5 : decode cX7_isMissing 5 = .ok (.if_icmp .ne 7, 3) := by decide +kernel
theorem dX7_isMissing_8 : decode cX7_isMissing 8 = .ok (.iconst 1, 1) := by decide +kernel
theorem dX7_isMissing_9 : decode cX7_isMissing 9 = .ok (.goto 4, 3) := by decide +kernel
theorem dX7_isMissing_12 : decode cX7_isMissing 12 = .ok (.iconst 0, 1) := by decide +kernel
theorem dX7_isMissing_13 : decode cX7_isMissing 13 = .ok (.ireturn, 1) := by decide +kernel
theorem dX7_become_0 : decode cX7_become 0 = .ok (.aload_n 0, 1) := by decide +kernel
theorem dX7_become_1 : decode cX7_become 1 = .ok (.iload_n 1, 1) := by decide +kernel
theorem dX7_become_2 : decode cX7_become 2 = .ok (.putfield 9, 3) := by decide +kernel
theorem dX7_become_5 : decode cX7_become 5 = .ok (.aload_n 0, 1) := by decide +kernel
theorem dX7_become_6 : decode cX7_become 6 = .ok (.iload_n 2, 1) := by decide +kernel
theorem dX7_become_7 : decode cX7_become 7 = .ok (.putfield 19, 3) := by decide +kernel
theorem dX7_become_10 : decode cX7_become 10 = .ok (.aload_n 0, 1) := by decide +kernel
theorem dX7_become_11 : decode cX7_become 11 = .ok (.getfield 15, 3) := by decide +kernel
theorem dX7_become_14 : decode cX7_become 14 = .ok (.iconst 0, 1) := by decide +kernel
theorem dX7_become_15 : decode cX7_become 15 = .ok (.invokestatic 22, 3) := by decide +kernel
theorem dX7_become_18 : decode cX7_become 18 = .ok (.return_, 1) := by decide +kernel
theorem dX7_set_0 : decode cX7_set 0 = .ok (.iload_n 1, 1) := by decide +kernel
theorem dX7_set_1 : decode cX7_set 1 = .ok (.ifCond .lt 30, 3) := by decide +kernel
theorem dX7_set_4 : decode cX7_set 4 = .ok (.iload_n 1, 1) := by decide +kernel
theorem dX7_set_5 : decode cX7_set 5 = .ok (.aload_n 0, 1) := by decide +kernel
theorem dX7_set_6 : decode cX7_set 6 = .ok (.getfield 19, 3) := by decide +kernel
theorem dX7_set_9 : decode cX7_set 9 = .ok (.if_icmp .ge 22, 3) := by decide +kernel
theorem dX7_set_12 : decode cX7_set 12 = .ok (.aload_n 0, 1) := by decide +kernel
theorem dX7_set_13 : decode cX7_set 13 = .ok (.getfield 15, 3) := by decide +kernel
theorem dX7_set_16 : decode cX7_set 16 = .ok (.iload_n 1, 1) := by decide +kernel
theorem dX7_set_17 : decode cX7_set 17 = .ok (.aload_n 0, 1) := by decide +kernel
theorem dX7_set_18 : decode cX7_set 18 = .ok (.getfield 9, 3) := by decide +kernel
theorem dX7_set_21 : decode cX7_set 21 = .ok (.ifCond .ne 8, 3) := by decide +kernel
theorem dX7_set_24 : decode cX7_set 24 = .ok (.iload_n 2, 1) := by decide +kernel
theorem dX7_set_25 : decode cX7_set 25 = .ok (.i2s, 1) := by decide +kernel
theorem dX7_set_26 : decode cX7_set 26 = .ok (.goto 4, 3) := by decide +kernel
theorem dX7_set_29 : decode cX7_set 29 = .ok (.iload_n 2, 1) := by decide +kernel
theorem dX7_set_30 : decode cX7_set 30 = .ok (.iastore, 1) := by decide +kernel
theorem dX7_set_31 : decode cX7_set 31 = .ok (.return_, 1) := by decide +kernel
theorem dX7_hasPart_0 : decode cX7_hasPart 0 = .ok (.iload_n 2, 1) := by decide +kernel
theorem dX7_hasPart_1 : decode cX7_hasPart 1 = .ok (.ifCond .lt 29, 3) := by decide +kernel
theorem dX7_hasPart_4 : decode cX7_hasPart 4 = .ok (.iload_n 1, 1) := by decide +kernel
theorem dX7_hasPart_5 : decode cX7_hasPart 5 = .ok (.ifCond .lt 25, 3) := by decide +kernel
theorem dX7_hasPart_8 : decode cX7_hasPart 8 = .ok (.iload_n 1, 1) := by decide +kernel
theorem dX7_hasPart_9 : decode cX7_hasPart 9 = .ok (.aload_n 0, 1) := by decide +kernel
theorem dX7_hasPart_10 : decode cX7_hasPart 10 = .ok (.getfield 19, 3) := by decide +kernel
theorem dX7_hasPart_13 : decode cX7_hasPart 13 = .ok (.if_icmp .gt 17, 3) := by decide +kernel
theorem dX7_hasPart_16 : decode cX7_hasPart 16 = .ok (.iload_n 2, 1) := by decide +kernel
theorem dX7_hasPart_17 : decode cX7_hasPart 17 = .ok (.aload_n 0, 1) := by decide +kernel
theorem dX7_hasPart_18 : decode cX7_hasPart 18 = .ok (.getfield 19, 3) := by decide +kernel
theorem dX7_hasPart_21 : decode cX7_hasPart 21 = .ok (.iload_n 1, 1) := by decide +kernel
theorem dX7_hasPart_22 : decode cX7_hasPart 22 = .ok (.isub, 1) := by decide +kernel
theorem dX7_hasPart_23 : decode cX7_hasPart 23 = .ok (.if_icmp .gt 7, 3) := by decide +kernel
theorem dX7_hasPart_26 : decode cX7_hasPart 26 = .ok (.iconst 1, 1) := by decide +kernel
theorem dX7_hasPart_27 : decode cX7_hasPart 27 = .ok (.goto 4, 3) := by decide +kernel
theorem dX7_hasPart_30 : decode cX7_hasPart 30 = .ok (.iconst 0, 1) := by decide +kernel
theorem dX7_hasPart_31 : decode cX7_hasPart 31 = .ok (.ireturn, 1) := by decide +kernel
theorem dX8_init_0 : decode cX8_init 0 = .ok (.aload_n 0, 1) := by decide +kernel
theorem dX8_init_1 : decode cX8_init 1 = .ok (.invokespecial 3, 3) := by decide +kernel
theorem dX8_init_4 : decode cX8_init 4 = .ok (.aload_n 0, 1) := by decide +kernel
theorem dX8_init_5 : decode cX8_init 5 = .ok (.bipush 60, 2) := by decide +kernel
theorem dX8_init_7 : decode cX8_init 7 = .ok (.newarray .int, 2) := by decide +kernel
theorem dX8_init_9 : decode cX8_init 9 = .ok (.putfield 9, 3) := by decide +kernel
theorem dX8_init_12 : decode cX8_init 12 = .ok (.aload_n 0, 1) := by decide +kernel
theorem dX8_init_13 : decode cX8_init 13 = .ok (.bipush 60, 2) := by decide +kernel
theorem dX8_init_15 : decode cX8_init 15 = .ok (.newarray .int, 2) := by decide +kernel
theorem dX8_init_17 : decode cX8_init 17 = .ok (.putfield 15, 3) := by decide +kernel
theorem dX8_init_20 : decode cX8_init 20 = .ok (.aload_n 0, 1) := by decide +kernel
theorem dX8_init_21 : decode cX8_init 21 = .ok (.bipush 60, 2) := by decide +kernel
theorem dX8_init_23 : decode cX8_init 23 = .ok (.newarray .int, 2) := by decide +kernel
theorem dX8_init_25 : decode cX8_init 25 = .ok (.putfield 18, 3) := by decide +kernel
theorem dX8_init_28 : decode cX8_init 28 = .ok (.return_, 1) := by decide +kernel
theorem dX8_add_0 : decode cX8_add 0 = .ok (.aload_n 0, 1) := by decide +kernel
theorem dX8_add_1 : decode cX8_add 1 = .ok (.getfield 21, 3) := by decide +kernel
theorem dX8_add_4 : decode cX8_add 4 = .ok (.bipush 60, 2) := by decide +kernel
theorem dX8_add_6 : decode cX8_add 6 = .ok (.if_icmp .ge 23, 3) := by decide +kernel
theorem dX8_add_9 : decode cX8_add 9 = .ok (.aload_n 0, 1) := by decide +kernel
theorem dX8_add_10 : decode cX8_add 10 = .ok (.getfield 9, 3) := by decide +kernel
theorem dX8_add_13 : decode cX8_add 13 = .ok (.aload_n 0, 1) := by decide +kernel
theorem dX8_add_14 : decode cX8_add 14 = .ok (.getfield 21, 3) := by decide +kernel
theorem dX8_add_17 : decode cX8_add 17 = .ok (.iload_n 1, 1) := by decide +kernel
theorem dX8_add_18 : decode cX8_add 18 = .ok (.iastore, 1) := by decide +kernel
theorem dX8_add_19 : decode cX8_add 19 = .ok (.aload_n 0, 1) := by decide +kernel
theorem dX8_add_20 : decode cX8_add 20 = .ok (.dup, 1) := by decide +kernel
theorem dX8_add_21 : decode cX8_add 21 = .ok (.getfield 21, 3) := by decide +kernel
theorem dX8_add_24 : decode cX8_add 24 = .ok (.iconst 1, 1) := by decide +kernel
theorem dX8_add_25 : decode cX8_add 25 = .ok (.iadd, 1) := by decide +kernel
theorem dX8_add_26 : decode cX8_add 26 = .ok (.putfield 21, 3) := by decide +kernel
theorem dX8_add_29 : decode cX8_add 29 = .ok (.return_, 1) := by decide +kernel
theorem dX8_read_0 : decode cX8_read 0 = .ok (.aload_n 0, 1) := by decide +kernel
theorem dX8_read_1 : decode cX8_read 1 = .ok (.iconst 0, 1) := by decide +kernel
theorem dX8_read_2 : decode cX8_read 2 = .ok (.putfield 25, 3) := by decide +kernel
theorem dX8_read_5 : decode cX8_read 5 = .ok (.aload_n 0, 1) := by decide +kernel
theorem dX8_read_6 : decode cX8_read 6 = .ok (.iconst (-1), 1) := by decide +kernel
theorem dX8_read_7 : decode cX8_read 7 = .ok (.putfield 28, 3) := by decide +kernel
theorem dX8_read_10 : decode cX8_read 10 = .ok (.aload_n 0, 1) := by decide +kernel
theorem dX8_read_11 : decode cX8_read 11 = .ok (.iconst 0, 1) := by decide +kernel
theorem dX8_read_12 : decode cX8_read 12 = .ok (.putfield 31, 3) := by decide +kernel
theorem dX8_read_15 : decode cX8_read 15 = .ok (.aload_n 0, 1) := by decide +kernel
theorem dX8_read_16 : decode cX8_read 16 = .ok (.invokevirtual 34, 3) := by decide +kernel
theorem dX8_read_19 : decode cX8_read 19 = .ok (.aload_n 0, 1) := by decide +kernel
theorem dX8_read_20 : decode cX8_read 20 = .ok (.ldc 37, 2) := by decide +kernel
theorem dX8_read_22 : decode cX8_read 22 = .ok (.invokevirtual 39, 3) := by decide +kernel
theorem dX8_read_25 : decode cX8_read 25 = .ok (.ifCond .eq 10, 3) := by decide +kernel
theorem dX8_read_28 : decode cX8_read 28 = .ok (.aload_n 0, 1) := by decide +kernel
theorem dX8_read_29 : decode cX8_read 29 = .ok (.invokevirtual 43, 3) := by decide +kernel
theorem dX8_read_32 : decode cX8_read 32 = .ok (.goto 11, 3) := by decide +kernel
theorem dX8_read_35 : decode cX8_read 35 = .ok (.aload_n 0, 1) := by decide +kernel
theorem dX8_read_36 : decode cX8_read 36 = .ok (.aload_n 0, 1) := by decide +kernel
theorem dX8_read_37 : decode cX8_read 37 = .ok (.getfield 46, 3) := by decide +kernel
theorem dX8_read_40 : decode cX8_read 40 = .ok (.putfield 28, 3) := by decide +kernel
theorem dX8_read_43 : decode cX8_read 43 = .ok (.iconst 0, 1) := by decide +kernel
theorem dX8_read_44 : decode cX8_read 44 = .ok (.istore_n 1, 1) := by decide +kernel
theorem dX8_read_45 : decode cX8_read 45 = .ok (.iload_n 1, 1) := by decide +kernel
theorem dX8_read_46 : decode cX8_read 46 = .ok (.bipush 60, 2) := by decide +kernel
theorem dX8_read_48 : decode cX8_read 48 = .ok (.if_icmp .ge 37, 3) := by decide +kernel
theorem dX8_read_51 : decode cX8_read 51 = .ok (.aload_n 0, 1) := by decide +kernel
theorem dX8_read_52 : decode cX8_read 52 = .ok (.getfield 28, 3) := by decide +kernel
theorem dX8_read_55 : decode cX8_read 55 = .ok (.iconst (-1), 1) := by decide +kernel
theorem dX8_read_56 : decode cX8_read 56 = .ok (.if_icmp .ne 29, 3) := by decide +kernel
theorem dX8_read_59 : decode cX8_read 59 = .ok (.aload_n 0, 1) := by decide +kernel
theorem dX8_read_60 : decode cX8_read 60 = .ok (.invokevirtual 34, 3) := by decide +kernel
theorem dX8_read_63 : decode cX8_read 63 = .ok (.aload_n 0, 1) := by decide +kernel
theorem dX8_read_64 : decode cX8_read 64 = .ok (.getfield 46, 3) := by decide +kernel
theorem dX8_read_67 : decode cX8_read 67 = .ok (.aload_n 0, 1) := by decide +kernel
theorem dX8_read_68 : decode cX8_read 68 = .ok (.getfield 21, 3) := by decide +kernel
theorem dX8_read_71 : decode cX8_read 71 = .ok (.if_icmp .lt 4, 3) := by decide +kernel
theorem dX8_read_74 : decode cX8_read 74 = .ok (.return_, 1) := by decide +kernel
theorem dX8_read_75 : decode cX8_read 75 = .ok (.aload_n 0, 1) := by decide +kernel
theorem dX8_read_76 : decode cX8_read 76 = .ok (.invokevirtual 49, 3) := by decide +kernel
theorem dX8_read_79 : decode cX8_read 79 = .ok (.iinc 1 1, 3) := by decide +kernel
theorem dX8_read_82 : decode cX8_read 82 = .ok (.goto (-37), 3) := by decide +kernel
theorem dX8_read_85 : decode cX8_read 85 = .ok (.return_, 1) := by decide +kernel
theorem dX8_readStep_0 : decode cX8_readStep 0 = .ok (.aload_n 0, 1) := by decide +kernel
theorem dX8_readStep_1 : decode cX8_readStep 1 = .ok (.getfield 25, 3) := by decide +kernel
theorem dX8_readStep_4 : decode cX8_readStep 4 = .ok (.iconst 1, 1) := by decide +kernel
theorem dX8_readStep_5 : decode cX8_readStep 5 = .ok (.isub, 1) := by decide +kernel
theorem dX8_readStep_6 : decode cX8_readStep 6 = .ok (.istore_n 1, 1) := by decide +kernel
theorem dX8_readStep_7 : decode cX8_readStep 7 = .ok (.iload_n 1, 1) := by decide +kernel
theorem dX8_readStep_8 : decode cX8_readStep 8 = .ok (.iconst 0, 1) := by decide +kernel
theorem dX8_readStep_9 : decode cX8_readStep 9 = .ok (.bipush 59, 2) := by decide +kernel
theorem dX8_readStep_11 : decode cX8_readStep 11 = .ok (.invokestatic 52, 3) := by decide +kernel
theorem dX8_readStep_14 : decode cX8_readStep 14 = .ok (.ifCond .ne 14, 3) := by decide +kernel
theorem dX8_readStep_17 : decode cX8_readStep 17 = .ok (.aload_n 0, 1) := by decide +kernel
theorem dX8_readStep_18 : decode cX8_readStep 18 = .ok (.aload_n 0, 1) := by decide +kernel
theorem dX8_readStep_19 : decode cX8_readStep 19 = .ok (.getfield 46, 3) := by decide +kernel
theorem dX8_readStep_22 : decode cX8_readStep 22 = .ok (.putfield 28, 3) := by decide +kernel
theorem dX8_readStep_25 : decode cX8_readStep 25 = .ok (.goto 111, 3) := by decide +kernel
theorem dX8_readStep_28 : decode cX8_readStep 28 = .ok (.aload_n 0, 1) := by decide +kernel
theorem dX8_readStep_29 : decode cX8_readStep 29 = .ok (.ldc 56, 2) := by decide +kernel
theorem dX8_readStep_31 : decode cX8_readStep 31 = .ok (.invokevirtual 39, 3) := by decide +kernel
theorem dX8_readStep_34 : decode cX8_readStep 34 = .ok (.ifCond .eq 10, 3) := by decide +kernel
theorem dX8_readStep_37 : decode cX8_readStep 37 = .ok (.aload_n 0, 1) := by decide +kernel
theorem dX8_readStep_38 : decode cX8_readStep 38 = .ok (.invokevirtual 43, 3) := by decide +kernel
theorem dX8_readStep_41 : decode cX8_readStep 41 = .ok (.goto 95, 3) := by decide +kernel
theorem dX8_readStep_44 : decode cX8_readStep 44 = .ok (.aload_n 0, 1) := by decide +kernel
theorem dX8_readStep_45 : decode cX8_readStep 45 = .ok (.ldc 58, 2) := by decide +kernel
theorem dX8_readStep_47 : decode cX8_readStep 47 = .ok (.invokevirtual 39, 3) := by decide +kernel
theorem dX8_readStep_50 : decode cX8_readStep 50 = .ok (.ifCond .eq 22, 3) := by decide +kernel
theorem dX8_readStep_53 : decode cX8_readStep 53 = .ok (.aload_n 0, 1) := by decide +kernel
theorem dX8_readStep_54 : decode cX8_readStep 54 = .ok (.aload_n 0, 1) := by decide +kernel
theorem dX8_readStep_55 : decode cX8_readStep 55 = .ok (.bipush 15, 2) := by decide +kernel
theorem dX8_readStep_57 : decode cX8_readStep 57 = .ok (.invokevirtual 60, 3) := by decide +kernel
theorem dX8_readStep_60 : decode cX8_readStep 60 = .ok (.aload_n 0, 1) := by decide +kernel
theorem dX8_readStep_61 : decode cX8_readStep 61 = .ok (.getfield 18, 3) := by decide +kernel
theorem dX8_readStep_64 : decode cX8_readStep 64 = .ok (.iload_n 1, 1) := by decide +kernel
theorem dX8_readStep_65 : decode cX8_readStep 65 = .ok (.iaload, 1) := by decide +kernel
theorem dX8_readStep_66 : decode cX8_readStep 66 = .ok (.invokevirtual 64, 3) := by decide +kernel
theorem dX8_readStep_69 : decode cX8_readStep 69 = .ok (.goto 67, 3) := by decide +kernel
theorem dX8_readStep_72 : decode cX8_readStep 72 = .ok (.aload_n 0, 1) := by decide +kernel
theorem dX8_readStep_73 : decode cX8_readStep 73 = .ok (.ldc 68, 2) := by decide +kernel
theorem dX8_readStep_75 : decode cX8_readStep 75 = .ok (.invokevirtual 39, 3) := by decide +kernel
theorem dX8_readStep_78 : decode cX8_readStep 78 = .ok (.ifCond .eq 22, 3) := by decide +kernel
theorem dX8_readStep_81 : decode cX8_readStep 81 = .ok (.aload_n 0, 1) := by decide +kernel
theorem dX8_readStep_82 : decode cX8_readStep 82 = .ok (.aload_n 0, 1) := by decide +kernel
theorem dX8_readStep_83 : decode cX8_readStep 83 = .ok (.getfield 15, 3) := by decide +kernel
theorem dX8_readStep_86 : decode cX8_readStep 86 = .ok (.iload_n 1, 1) := by decide +kernel
theorem dX8_readStep_87 : decode cX8_readStep 87 = .ok (.iaload, 1) := by decide +kernel
theorem dX8_readStep_88 : decode cX8_readStep 88 = .ok (.aload_n 0, 1) := by decide +kernel
theorem dX8_readStep_89 : decode cX8_readStep 89 = .ok (.bipush 11, 2) := by decide +kernel
theorem dX8_readStep_91 : decode cX8_readStep 91 = .ok (.invokevirtual 60, 3) := by decide +kernel
theorem dX8_readStep_94 : decode cX8_readStep 94 = .ok (.invokevirtual 64, 3) := by decide +kernel
theorem dX8_readStep_97 : decode cX8_readStep 97 = .ok (.goto 39, 3) := by decide +kernel
theorem dX8_readStep_100 : decode cX8_readStep 100 = .ok (.aload_n 0, 1) := by decide +kernel
theorem dX8_readStep_101 : decode cX8_readStep 101 = .ok (.ldc 70, 2) := by decide +kernel
theorem dX8_readStep_103 : decode cX8_readStep 103 = .ok (.invokevirtual 39, 3) := by decide +kernel
theorem dX8_readStep_106 : decode cX8_readStep 106 = .ok (.ifCond .eq 22, 3) := by decide +kernel
theorem dX8_readStep_109 : decode cX8_readStep 109 = .ok (.aload_n 0, 1) := by decide +kernel
theorem dX8_readStep_110 : decode cX8_readStep 110 = .ok (.aload_n 0, 1) := by decide +kernel
theorem dX8_readStep_111 : decode cX8_readStep 111 = .ok (.getfield 15, 3) := by decide +kernel
theorem dX8_readStep_114 : decode cX8_readStep 114 = .ok (.iconst 0, 1) := by decide +kernel
theorem dX8_readStep_115 : decode cX8_readStep 115 = .ok (.iaload, 1) := by decide +kernel
theorem dX8_readStep_116 : decode cX8_readStep 116 = .ok (.aload_n 0, 1) := by decide +kernel
theorem dX8_readStep_117 : decode cX8_readStep 117 = .ok (.getfield 18, 3) := by decide +kernel
theorem dX8_readStep_120 : decode cX8_readStep 120 = .ok (.iconst 0, 1) := by decide +kernel
theorem dX8_readStep_121 : decode cX8_readStep 121 = .ok (.iaload, 1) := by decide +kernel
theorem dX8_readStep_122 : decode cX8_readStep 122 = .ok (.invokevirtual 64, 3) := by decide +kernel
theorem dX8_readStep_125 : decode cX8_readStep 125 = .ok (.goto 11, 3) := by decide +kernel
theorem dX8_readStep_128 : decode cX8_readStep 128 = .ok (.aload_n 0, 1) := by decide +kernel
theorem dX8_readStep_129 : decode cX8_readStep 129 = .ok (.aload_n 0, 1) := by decide +kernel
theorem dX8_readStep_130 : decode cX8_readStep 130 = .ok (.getfield 46, 3) := by decide +kernel
theorem dX8_readStep_133 : decode cX8_readStep 133 = .ok (.putfield 28, 3) := by decide +kernel
theorem dX8_readStep_136 : decode cX8_readStep 136 = .ok (.return_, 1) := by decide +kernel
theorem dX8_readPlace_0 : decode cX8_readPlace 0 = .ok (.aload_n 0, 1) := by decide +kernel
theorem dX8_readPlace_1 : decode cX8_readPlace 1 = .ok (.bipush 15, 2) := by decide +kernel
theorem dX8_readPlace_3 : decode cX8_readPlace 3 = .ok (.invokevirtual 60, 3) := by decide +kernel
theorem dX8_readPlace_6 : decode cX8_readPlace 6 = .ok (.istore_n 1, 1) := by decide +kernel
theorem dX8_readPlace_7 : decode cX8_readPlace 7 = .ok (.aload_n 0, 1) := by decide +kernel
theorem dX8_readPlace_8 : decode cX8_readPlace 8 = .ok (.bipush 11, 2) := by decide +kernel
theorem dX8_readPlace_10 : decode cX8_readPlace 10 = .ok (.invokevirtual 60, 3) := by decide +kernel
theorem dX8_readPlace_13 : decode cX8_readPlace 13 = .ok (.istore_n 2, 1) := by decide +kernel
theorem dX8_readPlace_14 : decode cX8_readPlace 14 = .ok (.aload_n 0, 1) := by decide +kernel
theorem dX8_readPlace_15 : decode cX8_readPlace 15 = .ok (.iload_n 1, 1) := by decide +kernel
theorem dX8_readPlace_16 : decode cX8_readPlace 16 = .ok (.iload_n 2, 1) := by decide +kernel
theorem dX8_readPlace_17 : decode cX8_readPlace 17 = .ok (.invokevirtual 64, 3) := by decide +kernel
theorem dX8_readPlace_20 : decode cX8_readPlace 20 = .ok (.return_, 1) := by decide +kernel
theorem dX8_goTo_0 : decode cX8_goTo 0 = .ok (.aload_n 0, 1) := by decide +kernel
theorem dX8_goTo_1 : decode cX8_goTo 1 = .ok (.getfield 28, 3) := by decide +kernel
theorem dX8_goTo_4 : decode cX8_goTo 4 = .ok (.iconst (-1), 1) := by decide +kernel
theorem dX8_goTo_5 : decode cX8_goTo 5 = .ok (.if_icmp .ne 42, 3) := by decide +kernel
theorem dX8_goTo_8 : decode cX8_goTo 8 = .ok (.aload_n 0, 1) := by decide +kernel
theorem dX8_goTo_9 : decode cX8_goTo 9 = .ok (.getfield 25, 3) := by decide +kernel
theorem dX8_goTo_12 : decode cX8_goTo 12 = .ok (.bipush 60, 2) := by decide +kernel
theorem dX8_goTo_14 : decode cX8_goTo 14 = .ok (.if_icmp .ge 33, 3) := by decide +kernel
theorem dX8_goTo_17 : decode cX8_goTo 17 = .ok (.aload_n 0, 1) := by decide +kernel
theorem dX8_goTo_18 : decode cX8_goTo 18 = .ok (.getfield 15, 3) := by decide +kernel
theorem dX8_goTo_21 : decode cX8_goTo 21 = .ok (.aload_n 0, 1) := by decide +kernel
theorem dX8_goTo_22 : decode cX8_goTo 22 = .ok (.getfield 25, 3) := by decide +kernel
theorem dX8_goTo_25 : decode cX8_goTo 25 = .ok (.iload_n 1, 1) := by decide +kernel
theorem dX8_goTo_26 : decode cX8_goTo 26 = .ok (.iastore, 1) := by decide +kernel
theorem dX8_goTo_27 : decode cX8_goTo 27 = .ok (.aload_n 0, 1) := by decide +kernel
theorem dX8_goTo_28 : decode cX8_goTo 28 = .ok (.getfield 18, 3) := by decide +kernel
theorem dX8_goTo_31 : decode cX8_goTo 31 = .ok (.aload_n 0, 1) := by decide +kernel
theorem dX8_goTo_32 : decode cX8_goTo 32 = .ok (.getfield 25, 3) := by decide +kernel
theorem dX8_goTo_35 : decode cX8_goTo 35 = .ok (.iload_n 2, 1) := by decide +kernel
theorem dX8_goTo_36 : decode cX8_goTo 36 = .ok (.iastore, 1) := by decide +kernel
theorem dX8_goTo_37 : decode cX8_goTo 37 = .ok (.aload_n 0, 1) := by decide +kernel
theorem dX8_goTo_38 : decode cX8_goTo 38 = .ok (.dup, 1) := by decide +kernel
theorem dX8_goTo_39 : decode cX8_goTo 39 = .ok (.getfield 25, 3) := by decide +kernel
theorem dX8_goTo_42 : decode cX8_goTo 42 = .ok (.iconst 1, 1) := by decide +kernel
theorem dX8_goTo_43 : decode cX8_goTo 43 = .ok (.iadd, 1) := by decide +kernel
theorem dX8_goTo_44 : decode cX8_goTo 44 = .ok (.putfield 25, 3) := by decide +kernel
theorem dX8_goTo_47 : decode cX8_goTo 47 = .ok (.return_, 1) := by decide +kernel
theorem dX8_readNumber_0 : decode cX8_readNumber 0 = .ok (.aload_n 0, 1) := by decide +kernel
theorem dX8_readNumber_1 : decode cX8_readNumber 1 = .ok (.getfield 28, 3) := by decide +kernel
theorem dX8_readNumber_4 : decode cX8_readNumber 4 = .ok (.iconst (-1), 1) := by decide +kernel
theorem dX8_readNumber_5 : decode cX8_readNumber 5 = .ok (.if_icmp .eq 5, 3) := by decide +kernel
theorem dX8_readNumber_8 : decode cX8_readNumber 8 = .ok (.iconst 0, 1) := by decide +kernel
theorem dX8_readNumber_9 : decode cX8_readNumber 9 = .ok (.ireturn, 1) := by decide +kernel
theorem dX8_readNumber_10 : decode cX8_readNumber 10 = .ok (.aload_n 0, 1) := by decide +kernel
theorem dX8_readNumber_11 : decode cX8_readNumber 11 = .ok (.invokevirtual 34, 3) := by decide +kernel
theorem dX8_readNumber_14 : decode cX8_readNumber 14 = .ok (.aload_n 0, 1) := by decide +kernel
theorem dX8_readNumber_15 : decode cX8_readNumber 15 = .ok (.invokevirtual 72, 3) := by decide +kernel
theorem dX8_readNumber_18 : decode cX8_readNumber 18 = .ok (.istore_n 2, 1) := by decide +kernel
theorem dX8_readNumber_19 : decode cX8_readNumber 19 = .ok (.iload_n 2, 1) := by decide +kernel
theorem dX8_readNumber_20 : decode cX8_readNumber 20 = .ok (.iconst 0, 1) := by decide +kernel
theorem dX8_readNumber_21 : decode cX8_readNumber 21 = .ok (.iload_n 1, 1) := by decide +kernel
theorem dX8_readNumber_22 : decode cX8_readNumber 22 = .ok (.invokestatic 52, 3) := by decide +kernel
theorem dX8_readNumber_25 : decode cX8_readNumber 25 = .ok (.ifCond .ne 13, 3) := by decide +kernel
theorem dX8_readNumber_28 : decode cX8_readNumber 28 = .ok (.aload_n 0, 1) := by decide +kernel
theorem dX8_readNumber_29 : decode cX8_readNumber 29 = .ok (.aload_n 0, 1) := by decide +kernel
theorem dX8_readNumber_30 : decode cX8_readNumber 30 = .ok (.getfield 46, 3) := by decide +kernel
theorem dX8_readNumber_33 : decode cX8_readNumber 33 = .ok (.putfield 28, 3) := by decide +kernel
theorem dX8_readNumber_36 : decode cX8_readNumber 36 = .ok (.iconst 0, 1) := by decide +kernel
theorem dX8_readNumber_37 : decode cX8_readNumber 37 = .ok (.ireturn, 1) := by decide +kernel
theorem dX8_readNumber_38 : decode cX8_readNumber 38 = .ok (.iload_n 2, 1) := by decide +kernel
theorem dX8_readNumber_39 : decode cX8_readNumber 39 = .ok (.ireturn, 1) := by decide +kernel
theorem dX8_tokenNumber_0 : decode cX8_tokenNumber 0 = .ok (.aload_n 0, 1) := by decide +kernel
theorem dX8_tokenNumber_1 : decode cX8_tokenNumber 1 = .ok (.getfield 31, 3) := by decide +kernel
theorem dX8_tokenNumber_4 : decode cX8_tokenNumber 4 = .ok (.aload_n 0, 1) := by decide +kernel
theorem dX8_tokenNumber_5 : decode cX8_tokenNumber 5 = .ok (.getfield 46, 3) := by decide +kernel
theorem dX8_tokenNumber_8 : decode cX8_tokenNumber 8 = .ok (.isub, 1) := by decide +kernel
theorem dX8_tokenNumber_9 : decode cX8_tokenNumber 9 = .ok (.iconst 1, 1) := by decide +kernel
theorem dX8_tokenNumber_10 : decode cX8_tokenNumber 10 = .ok (.if_icmp .lt 42, 3) := by decide +kernel
theorem dX8_tokenNumber_13 : decode cX8_tokenNumber 13 = .ok (.aload_n 0, 1) := by decide +kernel
theorem dX8_tokenNumber_14 : decode cX8_tokenNumber 14 = .ok (.getfield 31, 3) := by decide +kernel
theorem dX8_tokenNumber_17 : decode cX8_tokenNumber 17 = .ok (.aload_n 0, 1) := by decide +kernel
theorem dX8_tokenNumber_18 : decode cX8_tokenNumber 18 = .ok (.getfield 46, 3) := by decide +kernel
theorem dX8_tokenNumber_21 : decode cX8_tokenNumber 21 = .ok (.isub, 1) := by decide +kernel
theorem dX8_tokenNumber_22 : decode cX8_tokenNumber 22 = .ok (.iconst 2, 1) := by decide +kernel
theorem dX8_tokenNumber_23 : decode cX8_tokenNumber 23 = .ok (.if_icmp .gt 29, 3) := by decide +kernel
theorem dX8_tokenNumber_26 : decode cX8_tokenNumber 26 = .ok (.aload_n 0, 1) := by decide +kernel
theorem dX8_tokenNumber_27 : decode cX8_tokenNumber 27 = .ok (.getfield 31, 3) := by decide +kernel
theorem dX8_tokenNumber_30 : decode cX8_tokenNumber 30 = .ok (.aload_n 0, 1) := by decide +kernel
theorem dX8_tokenNumber_31 : decode cX8_tokenNumber 31 = .ok (.getfield 21, 3) := by decide +kernel
theorem dX8_tokenNumber_34 : decode cX8_tokenNumber 34 = .ok (.if_icmp .gt 18, 3) := by decide +kernel
theorem dX8_tokenNumber_37 : decode cX8_tokenNumber 37 = .ok (.aload_n 0, 1) := by decide +kernel
theorem dX8_tokenNumber_38 : decode cX8_tokenNumber 38 = .ok (.getfield 9, 3) := by decide +kernel
theorem dX8_tokenNumber_41 : decode cX8_tokenNumber 41 = .ok (.aload_n 0, 1) := by decide +kernel
theorem dX8_tokenNumber_42 : decode cX8_tokenNumber 42 = .ok (.getfield 46, 3) := by decide +kernel
theorem dX8_tokenNumber_45 : decode cX8_tokenNumber 45 = .ok (.iaload, 1) := by decide +kernel
theorem dX8_tokenNumber_46 : decode cX8_tokenNumber 46 = .ok (.invokestatic 76, 3) := by decide +kernel
theorem dX8_tokenNumber_49 : decode cX8_tokenNumber 49 = .ok (.ifCond .ne 5, 3) := by decide +kernel
theorem dX8_tokenNumber_52 : decode cX8_tokenNumber 52 = .ok (.iconst (-1), 1) := by decide +kernel
theorem dX8_tokenNumber_53 : decode cX8_tokenNumber 53 = .ok (.ireturn, 1) := by decide +kernel
theorem dX8_tokenNumber_54 : decode cX8_tokenNumber 54 = .ok (.iconst 0, 1) := by decide +kernel
theorem dX8_tokenNumber_55 : decode cX8_tokenNumber 55 = .ok (.istore_n 1, 1) := by decide +kernel
theorem dX8_tokenNumber_56 : decode cX8_tokenNumber 56 = .ok (.aload_n 0, 1) := by decide +kernel
theorem dX8_tokenNumber_57 : decode cX8_tokenNumber 57 = .ok (.getfield 46, 3) := by decide +kernel
theorem dX8_tokenNumber_60 : decode cX8_tokenNumber 60 = .ok (.istore_n 2, 1) := by decide +kernel
theorem dX8_tokenNumber_61 : decode cX8_tokenNumber 61 = .ok (.iload_n 2, 1) := by decide +kernel
theorem dX8_tokenNumber_62 : decode cX8_tokenNumber 62 = .ok (.aload_n 0, 1) := by decide +kernel
theorem dX8_tokenNumber_63 : decode cX8_tokenNumber 63 = .ok (.getfield 31, 3) := by decide +kernel
theorem dX8_tokenNumber_66 : decode cX8_tokenNumber 66 = .ok (.if_icmp .ge 24, 3) := by decide +kernel
theorem dX8_tokenNumber_69 : decode cX8_tokenNumber 69 = .ok (.bipush 10, 2) := by decide +kernel
theorem dX8_tokenNumber_71 : decode cX8_tokenNumber 71 = .ok (.iload_n 1, 1) := by decide +kernel
theorem dX8_tokenNumber_72 : decode cX8_tokenNumber 72 = .ok (.imul, 1) := by decide +kernel
theorem dX8_tokenNumber_73 : decode cX8_tokenNumber 73 = .ok (.aload_n 0, 1) := by decide +kernel
theorem dX8_tokenNumber_74 : decode cX8_tokenNumber 74 = .ok (.getfield 9, 3) := by decide +kernel
theorem dX8_tokenNumber_77 : decode cX8_tokenNumber 77 = .ok (.iload_n 2, 1) := by decide +kernel
theorem dX8_tokenNumber_78 : decode cX8_tokenNumber 78 = .ok (.iaload, 1) := by decide +kernel
theorem dX8_tokenNumber_79 : decode cX8_tokenNumber 79 = .ok (.iadd, 1) := by decide +kernel
theorem dX8_tokenNumber_80 : decode cX8_tokenNumber 80 = .ok (.bipush 48, 2) := by decide +kernel
theorem dX8_tokenNumber_82 : decode cX8_tokenNumber 82 = .ok (.isub, 1) := by decide +kernel
theorem dX8_tokenNumber_83 : decode cX8_tokenNumber 83 = .ok (.istore_n 1, 1) := by decide +kernel
theorem dX8_tokenNumber_84 : decode cX8_tokenNumber 84 = .ok (.iinc 2 1, 3) := by decide +kernel
theorem dX8_tokenNumber_87 : decode cX8_tokenNumber 87 = .ok (.goto (-26), 3) := by decide +kernel
theorem dX8_tokenNumber_90 : decode cX8_tokenNumber 90 = .ok (.iload_n 1, 1) := by decide +kernel
theorem dX8_tokenNumber_91 : decode cX8_tokenNumber 91 = .ok (.ireturn, 1) := by decide +kernel
theorem dX8_isWord_0 : decode cX8_isWord 0 = .ok (.aload_n 0, 1) := by decide +kernel
theorem dX8_isWord_1 : decode cX8_isWord 1 = .ok (.getfield 31, 3) := by decide +kernel
theorem dX8_isWord_4 : decode cX8_isWord 4 = .ok (.aload_n 0, 1) := by decide +kernel
theorem dX8_isWord_5 : decode cX8_isWord 5 = .ok (.getfield 46, 3) := by decide +kernel
theorem dX8_isWord_8 : decode cX8_isWord 8 = .ok (.isub, 1) := by decide +kernel
theorem dX8_isWord_9 : decode cX8_isWord 9 = .ok (.aload_n 1, 1) := by decide +kernel
theorem dX8_isWord_10 : decode cX8_isWord 10 = .ok (.invokevirtual 80, 3) := by decide +kernel
theorem dX8_isWord_13 : decode cX8_isWord 13 = .ok (.if_icmp .ne 14, 3) := by decide +kernel
theorem dX8_isWord_16 : decode cX8_isWord 16 = .ok (.aload_n 0, 1) := by decide +kernel
theorem dX8_isWord_17 : decode cX8_isWord 17 = .ok (.getfield 31, 3) := by decide +kernel
theorem dX8_isWord_20 : decode cX8_isWord 20 = .ok (.aload_n 0, 1) := by decide +kernel
theorem dX8_isWord_21 : decode cX8_isWord 21 = .ok (.getfield 21, 3) := by decide +kernel
theorem dX8_isWord_24 : decode cX8_isWord 24 = .ok (.if_icmp .le 5, 3) := by decide +kernel
theorem dX8_isWord_27 : decode cX8_isWord 27 = .ok (.iconst 0, 1) := by decide +kernel
theorem dX8_isWord_28 : decode cX8_isWord 28 = .ok (.ireturn, 1) := by decide +kernel
theorem dX8_isWord_29 : decode cX8_isWord 29 = .ok (.aload_n 0, 1) := by decide +kernel
theorem dX8_isWord_30 : decode cX8_isWord 30 = .ok (.getfield 46, 3) := by decide +kernel
theorem dX8_isWord_33 : decode cX8_isWord 33 = .ok (.istore_n 2, 1) := by decide +kernel
theorem dX8_isWord_34 : decode cX8_isWord 34 = .ok (.iload_n 2, 1) := by decide +kernel
theorem dX8_isWord_35 : decode cX8_isWord 35 = .ok (.aload_n 0, 1) := by decide +kernel
theorem dX8_isWord_36 : decode cX8_isWord 36 = .ok (.getfield 31, 3) := by decide +kernel
theorem dX8_isWord_39 : decode cX8_isWord 39 = .ok (.if_icmp .ge 30, 3) := by decide +kernel
theorem dX8_isWord_42 : decode cX8_isWord 42 = .ok (.aload_n 0, 1) := by decide +kernel
theorem dX8_isWord_43 : decode cX8_isWord 43 = .ok (.getfield 9, 3) := by decide +kernel
theorem dX8_isWord_46 : decode cX8_isWord 46 = .ok (.iload_n 2, 1) := by decide +kernel
theorem dX8_isWord_47 : decode cX8_isWord 47 = .ok (.iaload, 1) := by decide +kernel
theorem dX8_isWord_48 : decode cX8_isWord 48 = .ok (.aload_n 1, 1) := by decide +kernel
theorem dX8_isWord_49 : decode cX8_isWord 49 = .ok (.iload_n 2, 1) := by decide +kernel
theorem dX8_isWord_50 : decode cX8_isWord 50 = .ok (.aload_n 0, 1) := by decide +kernel
theorem dX8_isWord_51 : decode cX8_isWord 51 = .ok (.getfield 46, 3) := by decide +kernel
theorem dX8_isWord_54 : decode cX8_isWord 54 = .ok (.isub, 1) := by decide +kernel
theorem dX8_isWord_55 : decode cX8_isWord 55 = .ok (.invokevirtual 85, 3) := by decide +kernel
theorem dX8_isWord_58 : decode cX8_isWord 58 = .ok (.if_icmp .eq 5, 3) := by decide +kernel
theorem dX8_isWord_61 : decode cX8_isWord 61 = .ok (.iconst 0, 1) := by decide +kernel
theorem dX8_isWord_62 : decode cX8_isWord 62 = .ok (.ireturn, 1) := by decide +kernel
theorem dX8_isWord_63 : decode cX8_isWord 63 = .ok (.iinc 2 1, 3) := by decide +kernel
theorem dX8_isWord_66 : decode cX8_isWord 66 = .ok (.goto (-32), 3) := by decide +kernel
theorem dX8_isWord_69 : decode cX8_isWord 69 = .ok (.iconst 1, 1) := by decide +kernel
theorem dX8_isWord_70 : decode cX8_isWord 70 = .ok (.ireturn, 1) := by decide +kernel
theorem dX8_nextToken_0 : decode cX8_nextToken 0 = .ok (.aload_n 0, 1) := by decide +kernel
theorem dX8_nextToken_1 : decode cX8_nextToken 1 = .ok (.aload_n 0, 1) := by decide +kernel
theorem dX8_nextToken_2 : decode cX8_nextToken 2 = .ok (.getfield 31, 3) := by decide +kernel
theorem dX8_nextToken_5 : decode cX8_nextToken 5 = .ok (.putfield 46, 3) := by decide +kernel
theorem dX8_nextToken_8 : decode cX8_nextToken 8 = .ok (.aload_n 0, 1) := by decide +kernel
theorem dX8_nextToken_9 : decode cX8_nextToken 9 = .ok (.getfield 46, 3) := by decide +kernel
theorem dX8_nextToken_12 : decode cX8_nextToken 12 = .ok (.aload_n 0, 1) := by decide +kernel
theorem dX8_nextToken_13 : decode cX8_nextToken 13 = .ok (.getfield 21, 3) := by decide +kernel
theorem dX8_nextToken_16 : decode cX8_nextToken 16 = .ok (.if_icmp .ge 31, 3) := by decide +kernel
theorem dX8_nextToken_19 : decode cX8_nextToken 19 = .ok (.aload_n 0, 1) := by decide +kernel
theorem dX8_nextToken_20 : decode cX8_nextToken 20 = .ok (.getfield 9, 3) := by decide +kernel
theorem dX8_nextToken_23 : decode cX8_nextToken 23 = .ok (.aload_n 0, 1) := by decide +kernel
theorem dX8_nextToken_24 : decode cX8_nextToken 24 = .ok (.getfield 46, 3) := by decide +kernel
theorem dX8_nextToken_27 : decode cX8_nextToken 27 = .ok (.iaload, 1) := by decide +kernel
theorem dX8_nextToken_28 : decode cX8_nextToken 28 = .ok (.invokestatic 89, 3) := by decide +kernel
theorem dX8_nextToken_31 : decode cX8_nextToken 31 = .ok (.ifCond .eq 16, 3) := by decide +kernel
theorem dX8_nextToken_34 : decode cX8_nextToken 34 = .ok (.aload_n 0, 1) := by decide +kernel
theorem dX8_nextToken_35 : decode cX8_nextToken 35 = .ok (.dup, 1) := by decide +kernel
theorem dX8_nextToken_36 : decode cX8_nextToken 36 = .ok (.getfield 46, 3) := by decide +kernel
theorem dX8_nextToken_39 : decode cX8_nextToken 39 = .ok (.iconst 1, 1) := by decide +kernel
theorem dX8_nextToken_40 : decode cX8_nextToken 40 = .ok (.iadd, 1) := by decide +kernel
theorem dX8_nextToken_41 : decode cX8_nextToken 41 = .ok (.putfield 46, 3) := by decide +kernel
theorem dX8_nextToken_44 : decode cX8_nextToken 44 = .ok (.goto (-36), 3) := by decide +kernel
theorem dX8_nextToken_47 : decode cX8_nextToken 47 = .ok (.aload_n 0, 1) := by decide +kernel
theorem dX8_nextToken_48 : decode cX8_nextToken 48 = .ok (.aload_n 0, 1) := by decide +kernel
theorem dX8_nextToken_49 : decode cX8_nextToken 49 = .ok (.getfield 46, 3) := by decide +kernel
theorem dX8_nextToken_52 : decode cX8_nextToken 52 = .ok (.putfield 31, 3) := by decide +kernel
theorem dX8_nextToken_55 : decode cX8_nextToken 55 = .ok (.aload_n 0, 1) := by decide +kernel
theorem dX8_nextToken_56 : decode cX8_nextToken 56 = .ok (.getfield 31, 3) := by decide +kernel
theorem dX8_nextToken_59 : decode cX8_nextToken 59 = .ok (.aload_n 0, 1) := by decide +kernel
theorem dX8_nextToken_60 : decode cX8_nextToken 60 = .ok (.getfield 21, 3) := by decide +kernel
theorem dX8_nextToken_63 : decode cX8_nextToken 63 = .ok (.if_icmp .ge 31, 3) := by decide +kernel
theorem dX8_nextToken_66 : decode cX8_nextToken 66 = .ok (.aload_n 0, 1) := by decide +kernel
theorem dX8_nextToken_67 : decode cX8_nextToken 67 = .ok (.getfield 9, 3) := by decide +kernel
theorem dX8_nextToken_70 : decode cX8_nextToken 70 = .ok (.aload_n 0, 1) := by decide +kernel
theorem dX8_nextToken_71 : decode cX8_nextToken 71 = .ok (.getfield 31, 3) := by decide +kernel
theorem dX8_nextToken_74 : decode cX8_nextToken 74 = .ok (.iaload, 1) := by decide +kernel
theorem dX8_nextToken_75 : decode cX8_nextToken 75 = .ok (.invokestatic 92, 3) := by decide +kernel
theorem dX8_nextToken_78 : decode cX8_nextToken 78 = .ok (.ifCond .eq 16, 3) := by decide +kernel
theorem dX8_nextToken_81 : decode cX8_nextToken 81 = .ok (.aload_n 0, 1) := by decide +kernel
theorem dX8_nextToken_82 : decode cX8_nextToken 82 = .ok (.dup, 1) := by decide +kernel
theorem dX8_nextToken_83 : decode cX8_nextToken 83 = .ok (.getfield 31, 3) := by decide +kernel
theorem dX8_nextToken_86 : decode cX8_nextToken 86 = .ok (.iconst 1, 1) := by decide +kernel
theorem dX8_nextToken_87 : decode cX8_nextToken 87 = .ok (.iadd, 1) := by decide +kernel
theorem dX8_nextToken_88 : decode cX8_nextToken 88 = .ok (.putfield 31, 3) := by decide +kernel
theorem dX8_nextToken_91 : decode cX8_nextToken 91 = .ok (.goto (-36), 3) := by decide +kernel
theorem dX8_nextToken_94 : decode cX8_nextToken 94 = .ok (.aload_n 0, 1) := by decide +kernel
theorem dX8_nextToken_95 : decode cX8_nextToken 95 = .ok (.getfield 31, 3) := by decide +kernel
theorem dX8_nextToken_98 : decode cX8_nextToken 98 = .ok (.aload_n 0, 1) := by decide +kernel
theorem dX8_nextToken_99 : decode cX8_nextToken 99 = .ok (.getfield 46, 3) := by decide +kernel
theorem dX8_nextToken_102 : decode cX8_nextToken 102 = .ok (.if_icmp .le 4, 3) := by decide +kernel
theorem dX8_nextToken_105 : decode cX8_nextToken 105 = .ok (.return_, 1) := by decide +kernel
theorem dX8_nextToken_106 : decode cX8_nextToken 106 = .ok (.aload_n 0, 1) := by decide +kernel
theorem dX8_nextToken_107 : decode cX8_nextToken 107 = .ok (.getfield 31, 3) := by decide +kernel
theorem dX8_nextToken_110 : decode cX8_nextToken 110 = .ok (.aload_n 0, 1) := by decide +kernel
theorem dX8_nextToken_111 : decode cX8_nextToken 111 = .ok (.getfield 21, 3) := by decide +kernel
theorem dX8_nextToken_114 : decode cX8_nextToken 114 = .ok (.if_icmp .ge 31, 3) := by decide +kernel
theorem dX8_nextToken_117 : decode cX8_nextToken 117 = .ok (.aload_n 0, 1) := by decide +kernel
theorem dX8_nextToken_118 : decode cX8_nextToken 118 = .ok (.getfield 9, 3) := by decide +kernel
theorem dX8_nextToken_121 : decode cX8_nextToken 121 = .ok (.aload_n 0, 1) := by decide +kernel
theorem dX8_nextToken_122 : decode cX8_nextToken 122 = .ok (.getfield 31, 3) := by decide +kernel
theorem dX8_nextToken_125 : decode cX8_nextToken 125 = .ok (.iaload, 1) := by decide +kernel
theorem dX8_nextToken_126 : decode cX8_nextToken 126 = .ok (.invokestatic 76, 3) := by decide +kernel
theorem dX8_nextToken_129 : decode cX8_nextToken 129 = .ok (.ifCond .eq 16, 3) := by decide +kernel
theorem dX8_nextToken_132 : decode cX8_nextToken 132 = .ok (.aload_n 0, 1) := by decide +kernel
theorem dX8_nextToken_133 : decode cX8_nextToken 133 = .ok (.dup, 1) := by decide +kernel
theorem dX8_nextToken_134 : decode cX8_nextToken 134 = .ok (.getfield 31, 3) := by decide +kernel
theorem dX8_nextToken_137 : decode cX8_nextToken 137 = .ok (.iconst 1, 1) := by decide +kernel
theorem dX8_nextToken_138 : decode cX8_nextToken 138 = .ok (.iadd, 1) := by decide +kernel
theorem dX8_nextToken_139 : decode cX8_nextToken 139 = .ok (.putfield 31, 3) := by decide +kernel
theorem dX8_nextToken_142 : decode cX8_nextToken 142 = .ok (.goto (-36), 3) := by decide +kernel
theorem dX8_nextToken_145 : decode cX8_nextToken 145 = .ok (.return_, 1) := by decide +kernel
theorem dX8_isBlank_0 : decode cX8_isBlank 0 = .ok (.iload_n 0, 1) := by decide +kernel
theorem dX8_isBlank_1 : decode cX8_isBlank 1 = .ok (.bipush 32, 2) := by decide +kernel
theorem dX8_isBlank_3 : decode cX8_isBlank 3 = .ok (.if_icmp .eq 9, 3) := by decide +kernel
theorem dX8_isBlank_6 : decode cX8_isBlank 6 = .ok (.iload_n 0, 1) := by decide +kernel
theorem dX8_isBlank_7 : decode cX8_isBlank 7 = .ok (.bipush 10, 2) := by decide +kernel
theorem dX8_isBlank_9 : decode cX8_isBlank 9 = .ok (.if_icmp .ne 7, 3) := by decide +kernel
theorem dX8_isBlank_12 : decode cX8_isBlank 12 = .ok (.iconst 1, 1) := by decide +kernel
theorem dX8_isBlank_13 : decode cX8_isBlank 13 = .ok (.goto 4, 3) := by decide +kernel
theorem dX8_isBlank_16 : decode cX8_isBlank 16 = .ok (.iconst 0, 1) := by decide +kernel
theorem dX8_isBlank_17 : decode cX8_isBlank 17 = .ok (.ireturn, 1) := by decide +kernel
theorem dX8_isLetter_0 : decode cX8_isLetter 0 = .ok (.iload_n 0, 1) := by decide +kernel
theorem dX8_isLetter_1 : decode cX8_isLetter 1 = .ok (.bipush 97, 2) := by decide +kernel
theorem dX8_isLetter_3 : decode cX8_isLetter 3 = .ok (.if_icmp .lt 13, 3) := by decide +kernel
theorem dX8_isLetter_6 : decode cX8_isLetter 6 = .ok (.iload_n 0, 1) := by decide +kernel
theorem dX8_isLetter_7 : decode cX8_isLetter 7 = .ok (.bipush 122, 2) := by decide +kernel
theorem dX8_isLetter_9 : decode cX8_isLetter 9 = .ok (.if_icmp .gt 7, 3) := by decide +kernel
theorem dX8_isLetter_12 : decode cX8_isLetter 12 = .ok (.iconst 1, 1) := by decide +kernel
theorem dX8_isLetter_13 : decode cX8_isLetter 13 = .ok (.goto 4, 3) := by decide +kernel
theorem dX8_isLetter_16 : decode cX8_isLetter 16 = .ok (.iconst 0, 1) := by decide +kernel
theorem dX8_isLetter_17 : decode cX8_isLetter 17 = .ok (.ireturn, 1) := by decide +kernel
theorem dX8_isDigit_0 : decode cX8_isDigit 0 = .ok (.iload_n 0, 1) := by decide +kernel
theorem dX8_isDigit_1 : decode cX8_isDigit 1 = .ok (.bipush 48, 2) := by decide +kernel
theorem dX8_isDigit_3 : decode cX8_isDigit 3 = .ok (.if_icmp .lt 13, 3) := by decide +kernel
theorem dX8_isDigit_6 : decode cX8_isDigit 6 = .ok (.iload_n 0, 1) := by decide +kernel
theorem dX8_isDigit_7 : decode cX8_isDigit 7 = .ok (.bipush 57, 2) := by decide +kernel
theorem dX8_isDigit_9 : decode cX8_isDigit 9 = .ok (.if_icmp .gt 7, 3) := by decide +kernel
theorem dX8_isDigit_12 : decode cX8_isDigit 12 = .ok (.iconst 1, 1) := by decide +kernel
theorem dX8_isDigit_13 : decode cX8_isDigit 13 = .ok (.goto 4, 3) := by decide +kernel
theorem dX8_isDigit_16 : decode cX8_isDigit 16 = .ok (.iconst 0, 1) := by decide +kernel
theorem dX8_isDigit_17 : decode cX8_isDigit 17 = .ok (.ireturn, 1) := by decide +kernel
theorem dX9_init_0 : decode cX9_init 0 = .ok (.aload_n 0, 1) := by decide +kernel
theorem dX9_init_1 : decode cX9_init 1 = .ok (.invokespecial 1, 3) := by decide +kernel
theorem dX9_init_4 : decode cX9_init 4 = .ok (.aload_n 0, 1) := by decide +kernel
theorem dX9_init_5 : decode cX9_init 5 = .ok (.new 7, 3) := by decide +kernel
theorem dX9_init_8 : decode cX9_init 8 = .ok (.dup, 1) := by decide +kernel
theorem dX9_init_9 : decode cX9_init 9 = .ok (.invokespecial 9, 3) := by decide +kernel
theorem dX9_init_12 : decode cX9_init 12 = .ok (.putfield 10, 3) := by decide +kernel
theorem dX9_init_15 : decode cX9_init 15 = .ok (.aload_n 0, 1) := by decide +kernel
theorem dX9_init_16 : decode cX9_init 16 = .ok (.new 7, 3) := by decide +kernel
theorem dX9_init_19 : decode cX9_init 19 = .ok (.dup, 1) := by decide +kernel
theorem dX9_init_20 : decode cX9_init 20 = .ok (.invokespecial 9, 3) := by decide +kernel
theorem dX9_init_23 : decode cX9_init 23 = .ok (.putfield 16, 3) := by decide +kernel
theorem dX9_init_26 : decode cX9_init 26 = .ok (.aload_n 0, 1) := by decide +kernel
theorem dX9_init_27 : decode cX9_init 27 = .ok (.iconst 0, 1) := by decide +kernel
theorem dX9_init_28 : decode cX9_init 28 = .ok (.putfield 19, 3) := by decide +kernel
theorem dX9_init_31 : decode cX9_init 31 = .ok (.aload_n 0, 1) := by decide +kernel
theorem dX9_init_32 : decode cX9_init 32 = .ok (.new 23, 3) := by decide +kernel
theorem dX9_init_35 : decode cX9_init 35 = .ok (.dup, 1) := by decide +kernel
theorem dX9_init_36 : decode cX9_init 36 = .ok (.invokespecial 25, 3) := by decide +kernel
theorem dX9_init_39 : decode cX9_init 39 = .ok (.putfield 26, 3) := by decide +kernel
theorem dX9_init_42 : decode cX9_init 42 = .ok (.aload_n 0, 1) := by decide +kernel
theorem dX9_init_43 : decode cX9_init 43 = .ok (.iconst 4, 1) := by decide +kernel
theorem dX9_init_44 : decode cX9_init 44 = .ok (.anewarray 30, 3) := by decide +kernel
theorem dX9_init_47 : decode cX9_init 47 = .ok (.putfield 32, 3) := by decide +kernel
theorem dX9_init_50 : decode cX9_init 50 = .ok (.iconst 0, 1) := by decide +kernel
theorem dX9_init_51 : decode cX9_init 51 = .ok (.istore_n 1, 1) := by decide +kernel
theorem dX9_init_52 : decode cX9_init 52 = .ok (.iload_n 1, 1) := by decide +kernel
theorem dX9_init_53 : decode cX9_init 53 = .ok (.iconst 4, 1) := by decide +kernel
theorem dX9_init_54 : decode cX9_init 54 = .ok (.if_icmp .ge 22, 3) := by decide +kernel
theorem dX9_init_57 : decode cX9_init 57 = .ok (.aload_n 0, 1) := by decide +kernel
theorem dX9_init_58 : decode cX9_init 58 = .ok (.getfield 32, 3) := by decide +kernel
theorem dX9_init_61 : decode cX9_init 61 = .ok (.iload_n 1, 1) := by decide +kernel
theorem dX9_init_62 : decode cX9_init 62 = .ok (.new 30, 3) := by decide +kernel
theorem dX9_init_65 : decode cX9_init 65 = .ok (.dup, 1) := by decide +kernel
theorem dX9_init_66 : decode cX9_init 66 = .ok (.invokespecial 36, 3) := by decide +kernel
theorem dX9_init_69 : decode cX9_init 69 = .ok (.aastore, 1) := by decide +kernel
theorem dX9_init_70 : decode cX9_init 70 = .ok (.iinc 1 1, 3) := by decide +kernel
theorem dX9_init_73 : decode cX9_init 73 = .ok (.goto (-21), 3) := by decide +kernel
theorem dX9_init_76 : decode cX9_init 76 = .ok (.aload_n 0, 1) := by decide +kernel
theorem dX9_init_77 : decode cX9_init 77 = .ok (.new 37, 3) := by decide +kernel
theorem dX9_init_80 : decode cX9_init 80 = .ok (.dup, 1) := by decide +kernel
theorem dX9_init_81 : decode cX9_init 81 = .ok (.invokespecial 39, 3) := by decide +kernel
theorem dX9_init_84 : decode cX9_init 84 = .ok (.putfield 40, 3) := by decide +kernel
theorem dX9_init_87 : decode cX9_init 87 = .ok (.aload_n 0, 1) := by decide +kernel
theorem dX9_init_88 : decode cX9_init 88 = .ok (.new 44, 3) := by decide +kernel
theorem dX9_init_91 : decode cX9_init 91 = .ok (.dup, 1) := by decide +kernel
theorem dX9_init_92 : decode cX9_init 92 = .ok (.invokespecial 46, 3) := by decide +kernel
theorem dX9_init_95 : decode cX9_init 95 = .ok (.putfield 47, 3) := by decide +kernel
theorem dX9_init_98 : decode cX9_init 98 = .ok (.aload_n 0, 1) := by decide +kernel
theorem dX9_init_99 : decode cX9_init 99 = .ok (.sipush 192, 3) := by decide +kernel
theorem dX9_init_102 : decode cX9_init 102 = .ok (.newarray .int, 2) := by decide +kernel
theorem dX9_init_104 : decode cX9_init 104 = .ok (.putfield 51, 3) := by decide +kernel
theorem dX9_init_107 : decode cX9_init 107 = .ok (.return_, 1) := by decide +kernel
theorem dX9_layer_0 : decode cX9_layer 0 = .ok (.iload_n 1, 1) := by decide +kernel
theorem dX9_layer_1 : decode cX9_layer 1 = .ok (.iload_n 2, 1) := by decide +kernel
theorem dX9_layer_2 : decode cX9_layer 2 = .ok (.iload_n 3, 1) := by decide +kernel
theorem dX9_layer_3 : decode cX9_layer 3 = .ok (.invokestatic 55, 3) := by decide +kernel
theorem dX9_layer_6 : decode cX9_layer 6 = .ok (.ifCond .ne 6, 3) := by decide +kernel
theorem dX9_layer_9 : decode cX9_layer 9 = .ok (.bipush (-2), 2) := by decide +kernel
theorem dX9_layer_11 : decode cX9_layer 11 = .ok (.ireturn, 1) := by decide +kernel
theorem dX9_layer_12 : decode cX9_layer 12 = .ok (.aload_n 0, 1) := by decide +kernel
theorem dX9_layer_13 : decode cX9_layer 13 = .ok (.getfield 10, 3) := by decide +kernel
theorem dX9_layer_16 : decode cX9_layer 16 = .ok (.getfield 59, 3) := by decide +kernel
theorem dX9_layer_19 : decode cX9_layer 19 = .ok (.iconst 4, 1) := by decide +kernel
theorem dX9_layer_20 : decode cX9_layer 20 = .ok (.if_icmp .lt 6, 3) := by decide +kernel
theorem dX9_layer_23 : decode cX9_layer 23 = .ok (.bipush (-4), 2) := by decide +kernel
theorem dX9_layer_25 : decode cX9_layer 25 = .ok (.ireturn, 1) := by decide +kernel
theorem dX9_layer_26 : decode cX9_layer 26 = .ok (.aload_n 0, 1) := by decide +kernel
theorem dX9_layer_27 : decode cX9_layer 27 = .ok (.getfield 10, 3) := by decide +kernel
theorem dX9_layer_30 : decode cX9_layer 30 = .ok (.iload_n 1, 1) := by decide +kernel
theorem dX9_layer_31 : decode cX9_layer 31 = .ok (.iload_n 2, 1) := by decide +kernel
theorem dX9_layer_32 : decode cX9_layer 32 = .ok (.iload_n 3, 1) := by decide +kernel
theorem dX9_layer_33 : decode cX9_layer 33 = .ok (.invokevirtual 63, 3) := by decide +kernel
theorem dX9_layer_36 : decode cX9_layer 36 = .ok (.ireturn, 1) := by decide +kernel
theorem dX9_drop_0 : decode cX9_drop 0 = .ok (.aload_n 0, 1) := by decide +kernel
theorem dX9_drop_1 : decode cX9_drop 1 = .ok (.getfield 10, 3) := by decide +kernel
theorem dX9_drop_4 : decode cX9_drop 4 = .ok (.iload_n 1, 1) := by decide +kernel
theorem dX9_drop_5 : decode cX9_drop 5 = .ok (.invokevirtual 67, 3) := by decide +kernel
theorem dX9_drop_8 : decode cX9_drop 8 = .ok (.ifCond .ne 6, 3) := by decide +kernel
theorem dX9_drop_11 : decode cX9_drop 11 = .ok (.bipush (-2), 2) := by decide +kernel
theorem dX9_drop_13 : decode cX9_drop 13 = .ok (.ireturn, 1) := by decide +kernel
theorem dX9_drop_14 : decode cX9_drop 14 = .ok (.aload_n 0, 1) := by decide +kernel
theorem dX9_drop_15 : decode cX9_drop 15 = .ok (.getfield 10, 3) := by decide +kernel
theorem dX9_drop_18 : decode cX9_drop 18 = .ok (.iload_n 1, 1) := by decide +kernel
theorem dX9_drop_19 : decode cX9_drop 19 = .ok (.invokevirtual 71, 3) := by decide +kernel
theorem dX9_drop_22 : decode cX9_drop 22 = .ok (.aload_n 0, 1) := by decide +kernel
theorem dX9_drop_23 : decode cX9_drop 23 = .ok (.getfield 10, 3) := by decide +kernel
theorem dX9_drop_26 : decode cX9_drop 26 = .ok (.getfield 59, 3) := by decide +kernel
theorem dX9_drop_29 : decode cX9_drop 29 = .ok (.ireturn, 1) := by decide +kernel
theorem dX9_move_0 : decode cX9_move 0 = .ok (.aload_n 0, 1) := by decide +kernel
theorem dX9_move_1 : decode cX9_move 1 = .ok (.getfield 10, 3) := by decide +kernel
theorem dX9_move_4 : decode cX9_move 4 = .ok (.iload_n 1, 1) := by decide +kernel
theorem dX9_move_5 : decode cX9_move 5 = .ok (.invokevirtual 67, 3) := by decide +kernel
theorem dX9_move_8 : decode cX9_move 8 = .ok (.ifCond .eq 14, 3) := by decide +kernel
theorem dX9_move_11 : decode cX9_move 11 = .ok (.aload_n 0, 1) := by decide +kernel
theorem dX9_move_12 : decode cX9_move 12 = .ok (.getfield 10, 3) := by decide +kernel
theorem dX9_move_15 : decode cX9_move 15 = .ok (.iload_n 2, 1) := by decide +kernel
theorem dX9_move_16 : decode cX9_move 16 = .ok (.invokevirtual 67, 3) := by decide +kernel
theorem dX9_move_19 : decode cX9_move 19 = .ok (.ifCond .ne 6, 3) := by decide +kernel
theorem dX9_move_22 : decode cX9_move 22 = .ok (.bipush (-2), 2) := by decide +kernel
theorem dX9_move_24 : decode cX9_move 24 = .ok (.ireturn, 1) := by decide +kernel
theorem dX9_move_25 : decode cX9_move 25 = .ok (.aload_n 0, 1) := by decide +kernel
theorem dX9_move_26 : decode cX9_move 26 = .ok (.getfield 10, 3) := by decide +kernel
theorem dX9_move_29 : decode cX9_move 29 = .ok (.iload_n 1, 1) := by decide +kernel
theorem dX9_move_30 : decode cX9_move 30 = .ok (.iload_n 2, 1) := by decide +kernel
theorem dX9_move_31 : decode cX9_move 31 = .ok (.invokevirtual 75, 3) := by decide +kernel
theorem dX9_move_34 : decode cX9_move 34 = .ok (.iload_n 2, 1) := by decide +kernel
theorem dX9_move_35 : decode cX9_move 35 = .ok (.ireturn, 1) := by decide +kernel
theorem dX9_dress_0 : decode cX9_dress 0 = .ok (.iload_n 1, 1) := by decide +kernel
theorem dX9_dress_1 : decode cX9_dress 1 = .ok (.iconst (-1), 1) := by decide +kernel
theorem dX9_dress_2 : decode cX9_dress 2 = .ok (.if_icmp .ne 10, 3) := by decide +kernel
theorem dX9_dress_5 : decode cX9_dress 5 = .ok (.aload_n 0, 1) := by decide +kernel
theorem dX9_dress_6 : decode cX9_dress 6 = .ok (.iload 4, 2) := by decide +kernel
theorem dX9_dress_8 : decode cX9_dress 8 = .ok (.invokevirtual 79, 3) := by decide +kernel
theorem dX9_dress_11 : decode cX9_dress 11 = .ok (.ireturn, 1) := by decide +kernel
theorem dX9_dress_12 : decode cX9_dress 12 = .ok (.aload_n 0, 1) := by decide +kernel
theorem dX9_dress_13 : decode cX9_dress 13 = .ok (.getfield 10, 3) := by decide +kernel
theorem dX9_dress_16 : decode cX9_dress 16 = .ok (.iload_n 1, 1) := by decide +kernel
theorem dX9_dress_17 : decode cX9_dress 17 = .ok (.invokevirtual 67, 3) := by decide +kernel
theorem dX9_dress_20 : decode cX9_dress 20 = .ok (.ifCond .eq 13, 3) := by decide +kernel
theorem dX9_dress_23 : decode cX9_dress 23 = .ok (.iload_n 2, 1) := by decide +kernel
theorem dX9_dress_24 : decode cX9_dress 24 = .ok (.iload_n 3, 1) := by decide +kernel
theorem dX9_dress_25 : decode cX9_dress 25 = .ok (.iload 4, 2) := by decide +kernel
theorem dX9_dress_27 : decode cX9_dress 27 = .ok (.invokestatic 55, 3) := by decide +kernel
theorem dX9_dress_30 : decode cX9_dress 30 = .ok (.ifCond .ne 6, 3) := by decide +kernel
theorem dX9_dress_33 : decode cX9_dress 33 = .ok (.bipush (-2), 2) := by decide +kernel
theorem dX9_dress_35 : decode cX9_dress 35 = .ok (.ireturn, 1) := by decide +kernel
theorem dX9_dress_36 : decode cX9_dress 36 = .ok (.aload_n 0, 1) := by decide +kernel
theorem dX9_dress_37 : decode cX9_dress 37 = .ok (.getfield 10, 3) := by decide +kernel
theorem dX9_dress_40 : decode cX9_dress 40 = .ok (.getfield 83, 3) := by decide +kernel
theorem dX9_dress_43 : decode cX9_dress 43 = .ok (.iload_n 1, 1) := by decide +kernel
theorem dX9_dress_44 : decode cX9_dress 44 = .ok (.aaload, 1) := by decide +kernel
theorem dX9_dress_45 : decode cX9_dress 45 = .ok (.getfield 87, 3) := by decide +kernel
theorem dX9_dress_48 : decode cX9_dress 48 = .ok (.istore 5, 2) := by decide +kernel
theorem dX9_dress_50 : decode cX9_dress 50 = .ok (.aload_n 0, 1) := by decide +kernel
theorem dX9_dress_51 : decode cX9_dress 51 = .ok (.getfield 10, 3) := by decide +kernel
theorem dX9_dress_54 : decode cX9_dress 54 = .ok (.getfield 83, 3) := by decide +kernel
theorem dX9_dress_57 : decode cX9_dress 57 = .ok (.iload_n 1, 1) := by decide +kernel
theorem dX9_dress_58 : decode cX9_dress 58 = .ok (.aaload, 1) := by decide +kernel
theorem dX9_dress_59 : decode cX9_dress 59 = .ok (.iload_n 2, 1) := by decide +kernel
theorem dX9_dress_60 : decode cX9_dress 60 = .ok (.iload_n 3, 1) := by decide +kernel
theorem dX9_dress_61 : decode cX9_dress 61 = .ok (.iload 4, 2) := by decide +kernel
theorem dX9_dress_63 : decode cX9_dress 63 = .ok (.invokevirtual 90, 3) := by decide +kernel
theorem dX9_dress_66 : decode cX9_dress 66 = .ok (.iload 5, 2) := by decide +kernel
theorem dX9_dress_68 : decode cX9_dress 68 = .ok (.ireturn, 1) := by decide +kernel
theorem dX9_told_0 : decode cX9_told 0 = .ok (.aload_n 0, 1) := by decide +kernel
theorem dX9_told_1 : decode cX9_told 1 = .ok (.getfield 10, 3) := by decide +kernel
theorem dX9_told_4 : decode cX9_told 4 = .ok (.iload_n 1, 1) := by decide +kernel
theorem dX9_told_5 : decode cX9_told 5 = .ok (.invokevirtual 67, 3) := by decide +kernel
theorem dX9_told_8 : decode cX9_told 8 = .ok (.ifCond .ne 6, 3) := by decide +kernel
theorem dX9_told_11 : decode cX9_told 11 = .ok (.bipush (-2), 2) := by decide +kernel
theorem dX9_told_13 : decode cX9_told 13 = .ok (.ireturn, 1) := by decide +kernel
theorem dX9_told_14 : decode cX9_told 14 = .ok (.aload_n 0, 1) := by decide +kernel
theorem dX9_told_15 : decode cX9_told 15 = .ok (.getfield 10, 3) := by decide +kernel
theorem dX9_told_18 : decode cX9_told 18 = .ok (.getfield 83, 3) := by decide +kernel
theorem dX9_told_21 : decode cX9_told 21 = .ok (.iload_n 1, 1) := by decide +kernel
theorem dX9_told_22 : decode cX9_told 22 = .ok (.aaload, 1) := by decide +kernel
theorem dX9_told_23 : decode cX9_told 23 = .ok (.astore_n 3, 1) := by decide +kernel
theorem dX9_told_24 : decode cX9_told 24 = .ok (.iload_n 2, 1) := by decide +kernel
theorem dX9_told_25 : decode cX9_told 25 = .ok (.tableswitch 51 0 3 #[31, 36, 41, 46], 31) := by decide +kernel
theorem dX9_told_56 : decode cX9_told 56 = .ok (.aload_n 3, 1) := by decide +kernel
theorem dX9_told_57 : decode cX9_told 57 = .ok (.getfield 94, 3) := by decide +kernel
theorem dX9_told_60 : decode cX9_told 60 = .ok (.ireturn, 1) := by decide +kernel
theorem dX9_told_61 : decode cX9_told 61 = .ok (.aload_n 3, 1) := by decide +kernel
theorem dX9_told_62 : decode cX9_told 62 = .ok (.getfield 97, 3) := by decide +kernel
theorem dX9_told_65 : decode cX9_told 65 = .ok (.ireturn, 1) := by decide +kernel
theorem dX9_told_66 : decode cX9_told 66 = .ok (.aload_n 3, 1) := by decide +kernel
theorem dX9_told_67 : decode cX9_told 67 = .ok (.getfield 87, 3) := by decide +kernel
theorem dX9_told_70 : decode cX9_told 70 = .ok (.ireturn, 1) := by decide +kernel
theorem dX9_told_71 : decode cX9_told 71 = .ok (.aload_n 3, 1) := by decide +kernel
theorem dX9_told_72 : decode cX9_told 72 = .ok (.invokevirtual 100, 3) := by decide +kernel
theorem dX9_told_75 : decode cX9_told 75 = .ok (.ireturn, 1) := by decide +kernel
theorem dX9_told_76 : decode cX9_told 76 = .ok (.bipush (-2), 2) := by decide +kernel
theorem dX9_told_78 : decode cX9_told 78 = .ok (.ireturn, 1) := by decide +kernel
theorem dX9_taken_0 : decode cX9_taken 0 = .ok (.aload_n 0, 1) := by decide +kernel
theorem dX9_taken_1 : decode cX9_taken 1 = .ok (.getfield 10, 3) := by decide +kernel
theorem dX9_taken_4 : decode cX9_taken 4 = .ok (.iload_n 1, 1) := by decide +kernel
theorem dX9_taken_5 : decode cX9_taken 5 = .ok (.invokevirtual 67, 3) := by decide +kernel
theorem dX9_taken_8 : decode cX9_taken 8 = .ok (.ifCond .eq 19, 3) := by decide +kernel
theorem dX9_taken_11 : decode cX9_taken 11 = .ok (.iload_n 2, 1) := by decide +kernel
theorem dX9_taken_12 : decode cX9_taken 12 = .ok (.iconst 0, 1) := by decide +kernel
theorem dX9_taken_13 : decode cX9_taken 13 = .ok (.iconst 5, 1) := by decide +kernel
theorem dX9_taken_14 : decode cX9_taken 14 = .ok (.invokestatic 104, 3) := by decide +kernel
theorem dX9_taken_17 : decode cX9_taken 17 = .ok (.ifCond .eq 10, 3) := by decide +kernel
theorem dX9_taken_20 : decode cX9_taken 20 = .ok (.iload_n 3, 1) := by decide +kernel
theorem dX9_taken_21 : decode cX9_taken 21 = .ok (.invokestatic 107, 3) := by decide +kernel
theorem dX9_taken_24 : decode cX9_taken 24 = .ok (.ifCond .ne 6, 3) := by decide +kernel
theorem dX9_taken_27 : decode cX9_taken 27 = .ok (.bipush (-2), 2) := by decide +kernel
theorem dX9_taken_29 : decode cX9_taken 29 = .ok (.ireturn, 1) := by decide +kernel
theorem dX9_taken_30 : decode cX9_taken 30 = .ok (.aload_n 0, 1) := by decide +kernel
theorem dX9_taken_31 : decode cX9_taken 31 = .ok (.getfield 10, 3) := by decide +kernel
theorem dX9_taken_34 : decode cX9_taken 34 = .ok (.getfield 83, 3) := by decide +kernel
theorem dX9_taken_37 : decode cX9_taken 37 = .ok (.iload_n 1, 1) := by decide +kernel
theorem dX9_taken_38 : decode cX9_taken 38 = .ok (.aaload, 1) := by decide +kernel
theorem dX9_taken_39 : decode cX9_taken 39 = .ok (.astore 4, 2) := by decide +kernel
theorem dX9_taken_41 : decode cX9_taken 41 = .ok (.aload 4, 2) := by decide +kernel
theorem dX9_taken_43 : decode cX9_taken 43 = .ok (.getfield 94, 3) := by decide +kernel
theorem dX9_taken_46 : decode cX9_taken 46 = .ok (.iload_n 2, 1) := by decide +kernel
theorem dX9_taken_47 : decode cX9_taken 47 = .ok (.invokestatic 110, 3) := by decide +kernel
theorem dX9_taken_50 : decode cX9_taken 50 = .ok (.ifCond .eq 15, 3) := by decide +kernel
theorem dX9_taken_53 : decode cX9_taken 53 = .ok (.aload 4, 2) := by decide +kernel
theorem dX9_taken_55 : decode cX9_taken 55 = .ok (.iload_n 3, 1) := by decide +kernel
theorem dX9_taken_56 : decode cX9_taken 56 = .ok (.sipush 200, 3) := by decide +kernel
theorem dX9_taken_59 : decode cX9_taken 59 = .ok (.invokevirtual 114, 3) := by decide +kernel
theorem dX9_taken_62 : decode cX9_taken 62 = .ok (.goto 5, 3) := by decide +kernel
theorem dX9_taken_65 : decode cX9_taken 65 = .ok (.bipush (-13), 2) := by decide +kernel
theorem dX9_taken_67 : decode cX9_taken 67 = .ok (.ireturn, 1) := by decide +kernel
theorem dX9_dot_0 : decode cX9_dot 0 = .ok (.iload_n 2, 1) := by decide +kernel
theorem dX9_dot_1 : decode cX9_dot 1 = .ok (.iload_n 3, 1) := by decide +kernel
theorem dX9_dot_2 : decode cX9_dot 2 = .ok (.invokestatic 118, 3) := by decide +kernel
theorem dX9_dot_5 : decode cX9_dot 5 = .ok (.ifCond .ne 6, 3) := by decide +kernel
theorem dX9_dot_8 : decode cX9_dot 8 = .ok (.bipush (-2), 2) := by decide +kernel
theorem dX9_dot_10 : decode cX9_dot 10 = .ok (.ireturn, 1) := by decide +kernel
theorem dX9_dot_11 : decode cX9_dot 11 = .ok (.iload_n 1, 1) := by decide +kernel
theorem dX9_dot_12 : decode cX9_dot 12 = .ok (.iconst (-1), 1) := by decide +kernel
theorem dX9_dot_13 : decode cX9_dot 13 = .ok (.if_icmp .ne 23, 3) := by decide +kernel
theorem dX9_dot_16 : decode cX9_dot 16 = .ok (.iload 4, 2) := by decide +kernel
theorem dX9_dot_18 : decode cX9_dot 18 = .ok (.ifCond .ne 15, 3) := by decide +kernel
theorem dX9_dot_21 : decode cX9_dot 21 = .ok (.aload_n 0, 1) := by decide +kernel
theorem dX9_dot_22 : decode cX9_dot 22 = .ok (.iload_n 2, 1) := by decide +kernel
theorem dX9_dot_23 : decode cX9_dot 23 = .ok (.iload_n 3, 1) := by decide +kernel
theorem dX9_dot_24 : decode cX9_dot 24 = .ok (.invokestatic 121, 3) := by decide +kernel
theorem dX9_dot_27 : decode cX9_dot 27 = .ok (.invokevirtual 124, 3) := by decide +kernel
theorem dX9_dot_30 : decode cX9_dot 30 = .ok (.goto 5, 3) := by decide +kernel
theorem dX9_dot_33 : decode cX9_dot 33 = .ok (.bipush (-2), 2) := by decide +kernel
theorem dX9_dot_35 : decode cX9_dot 35 = .ok (.ireturn, 1) := by decide +kernel
theorem dX9_dot_36 : decode cX9_dot 36 = .ok (.aload_n 0, 1) := by decide +kernel
theorem dX9_dot_37 : decode cX9_dot 37 = .ok (.getfield 10, 3) := by decide +kernel
theorem dX9_dot_40 : decode cX9_dot 40 = .ok (.iload_n 1, 1) := by decide +kernel
theorem dX9_dot_41 : decode cX9_dot 41 = .ok (.invokevirtual 67, 3) := by decide +kernel
theorem dX9_dot_44 : decode cX9_dot 44 = .ok (.ifCond .eq 13, 3) := by decide +kernel
theorem dX9_dot_47 : decode cX9_dot 47 = .ok (.iload 4, 2) := by decide +kernel
theorem dX9_dot_49 : decode cX9_dot 49 = .ok (.iconst 0, 1) := by decide +kernel
theorem dX9_dot_50 : decode cX9_dot 50 = .ok (.iconst 1, 1) := by decide +kernel
theorem dX9_dot_51 : decode cX9_dot 51 = .ok (.invokestatic 104, 3) := by decide +kernel
theorem dX9_dot_54 : decode cX9_dot 54 = .ok (.ifCond .ne 6, 3) := by decide +kernel
theorem dX9_dot_57 : decode cX9_dot 57 = .ok (.bipush (-2), 2) := by decide +kernel
theorem dX9_dot_59 : decode cX9_dot 59 = .ok (.ireturn, 1) := by decide +kernel
theorem dX9_dot_60 : decode cX9_dot 60 = .ok (.aload_n 0, 1) := by decide +kernel
theorem dX9_dot_61 : decode cX9_dot 61 = .ok (.getfield 10, 3) := by decide +kernel
theorem dX9_dot_64 : decode cX9_dot 64 = .ok (.getfield 83, 3) := by decide +kernel
theorem dX9_dot_67 : decode cX9_dot 67 = .ok (.iload_n 1, 1) := by decide +kernel
theorem dX9_dot_68 : decode cX9_dot 68 = .ok (.aaload, 1) := by decide +kernel
theorem dX9_dot_69 : decode cX9_dot 69 = .ok (.astore 5, 2) := by decide +kernel
theorem dX9_dot_71 : decode cX9_dot 71 = .ok (.iload 4, 2) := by decide +kernel
theorem dX9_dot_73 : decode cX9_dot 73 = .ok (.ifCond .ne 17, 3) := by decide +kernel
theorem dX9_dot_76 : decode cX9_dot 76 = .ok (.aload 5, 2) := by decide +kernel
theorem dX9_dot_78 : decode cX9_dot 78 = .ok (.getfield 127, 3) := by decide +kernel
theorem dX9_dot_81 : decode cX9_dot 81 = .ok (.iload_n 2, 1) := by decide +kernel
theorem dX9_dot_82 : decode cX9_dot 82 = .ok (.iload_n 3, 1) := by decide +kernel
theorem dX9_dot_83 : decode cX9_dot 83 = .ok (.invokestatic 121, 3) := by decide +kernel
theorem dX9_dot_86 : decode cX9_dot 86 = .ok (.iaload, 1) := by decide +kernel
theorem dX9_dot_87 : decode cX9_dot 87 = .ok (.goto 14, 3) := by decide +kernel
theorem dX9_dot_90 : decode cX9_dot 90 = .ok (.aload 5, 2) := by decide +kernel
theorem dX9_dot_92 : decode cX9_dot 92 = .ok (.getfield 130, 3) := by decide +kernel
theorem dX9_dot_95 : decode cX9_dot 95 = .ok (.iload_n 2, 1) := by decide +kernel
theorem dX9_dot_96 : decode cX9_dot 96 = .ok (.iload_n 3, 1) := by decide +kernel
theorem dX9_dot_97 : decode cX9_dot 97 = .ok (.invokestatic 121, 3) := by decide +kernel
theorem dX9_dot_100 : decode cX9_dot 100 = .ok (.iaload, 1) := by decide +kernel
theorem dX9_dot_101 : decode cX9_dot 101 = .ok (.ireturn, 1) := by decide +kernel
theorem dX9_brush_0 : decode cX9_brush 0 = .ok (.iload_n 1, 1) := by decide +kernel
theorem dX9_brush_1 : decode cX9_brush 1 = .ok (.iconst 0, 1) := by decide +kernel
theorem dX9_brush_2 : decode cX9_brush 2 = .ok (.iconst 4, 1) := by decide +kernel
theorem dX9_brush_3 : decode cX9_brush 3 = .ok (.invokestatic 104, 3) := by decide +kernel
theorem dX9_brush_6 : decode cX9_brush 6 = .ok (.ifCond .eq 38, 3) := by decide +kernel
theorem dX9_brush_9 : decode cX9_brush 9 = .ok (.iload_n 2, 1) := by decide +kernel
theorem dX9_brush_10 : decode cX9_brush 10 = .ok (.iconst 0, 1) := by decide +kernel
theorem dX9_brush_11 : decode cX9_brush 11 = .ok (.iconst 4, 1) := by decide +kernel
theorem dX9_brush_12 : decode cX9_brush 12 = .ok (.invokestatic 104, 3) := by decide +kernel
theorem dX9_brush_15 : decode cX9_brush 15 = .ok (.ifCond .eq 29, 3) := by decide +kernel
theorem dX9_brush_18 : decode cX9_brush 18 = .ok (.iload_n 3, 1) := by decide +kernel
theorem dX9_brush_19 : decode cX9_brush 19 = .ok (.iconst (-1), 1) := by decide +kernel
theorem dX9_brush_20 : decode cX9_brush 20 = .ok (.sipush 255, 3) := by decide +kernel
theorem dX9_brush_23 : decode cX9_brush 23 = .ok (.invokestatic 104, 3) := by decide +kernel
theorem dX9_brush_26 : decode cX9_brush 26 = .ok (.ifCond .eq 18, 3) := by decide +kernel
theorem dX9_brush_29 : decode cX9_brush 29 = .ok (.iload 4, 2) := by decide +kernel
theorem dX9_brush_31 : decode cX9_brush 31 = .ok (.iconst 0, 1) := by decide +kernel
theorem dX9_brush_32 : decode cX9_brush 32 = .ok (.bipush 9, 2) := by decide +kernel
theorem dX9_brush_34 : decode cX9_brush 34 = .ok (.invokestatic 104, 3) := by decide +kernel
theorem dX9_brush_37 : decode cX9_brush 37 = .ok (.ifCond .eq 7, 3) := by decide +kernel
theorem dX9_brush_40 : decode cX9_brush 40 = .ok (.iconst 1, 1) := by decide +kernel
theorem dX9_brush_41 : decode cX9_brush 41 = .ok (.goto 4, 3) := by decide +kernel
theorem dX9_brush_44 : decode cX9_brush 44 = .ok (.iconst 0, 1) := by decide +kernel
theorem dX9_brush_45 : decode cX9_brush 45 = .ok (.istore 5, 2) := by decide +kernel
theorem dX9_brush_47 : decode cX9_brush 47 = .ok (.iload 5, 2) := by decide +kernel
theorem dX9_brush_49 : decode cX9_brush 49 = .ok (.ifCond .ne 6, 3) := by decide +kernel
theorem dX9_brush_52 : decode cX9_brush 52 = .ok (.bipush (-2), 2) := by decide +kernel
theorem dX9_brush_54 : decode cX9_brush 54 = .ok (.ireturn, 1) := by decide +kernel
theorem dX9_brush_55 : decode cX9_brush 55 = .ok (.bipush 10, 2) := by decide +kernel
theorem dX9_brush_57 : decode cX9_brush 57 = .ok (.aload_n 0, 1) := by decide +kernel
theorem dX9_brush_58 : decode cX9_brush 58 = .ok (.getfield 10, 3) := by decide +kernel
theorem dX9_brush_61 : decode cX9_brush 61 = .ok (.getfield 133, 3) := by decide +kernel
theorem dX9_brush_64 : decode cX9_brush 64 = .ok (.getfield 137, 3) := by decide +kernel
theorem dX9_brush_67 : decode cX9_brush 67 = .ok (.imul, 1) := by decide +kernel
theorem dX9_brush_68 : decode cX9_brush 68 = .ok (.aload_n 0, 1) := by decide +kernel
theorem dX9_brush_69 : decode cX9_brush 69 = .ok (.getfield 10, 3) := by decide +kernel
theorem dX9_brush_72 : decode cX9_brush 72 = .ok (.getfield 133, 3) := by decide +kernel
theorem dX9_brush_75 : decode cX9_brush 75 = .ok (.getfield 142, 3) := by decide +kernel
theorem dX9_brush_78 : decode cX9_brush 78 = .ok (.iadd, 1) := by decide +kernel
theorem dX9_brush_79 : decode cX9_brush 79 = .ok (.istore 6, 2) := by decide +kernel
theorem dX9_brush_81 : decode cX9_brush 81 = .ok (.aload_n 0, 1) := by decide +kernel
theorem dX9_brush_82 : decode cX9_brush 82 = .ok (.getfield 10, 3) := by decide +kernel
theorem dX9_brush_85 : decode cX9_brush 85 = .ok (.getfield 133, 3) := by decide +kernel
theorem dX9_brush_88 : decode cX9_brush 88 = .ok (.iload_n 1, 1) := by decide +kernel
theorem dX9_brush_89 : decode cX9_brush 89 = .ok (.iload_n 2, 1) := by decide +kernel
theorem dX9_brush_90 : decode cX9_brush 90 = .ok (.iload_n 3, 1) := by decide +kernel
theorem dX9_brush_91 : decode cX9_brush 91 = .ok (.iload 4, 2) := by decide +kernel
theorem dX9_brush_93 : decode cX9_brush 93 = .ok (.invokevirtual 145, 3) := by decide +kernel
theorem dX9_brush_96 : decode cX9_brush 96 = .ok (.iload 6, 2) := by decide +kernel
theorem dX9_brush_98 : decode cX9_brush 98 = .ok (.ireturn, 1) := by decide +kernel
theorem dX9_touch_0 : decode cX9_touch 0 = .ok (.iload_n 1, 1) := by decide +kernel
theorem dX9_touch_1 : decode cX9_touch 1 = .ok (.bipush (-9), 2) := by decide +kernel
theorem dX9_touch_3 : decode cX9_touch 3 = .ok (.bipush 9, 2) := by decide +kernel
theorem dX9_touch_5 : decode cX9_touch 5 = .ok (.invokestatic 104, 3) := by decide +kernel
theorem dX9_touch_8 : decode cX9_touch 8 = .ok (.ifCond .eq 14, 3) := by decide +kernel
theorem dX9_touch_11 : decode cX9_touch 11 = .ok (.iload_n 2, 1) := by decide +kernel
theorem dX9_touch_12 : decode cX9_touch 12 = .ok (.bipush (-9), 2) := by decide +kernel
theorem dX9_touch_14 : decode cX9_touch 14 = .ok (.bipush 9, 2) := by decide +kernel
theorem dX9_touch_16 : decode cX9_touch 16 = .ok (.invokestatic 104, 3) := by decide +kernel
theorem dX9_touch_19 : decode cX9_touch 19 = .ok (.ifCond .ne 6, 3) := by decide +kernel
theorem dX9_touch_22 : decode cX9_touch 22 = .ok (.bipush (-2), 2) := by decide +kernel
theorem dX9_touch_24 : decode cX9_touch 24 = .ok (.ireturn, 1) := by decide +kernel
theorem dX9_touch_25 : decode cX9_touch 25 = .ok (.aload_n 0, 1) := by decide +kernel
theorem dX9_touch_26 : decode cX9_touch 26 = .ok (.getfield 10, 3) := by decide +kernel
theorem dX9_touch_29 : decode cX9_touch 29 = .ok (.getfield 133, 3) := by decide +kernel
theorem dX9_touch_32 : decode cX9_touch 32 = .ok (.iload_n 1, 1) := by decide +kernel
theorem dX9_touch_33 : decode cX9_touch 33 = .ok (.iload_n 2, 1) := by decide +kernel
theorem dX9_touch_34 : decode cX9_touch 34 = .ok (.invokevirtual 149, 3) := by decide +kernel
theorem dX9_touch_37 : decode cX9_touch 37 = .ok (.ireturn, 1) := by decide +kernel
theorem dX9_feed_0 : decode cX9_feed 0 = .ok (.iload_n 1, 1) := by decide +kernel
theorem dX9_feed_1 : decode cX9_feed 1 = .ok (.iconst 1, 1) := by decide +kernel
theorem dX9_feed_2 : decode cX9_feed 2 = .ok (.iconst 5, 1) := by decide +kernel
theorem dX9_feed_3 : decode cX9_feed 3 = .ok (.invokestatic 104, 3) := by decide +kernel
theorem dX9_feed_6 : decode cX9_feed 6 = .ok (.ifCond .eq 45, 3) := by decide +kernel
theorem dX9_feed_9 : decode cX9_feed 9 = .ok (.iload_n 2, 1) := by decide +kernel
theorem dX9_feed_10 : decode cX9_feed 10 = .ok (.invokestatic 107, 3) := by decide +kernel
theorem dX9_feed_13 : decode cX9_feed 13 = .ok (.ifCond .eq 38, 3) := by decide +kernel
theorem dX9_feed_16 : decode cX9_feed 16 = .ok (.iload_n 3, 1) := by decide +kernel
theorem dX9_feed_17 : decode cX9_feed 17 = .ok (.invokestatic 107, 3) := by decide +kernel
theorem dX9_feed_20 : decode cX9_feed 20 = .ok (.ifCond .eq 31, 3) := by decide +kernel
theorem dX9_feed_23 : decode cX9_feed 23 = .ok (.iload 4, 2) := by decide +kernel
theorem dX9_feed_25 : decode cX9_feed 25 = .ok (.invokestatic 107, 3) := by decide +kernel
theorem dX9_feed_28 : decode cX9_feed 28 = .ok (.ifCond .eq 23, 3) := by decide +kernel
theorem dX9_feed_31 : decode cX9_feed 31 = .ok (.iload 5, 2) := by decide +kernel
theorem dX9_feed_33 : decode cX9_feed 33 = .ok (.invokestatic 107, 3) := by decide +kernel
theorem dX9_feed_36 : decode cX9_feed 36 = .ok (.ifCond .eq 15, 3) := by decide +kernel
theorem dX9_feed_39 : decode cX9_feed 39 = .ok (.iload 6, 2) := by decide +kernel
theorem dX9_feed_41 : decode cX9_feed 41 = .ok (.invokestatic 107, 3) := by decide +kernel
theorem dX9_feed_44 : decode cX9_feed 44 = .ok (.ifCond .eq 7, 3) := by decide +kernel
theorem dX9_feed_47 : decode cX9_feed 47 = .ok (.iconst 1, 1) := by decide +kernel
theorem dX9_feed_48 : decode cX9_feed 48 = .ok (.goto 4, 3) := by decide +kernel
theorem dX9_feed_51 : decode cX9_feed 51 = .ok (.iconst 0, 1) := by decide +kernel
theorem dX9_feed_52 : decode cX9_feed 52 = .ok (.istore 7, 2) := by decide +kernel
theorem dX9_feed_54 : decode cX9_feed 54 = .ok (.iload 7, 2) := by decide +kernel
theorem dX9_feed_56 : decode cX9_feed 56 = .ok (.ifCond .ne 6, 3) := by decide +kernel
theorem dX9_feed_59 : decode cX9_feed 59 = .ok (.bipush (-2), 2) := by decide +kernel
theorem dX9_feed_61 : decode cX9_feed 61 = .ok (.ireturn, 1) := by decide +kernel
theorem dX9_feed_62 : decode cX9_feed 62 = .ok (.aload_n 0, 1) := by decide +kernel
theorem dX9_feed_63 : decode cX9_feed 63 = .ok (.getfield 26, 3) := by decide +kernel
theorem dX9_feed_66 : decode cX9_feed 66 = .ok (.getfield 152, 3) := by decide +kernel
theorem dX9_feed_69 : decode cX9_feed 69 = .ok (.iload_n 1, 1) := by decide +kernel
theorem dX9_feed_70 : decode cX9_feed 70 = .ok (.iadd, 1) := by decide +kernel
theorem dX9_feed_71 : decode cX9_feed 71 = .ok (.bipush 60, 2) := by decide +kernel
theorem dX9_feed_73 : decode cX9_feed 73 = .ok (.if_icmp .le 6, 3) := by decide +kernel
theorem dX9_feed_76 : decode cX9_feed 76 = .ok (.bipush (-4), 2) := by decide +kernel
theorem dX9_feed_78 : decode cX9_feed 78 = .ok (.ireturn, 1) := by decide +kernel
theorem dX9_feed_79 : decode cX9_feed 79 = .ok (.aload_n 0, 1) := by decide +kernel
theorem dX9_feed_80 : decode cX9_feed 80 = .ok (.getfield 26, 3) := by decide +kernel
theorem dX9_feed_83 : decode cX9_feed 83 = .ok (.iload_n 2, 1) := by decide +kernel
theorem dX9_feed_84 : decode cX9_feed 84 = .ok (.invokevirtual 155, 3) := by decide +kernel
theorem dX9_feed_87 : decode cX9_feed 87 = .ok (.iload_n 1, 1) := by decide +kernel
theorem dX9_feed_88 : decode cX9_feed 88 = .ok (.iconst 1, 1) := by decide +kernel
theorem dX9_feed_89 : decode cX9_feed 89 = .ok (.if_icmp .le 11, 3) := by decide +kernel
theorem dX9_feed_92 : decode cX9_feed 92 = .ok (.aload_n 0, 1) := by decide +kernel
theorem dX9_feed_93 : decode cX9_feed 93 = .ok (.getfield 26, 3) := by decide +kernel
theorem dX9_feed_96 : decode cX9_feed 96 = .ok (.iload_n 3, 1) := by decide +kernel
theorem dX9_feed_97 : decode cX9_feed 97 = .ok (.invokevirtual 155, 3) := by decide +kernel
theorem dX9_feed_100 : decode cX9_feed 100 = .ok (.iload_n 1, 1) := by decide +kernel
theorem dX9_feed_101 : decode cX9_feed 101 = .ok (.iconst 2, 1) := by decide +kernel
theorem dX9_feed_102 : decode cX9_feed 102 = .ok (.if_icmp .le 12, 3) := by decide +kernel
theorem dX9_feed_105 : decode cX9_feed 105 = .ok (.aload_n 0, 1) := by decide +kernel
theorem dX9_feed_106 : decode cX9_feed 106 = .ok (.getfield 26, 3) := by decide +kernel
theorem dX9_feed_109 : decode cX9_feed 109 = .ok (.iload 4, 2) := by decide +kernel
theorem dX9_feed_111 : decode cX9_feed 111 = .ok (.invokevirtual 155, 3) := by decide +kernel
theorem dX9_feed_114 : decode cX9_feed 114 = .ok (.iload_n 1, 1) := by decide +kernel
theorem dX9_feed_115 : decode cX9_feed 115 = .ok (.iconst 3, 1) := by decide +kernel
theorem dX9_feed_116 : decode cX9_feed 116 = .ok (.if_icmp .le 12, 3) := by decide +kernel
theorem dX9_feed_119 : decode cX9_feed 119 = .ok (.aload_n 0, 1) := by decide +kernel
theorem dX9_feed_120 : decode cX9_feed 120 = .ok (.getfield 26, 3) := by decide +kernel
theorem dX9_feed_123 : decode cX9_feed 123 = .ok (.iload 5, 2) := by decide +kernel
theorem dX9_feed_125 : decode cX9_feed 125 = .ok (.invokevirtual 155, 3) := by decide +kernel
theorem dX9_feed_128 : decode cX9_feed 128 = .ok (.iload_n 1, 1) := by decide +kernel
theorem dX9_feed_129 : decode cX9_feed 129 = .ok (.iconst 4, 1) := by decide +kernel
theorem dX9_feed_130 : decode cX9_feed 130 = .ok (.if_icmp .le 12, 3) := by decide +kernel
theorem dX9_feed_133 : decode cX9_feed 133 = .ok (.aload_n 0, 1) := by decide +kernel
theorem dX9_feed_134 : decode cX9_feed 134 = .ok (.getfield 26, 3) := by decide +kernel
theorem dX9_feed_137 : decode cX9_feed 137 = .ok (.iload 6, 2) := by decide +kernel
theorem dX9_feed_139 : decode cX9_feed 139 = .ok (.invokevirtual 155, 3) := by decide +kernel
theorem dX9_feed_142 : decode cX9_feed 142 = .ok (.aload_n 0, 1) := by decide +kernel
theorem dX9_feed_143 : decode cX9_feed 143 = .ok (.getfield 26, 3) := by decide +kernel
theorem dX9_feed_146 : decode cX9_feed 146 = .ok (.getfield 152, 3) := by decide +kernel
theorem dX9_feed_149 : decode cX9_feed 149 = .ok (.ireturn, 1) := by decide +kernel
theorem dX9_stroke_0 : decode cX9_stroke 0 = .ok (.aload_n 0, 1) := by decide +kernel
theorem dX9_stroke_1 : decode cX9_stroke 1 = .ok (.getfield 10, 3) := by decide +kernel
theorem dX9_stroke_4 : decode cX9_stroke 4 = .ok (.iload_n 1, 1) := by decide +kernel
theorem dX9_stroke_5 : decode cX9_stroke 5 = .ok (.invokevirtual 67, 3) := by decide +kernel
theorem dX9_stroke_8 : decode cX9_stroke 8 = .ok (.ifCond .ne 6, 3) := by decide +kernel
theorem dX9_stroke_11 : decode cX9_stroke 11 = .ok (.bipush (-2), 2) := by decide +kernel
theorem dX9_stroke_13 : decode cX9_stroke 13 = .ok (.ireturn, 1) := by decide +kernel
theorem dX9_stroke_14 : decode cX9_stroke 14 = .ok (.aload_n 0, 1) := by decide +kernel
theorem dX9_stroke_15 : decode cX9_stroke 15 = .ok (.getfield 26, 3) := by decide +kernel
theorem dX9_stroke_18 : decode cX9_stroke 18 = .ok (.invokevirtual 158, 3) := by decide +kernel
theorem dX9_stroke_21 : decode cX9_stroke 21 = .ok (.aload_n 0, 1) := by decide +kernel
theorem dX9_stroke_22 : decode cX9_stroke 22 = .ok (.getfield 26, 3) := by decide +kernel
theorem dX9_stroke_25 : decode cX9_stroke 25 = .ok (.iconst 0, 1) := by decide +kernel
theorem dX9_stroke_26 : decode cX9_stroke 26 = .ok (.putfield 152, 3) := by decide +kernel
theorem dX9_stroke_29 : decode cX9_stroke 29 = .ok (.aload_n 0, 1) := by decide +kernel
theorem dX9_stroke_30 : decode cX9_stroke 30 = .ok (.getfield 26, 3) := by decide +kernel
theorem dX9_stroke_33 : decode cX9_stroke 33 = .ok (.getfield 161, 3) := by decide +kernel
theorem dX9_stroke_36 : decode cX9_stroke 36 = .ok (.iconst (-1), 1) := by decide +kernel
theorem dX9_stroke_37 : decode cX9_stroke 37 = .ok (.if_icmp .ne 18, 3) := by decide +kernel
theorem dX9_stroke_40 : decode cX9_stroke 40 = .ok (.aload_n 0, 1) := by decide +kernel
theorem dX9_stroke_41 : decode cX9_stroke 41 = .ok (.getfield 10, 3) := by decide +kernel
theorem dX9_stroke_44 : decode cX9_stroke 44 = .ok (.iload_n 1, 1) := by decide +kernel
theorem dX9_stroke_45 : decode cX9_stroke 45 = .ok (.aload_n 0, 1) := by decide +kernel
theorem dX9_stroke_46 : decode cX9_stroke 46 = .ok (.getfield 26, 3) := by decide +kernel
theorem dX9_stroke_49 : decode cX9_stroke 49 = .ok (.invokevirtual 164, 3) := by decide +kernel
theorem dX9_stroke_52 : decode cX9_stroke 52 = .ok (.goto 13, 3) := by decide +kernel
theorem dX9_stroke_55 : decode cX9_stroke 55 = .ok (.bipush (-100), 2) := by decide +kernel
theorem dX9_stroke_57 : decode cX9_stroke 57 = .ok (.aload_n 0, 1) := by decide +kernel
theorem dX9_stroke_58 : decode cX9_stroke 58 = .ok (.getfield 26, 3) := by decide +kernel
theorem dX9_stroke_61 : decode cX9_stroke 61 = .ok (.getfield 161, 3) := by decide +kernel
theorem dX9_stroke_64 : decode cX9_stroke 64 = .ok (.isub, 1) := by decide +kernel
theorem dX9_stroke_65 : decode cX9_stroke 65 = .ok (.ireturn, 1) := by decide +kernel
theorem dX9_box_0 : decode cX9_box 0 = .ok (.aload_n 0, 1) := by decide +kernel
theorem dX9_box_1 : decode cX9_box 1 = .ok (.getfield 10, 3) := by decide +kernel
theorem dX9_box_4 : decode cX9_box 4 = .ok (.iload_n 1, 1) := by decide +kernel
theorem dX9_box_5 : decode cX9_box 5 = .ok (.invokevirtual 67, 3) := by decide +kernel
theorem dX9_box_8 : decode cX9_box 8 = .ok (.ifCond .eq 21, 3) := by decide +kernel
theorem dX9_box_11 : decode cX9_box 11 = .ok (.iload_n 2, 1) := by decide +kernel
theorem dX9_box_12 : decode cX9_box 12 = .ok (.iload_n 3, 1) := by decide +kernel
theorem dX9_box_13 : decode cX9_box 13 = .ok (.invokestatic 118, 3) := by decide +kernel
theorem dX9_box_16 : decode cX9_box 16 = .ok (.ifCond .eq 13, 3) := by decide +kernel
theorem dX9_box_19 : decode cX9_box 19 = .ok (.iload 4, 2) := by decide +kernel
theorem dX9_box_21 : decode cX9_box 21 = .ok (.iload 5, 2) := by decide +kernel
theorem dX9_box_23 : decode cX9_box 23 = .ok (.invokestatic 118, 3) := by decide +kernel
theorem dX9_box_26 : decode cX9_box 26 = .ok (.ifCond .ne 6, 3) := by decide +kernel
theorem dX9_box_29 : decode cX9_box 29 = .ok (.bipush (-2), 2) := by decide +kernel
theorem dX9_box_31 : decode cX9_box 31 = .ok (.ireturn, 1) := by decide +kernel
theorem dX9_box_32 : decode cX9_box 32 = .ok (.aload_n 0, 1) := by decide +kernel
theorem dX9_box_33 : decode cX9_box 33 = .ok (.getfield 40, 3) := by decide +kernel
theorem dX9_box_36 : decode cX9_box 36 = .ok (.iload_n 2, 1) := by decide +kernel
theorem dX9_box_37 : decode cX9_box 37 = .ok (.iload_n 3, 1) := by decide +kernel
theorem dX9_box_38 : decode cX9_box 38 = .ok (.iload 4, 2) := by decide +kernel
theorem dX9_box_40 : decode cX9_box 40 = .ok (.iload 5, 2) := by decide +kernel
theorem dX9_box_42 : decode cX9_box 42 = .ok (.invokevirtual 168, 3) := by decide +kernel
theorem dX9_box_45 : decode cX9_box 45 = .ok (.aload_n 0, 1) := by decide +kernel
theorem dX9_box_46 : decode cX9_box 46 = .ok (.getfield 10, 3) := by decide +kernel
theorem dX9_box_49 : decode cX9_box 49 = .ok (.iload_n 1, 1) := by decide +kernel
theorem dX9_box_50 : decode cX9_box 50 = .ok (.aload_n 0, 1) := by decide +kernel
theorem dX9_box_51 : decode cX9_box 51 = .ok (.getfield 40, 3) := by decide +kernel
theorem dX9_box_54 : decode cX9_box 54 = .ok (.getfield 171, 3) := by decide +kernel
theorem dX9_box_57 : decode cX9_box 57 = .ok (.invokevirtual 175, 3) := by decide +kernel
theorem dX9_box_60 : decode cX9_box 60 = .ok (.ireturn, 1) := by decide +kernel
theorem dX9_flood_0 : decode cX9_flood 0 = .ok (.aload_n 0, 1) := by decide +kernel
theorem dX9_flood_1 : decode cX9_flood 1 = .ok (.getfield 10, 3) := by decide +kernel
theorem dX9_flood_4 : decode cX9_flood 4 = .ok (.iload_n 1, 1) := by decide +kernel
theorem dX9_flood_5 : decode cX9_flood 5 = .ok (.invokevirtual 67, 3) := by decide +kernel
theorem dX9_flood_8 : decode cX9_flood 8 = .ok (.ifCond .eq 19, 3) := by decide +kernel
theorem dX9_flood_11 : decode cX9_flood 11 = .ok (.iload_n 2, 1) := by decide +kernel
theorem dX9_flood_12 : decode cX9_flood 12 = .ok (.iload_n 3, 1) := by decide +kernel
theorem dX9_flood_13 : decode cX9_flood 13 = .ok (.invokestatic 118, 3) := by decide +kernel
theorem dX9_flood_16 : decode cX9_flood 16 = .ok (.ifCond .eq 11, 3) := by decide +kernel
theorem dX9_flood_19 : decode cX9_flood 19 = .ok (.iload 4, 2) := by decide +kernel
theorem dX9_flood_21 : decode cX9_flood 21 = .ok (.invokestatic 107, 3) := by decide +kernel
theorem dX9_flood_24 : decode cX9_flood 24 = .ok (.ifCond .ne 6, 3) := by decide +kernel
theorem dX9_flood_27 : decode cX9_flood 27 = .ok (.bipush (-2), 2) := by decide +kernel
theorem dX9_flood_29 : decode cX9_flood 29 = .ok (.ireturn, 1) := by decide +kernel
theorem dX9_flood_30 : decode cX9_flood 30 = .ok (.aload_n 0, 1) := by decide +kernel
theorem dX9_flood_31 : decode cX9_flood 31 = .ok (.getfield 40, 3) := by decide +kernel
theorem dX9_flood_34 : decode cX9_flood 34 = .ok (.aload_n 0, 1) := by decide +kernel
theorem dX9_flood_35 : decode cX9_flood 35 = .ok (.getfield 10, 3) := by decide +kernel
theorem dX9_flood_38 : decode cX9_flood 38 = .ok (.getfield 83, 3) := by decide +kernel
theorem dX9_flood_41 : decode cX9_flood 41 = .ok (.iload_n 1, 1) := by decide +kernel
theorem dX9_flood_42 : decode cX9_flood 42 = .ok (.aaload, 1) := by decide +kernel
theorem dX9_flood_43 : decode cX9_flood 43 = .ok (.iload_n 2, 1) := by decide +kernel
theorem dX9_flood_44 : decode cX9_flood 44 = .ok (.iload_n 3, 1) := by decide +kernel
theorem dX9_flood_45 : decode cX9_flood 45 = .ok (.invokestatic 121, 3) := by decide +kernel
theorem dX9_flood_48 : decode cX9_flood 48 = .ok (.iload 4, 2) := by decide +kernel
theorem dX9_flood_50 : decode cX9_flood 50 = .ok (.invokevirtual 179, 3) := by decide +kernel
theorem dX9_flood_53 : decode cX9_flood 53 = .ok (.aload_n 0, 1) := by decide +kernel
theorem dX9_flood_54 : decode cX9_flood 54 = .ok (.getfield 10, 3) := by decide +kernel
theorem dX9_flood_57 : decode cX9_flood 57 = .ok (.iload_n 1, 1) := by decide +kernel
theorem dX9_flood_58 : decode cX9_flood 58 = .ok (.aload_n 0, 1) := by decide +kernel
theorem dX9_flood_59 : decode cX9_flood 59 = .ok (.getfield 40, 3) := by decide +kernel
theorem dX9_flood_62 : decode cX9_flood 62 = .ok (.getfield 171, 3) := by decide +kernel
theorem dX9_flood_65 : decode cX9_flood 65 = .ok (.invokevirtual 175, 3) := by decide +kernel
theorem dX9_flood_68 : decode cX9_flood 68 = .ok (.ireturn, 1) := by decide +kernel
theorem dX9_undo_0 : decode cX9_undo 0 = .ok (.iload_n 1, 1) := by decide +kernel
theorem dX9_undo_1 : decode cX9_undo 1 = .ok (.lookupswitch 63 #[(0, 27), (1, 45)], 27) := by decide +kernel
theorem dX9_undo_28 : decode cX9_undo 28 = .ok (.aload_n 0, 1) := by decide +kernel
theorem dX9_undo_29 : decode cX9_undo 29 = .ok (.getfield 10, 3) := by decide +kernel
theorem dX9_undo_32 : decode cX9_undo 32 = .ok (.getfield 183, 3) := by decide +kernel
theorem dX9_undo_35 : decode cX9_undo 35 = .ok (.aload_n 0, 1) := by decide +kernel
theorem dX9_undo_36 : decode cX9_undo 36 = .ok (.getfield 10, 3) := by decide +kernel
theorem dX9_undo_39 : decode cX9_undo 39 = .ok (.getfield 83, 3) := by decide +kernel
theorem dX9_undo_42 : decode cX9_undo 42 = .ok (.invokevirtual 187, 3) := by decide +kernel
theorem dX9_undo_45 : decode cX9_undo 45 = .ok (.ireturn, 1) := by decide +kernel
theorem dX9_undo_46 : decode cX9_undo 46 = .ok (.aload_n 0, 1) := by decide +kernel
theorem dX9_undo_47 : decode cX9_undo 47 = .ok (.getfield 10, 3) := by decide +kernel
theorem dX9_undo_50 : decode cX9_undo 50 = .ok (.getfield 183, 3) := by decide +kernel
theorem dX9_undo_53 : decode cX9_undo 53 = .ok (.aload_n 0, 1) := by decide +kernel
theorem dX9_undo_54 : decode cX9_undo 54 = .ok (.getfield 10, 3) := by decide +kernel
theorem dX9_undo_57 : decode cX9_undo 57 = .ok (.getfield 83, 3) := by decide +kernel
theorem dX9_undo_60 : decode cX9_undo 60 = .ok (.invokevirtual 193, 3) := by decide +kernel
theorem dX9_undo_63 : decode cX9_undo 63 = .ok (.ireturn, 1) := by decide +kernel
theorem dX9_undo_64 : decode cX9_undo 64 = .ok (.bipush (-2), 2) := by decide +kernel
theorem dX9_undo_66 : decode cX9_undo 66 = .ok (.ireturn, 1) := by decide +kernel
theorem dX9_mask_0 : decode cX9_mask 0 = .ok (.iload_n 1, 1) := by decide +kernel
theorem dX9_mask_1 : decode cX9_mask 1 = .ok (.iload_n 2, 1) := by decide +kernel
theorem dX9_mask_2 : decode cX9_mask 2 = .ok (.invokestatic 118, 3) := by decide +kernel
theorem dX9_mask_5 : decode cX9_mask 5 = .ok (.ifCond .eq 22, 3) := by decide +kernel
theorem dX9_mask_8 : decode cX9_mask 8 = .ok (.iload_n 3, 1) := by decide +kernel
theorem dX9_mask_9 : decode cX9_mask 9 = .ok (.iload 4, 2) := by decide +kernel
theorem dX9_mask_11 : decode cX9_mask 11 = .ok (.invokestatic 118, 3) := by decide +kernel
theorem dX9_mask_14 : decode cX9_mask 14 = .ok (.ifCond .eq 13, 3) := by decide +kernel
theorem dX9_mask_17 : decode cX9_mask 17 = .ok (.iload 5, 2) := by decide +kernel
theorem dX9_mask_19 : decode cX9_mask 19 = .ok (.iconst 0, 1) := by decide +kernel
theorem dX9_mask_20 : decode cX9_mask 20 = .ok (.iconst 3, 1) := by decide +kernel
theorem dX9_mask_21 : decode cX9_mask 21 = .ok (.invokestatic 104, 3) := by decide +kernel
theorem dX9_mask_24 : decode cX9_mask 24 = .ok (.ifCond .ne 6, 3) := by decide +kernel
theorem dX9_mask_27 : decode cX9_mask 27 = .ok (.bipush (-2), 2) := by decide +kernel
theorem dX9_mask_29 : decode cX9_mask 29 = .ok (.ireturn, 1) := by decide +kernel
theorem dX9_mask_30 : decode cX9_mask 30 = .ok (.aload_n 0, 1) := by decide +kernel
theorem dX9_mask_31 : decode cX9_mask 31 = .ok (.getfield 40, 3) := by decide +kernel
theorem dX9_mask_34 : decode cX9_mask 34 = .ok (.iload_n 1, 1) := by decide +kernel
theorem dX9_mask_35 : decode cX9_mask 35 = .ok (.iload_n 2, 1) := by decide +kernel
theorem dX9_mask_36 : decode cX9_mask 36 = .ok (.iload_n 3, 1) := by decide +kernel
theorem dX9_mask_37 : decode cX9_mask 37 = .ok (.iload 4, 2) := by decide +kernel
theorem dX9_mask_39 : decode cX9_mask 39 = .ok (.invokevirtual 168, 3) := by decide +kernel
theorem dX9_mask_42 : decode cX9_mask 42 = .ok (.aload_n 0, 1) := by decide +kernel
theorem dX9_mask_43 : decode cX9_mask 43 = .ok (.getfield 10, 3) := by decide +kernel
theorem dX9_mask_46 : decode cX9_mask 46 = .ok (.getfield 196, 3) := by decide +kernel
theorem dX9_mask_49 : decode cX9_mask 49 = .ok (.aload_n 0, 1) := by decide +kernel
theorem dX9_mask_50 : decode cX9_mask 50 = .ok (.getfield 40, 3) := by decide +kernel
theorem dX9_mask_53 : decode cX9_mask 53 = .ok (.getfield 171, 3) := by decide +kernel
theorem dX9_mask_56 : decode cX9_mask 56 = .ok (.iload 5, 2) := by decide +kernel
theorem dX9_mask_58 : decode cX9_mask 58 = .ok (.invokevirtual 200, 3) := by decide +kernel
theorem dX9_mask_61 : decode cX9_mask 61 = .ok (.aload_n 0, 1) := by decide +kernel
theorem dX9_mask_62 : decode cX9_mask 62 = .ok (.getfield 10, 3) := by decide +kernel
theorem dX9_mask_65 : decode cX9_mask 65 = .ok (.getfield 196, 3) := by decide +kernel
theorem dX9_mask_68 : decode cX9_mask 68 = .ok (.getfield 206, 3) := by decide +kernel
theorem dX9_mask_71 : decode cX9_mask 71 = .ok (.ireturn, 1) := by decide +kernel
theorem dX9_wand_0 : decode cX9_wand 0 = .ok (.aload_n 0, 1) := by decide +kernel
theorem dX9_wand_1 : decode cX9_wand 1 = .ok (.getfield 10, 3) := by decide +kernel
theorem dX9_wand_4 : decode cX9_wand 4 = .ok (.iload_n 1, 1) := by decide +kernel
theorem dX9_wand_5 : decode cX9_wand 5 = .ok (.invokevirtual 67, 3) := by decide +kernel
theorem dX9_wand_8 : decode cX9_wand 8 = .ok (.ifCond .eq 29, 3) := by decide +kernel
theorem dX9_wand_11 : decode cX9_wand 11 = .ok (.iload_n 2, 1) := by decide +kernel
theorem dX9_wand_12 : decode cX9_wand 12 = .ok (.iload_n 3, 1) := by decide +kernel
theorem dX9_wand_13 : decode cX9_wand 13 = .ok (.invokestatic 118, 3) := by decide +kernel
theorem dX9_wand_16 : decode cX9_wand 16 = .ok (.ifCond .eq 21, 3) := by decide +kernel
theorem dX9_wand_19 : decode cX9_wand 19 = .ok (.iload 4, 2) := by decide +kernel
theorem dX9_wand_21 : decode cX9_wand 21 = .ok (.invokestatic 107, 3) := by decide +kernel
theorem dX9_wand_24 : decode cX9_wand 24 = .ok (.ifCond .eq 13, 3) := by decide +kernel
theorem dX9_wand_27 : decode cX9_wand 27 = .ok (.iload 5, 2) := by decide +kernel
theorem dX9_wand_29 : decode cX9_wand 29 = .ok (.iconst 0, 1) := by decide +kernel
theorem dX9_wand_30 : decode cX9_wand 30 = .ok (.iconst 3, 1) := by decide +kernel
theorem dX9_wand_31 : decode cX9_wand 31 = .ok (.invokestatic 104, 3) := by decide +kernel
theorem dX9_wand_34 : decode cX9_wand 34 = .ok (.ifCond .ne 6, 3) := by decide +kernel
theorem dX9_wand_37 : decode cX9_wand 37 = .ok (.bipush (-2), 2) := by decide +kernel
theorem dX9_wand_39 : decode cX9_wand 39 = .ok (.ireturn, 1) := by decide +kernel
theorem dX9_wand_40 : decode cX9_wand 40 = .ok (.aload_n 0, 1) := by decide +kernel
theorem dX9_wand_41 : decode cX9_wand 41 = .ok (.getfield 40, 3) := by decide +kernel
theorem dX9_wand_44 : decode cX9_wand 44 = .ok (.aload_n 0, 1) := by decide +kernel
theorem dX9_wand_45 : decode cX9_wand 45 = .ok (.getfield 10, 3) := by decide +kernel
theorem dX9_wand_48 : decode cX9_wand 48 = .ok (.getfield 83, 3) := by decide +kernel
theorem dX9_wand_51 : decode cX9_wand 51 = .ok (.iload_n 1, 1) := by decide +kernel
theorem dX9_wand_52 : decode cX9_wand 52 = .ok (.aaload, 1) := by decide +kernel
theorem dX9_wand_53 : decode cX9_wand 53 = .ok (.iload_n 2, 1) := by decide +kernel
theorem dX9_wand_54 : decode cX9_wand 54 = .ok (.iload_n 3, 1) := by decide +kernel
theorem dX9_wand_55 : decode cX9_wand 55 = .ok (.invokestatic 121, 3) := by decide +kernel
theorem dX9_wand_58 : decode cX9_wand 58 = .ok (.iload 4, 2) := by decide +kernel
theorem dX9_wand_60 : decode cX9_wand 60 = .ok (.invokevirtual 179, 3) := by decide +kernel
theorem dX9_wand_63 : decode cX9_wand 63 = .ok (.aload_n 0, 1) := by decide +kernel
theorem dX9_wand_64 : decode cX9_wand 64 = .ok (.getfield 10, 3) := by decide +kernel
theorem dX9_wand_67 : decode cX9_wand 67 = .ok (.getfield 196, 3) := by decide +kernel
theorem dX9_wand_70 : decode cX9_wand 70 = .ok (.aload_n 0, 1) := by decide +kernel
theorem dX9_wand_71 : decode cX9_wand 71 = .ok (.getfield 40, 3) := by decide +kernel
theorem dX9_wand_74 : decode cX9_wand 74 = .ok (.getfield 171, 3) := by decide +kernel
theorem dX9_wand_77 : decode cX9_wand 77 = .ok (.iload 5, 2) := by decide +kernel
theorem dX9_wand_79 : decode cX9_wand 79 = .ok (.invokevirtual 200, 3) := by decide +kernel
theorem dX9_wand_82 : decode cX9_wand 82 = .ok (.aload_n 0, 1) := by decide +kernel
theorem dX9_wand_83 : decode cX9_wand 83 = .ok (.getfield 10, 3) := by decide +kernel
theorem dX9_wand_86 : decode cX9_wand 86 = .ok (.getfield 196, 3) := by decide +kernel
theorem dX9_wand_89 : decode cX9_wand 89 = .ok (.getfield 206, 3) := by decide +kernel
theorem dX9_wand_92 : decode cX9_wand 92 = .ok (.ireturn, 1) := by decide +kernel
theorem dX9_grow_0 : decode cX9_grow 0 = .ok (.iload_n 1, 1) := by decide +kernel
theorem dX9_grow_1 : decode cX9_grow 1 = .ok (.tableswitch 142 0 2 #[27, 74, 121], 27) := by decide +kernel
theorem dX9_grow_28 : decode cX9_grow 28 = .ok (.aload_n 0, 1) := by decide +kernel
theorem dX9_grow_29 : decode cX9_grow 29 = .ok (.getfield 40, 3) := by decide +kernel
theorem dX9_grow_32 : decode cX9_grow 32 = .ok (.aload_n 0, 1) := by decide +kernel
theorem dX9_grow_33 : decode cX9_grow 33 = .ok (.getfield 10, 3) := by decide +kernel
theorem dX9_grow_36 : decode cX9_grow 36 = .ok (.getfield 196, 3) := by decide +kernel
theorem dX9_grow_39 : decode cX9_grow 39 = .ok (.getfield 207, 3) := by decide +kernel
theorem dX9_grow_42 : decode cX9_grow 42 = .ok (.iconst 1, 1) := by decide +kernel
theorem dX9_grow_43 : decode cX9_grow 43 = .ok (.invokevirtual 210, 3) := by decide +kernel
theorem dX9_grow_46 : decode cX9_grow 46 = .ok (.aload_n 0, 1) := by decide +kernel
theorem dX9_grow_47 : decode cX9_grow 47 = .ok (.getfield 10, 3) := by decide +kernel
theorem dX9_grow_50 : decode cX9_grow 50 = .ok (.getfield 196, 3) := by decide +kernel
theorem dX9_grow_53 : decode cX9_grow 53 = .ok (.aload_n 0, 1) := by decide +kernel
theorem dX9_grow_54 : decode cX9_grow 54 = .ok (.getfield 40, 3) := by decide +kernel
theorem dX9_grow_57 : decode cX9_grow 57 = .ok (.getfield 171, 3) := by decide +kernel
theorem dX9_grow_60 : decode cX9_grow 60 = .ok (.iconst 1, 1) := by decide +kernel
theorem dX9_grow_61 : decode cX9_grow 61 = .ok (.invokevirtual 200, 3) := by decide +kernel
theorem dX9_grow_64 : decode cX9_grow 64 = .ok (.aload_n 0, 1) := by decide +kernel
theorem dX9_grow_65 : decode cX9_grow 65 = .ok (.getfield 10, 3) := by decide +kernel
theorem dX9_grow_68 : decode cX9_grow 68 = .ok (.getfield 196, 3) := by decide +kernel
theorem dX9_grow_71 : decode cX9_grow 71 = .ok (.getfield 206, 3) := by decide +kernel
theorem dX9_grow_74 : decode cX9_grow 74 = .ok (.ireturn, 1) := by decide +kernel
theorem dX9_grow_75 : decode cX9_grow 75 = .ok (.aload_n 0, 1) := by decide +kernel
theorem dX9_grow_76 : decode cX9_grow 76 = .ok (.getfield 40, 3) := by decide +kernel
theorem dX9_grow_79 : decode cX9_grow 79 = .ok (.aload_n 0, 1) := by decide +kernel
theorem dX9_grow_80 : decode cX9_grow 80 = .ok (.getfield 10, 3) := by decide +kernel
theorem dX9_grow_83 : decode cX9_grow 83 = .ok (.getfield 196, 3) := by decide +kernel
theorem dX9_grow_86 : decode cX9_grow 86 = .ok (.getfield 207, 3) := by decide +kernel
theorem dX9_grow_89 : decode cX9_grow 89 = .ok (.iconst 0, 1) := by decide +kernel
theorem dX9_grow_90 : decode cX9_grow 90 = .ok (.invokevirtual 210, 3) := by decide +kernel
theorem dX9_grow_93 : decode cX9_grow 93 = .ok (.aload_n 0, 1) := by decide +kernel
theorem dX9_grow_94 : decode cX9_grow 94 = .ok (.getfield 10, 3) := by decide +kernel
theorem dX9_grow_97 : decode cX9_grow 97 = .ok (.getfield 196, 3) := by decide +kernel
theorem dX9_grow_100 : decode cX9_grow 100 = .ok (.aload_n 0, 1) := by decide +kernel
theorem dX9_grow_101 : decode cX9_grow 101 = .ok (.getfield 40, 3) := by decide +kernel
theorem dX9_grow_104 : decode cX9_grow 104 = .ok (.getfield 171, 3) := by decide +kernel
theorem dX9_grow_107 : decode cX9_grow 107 = .ok (.iconst 2, 1) := by decide +kernel
theorem dX9_grow_108 : decode cX9_grow 108 = .ok (.invokevirtual 200, 3) := by decide +kernel
theorem dX9_grow_111 : decode cX9_grow 111 = .ok (.aload_n 0, 1) := by decide +kernel
theorem dX9_grow_112 : decode cX9_grow 112 = .ok (.getfield 10, 3) := by decide +kernel
theorem dX9_grow_115 : decode cX9_grow 115 = .ok (.getfield 196, 3) := by decide +kernel
theorem dX9_grow_118 : decode cX9_grow 118 = .ok (.getfield 206, 3) := by decide +kernel
theorem dX9_grow_121 : decode cX9_grow 121 = .ok (.ireturn, 1) := by decide +kernel
theorem dX9_grow_122 : decode cX9_grow 122 = .ok (.aload_n 0, 1) := by decide +kernel
theorem dX9_grow_123 : decode cX9_grow 123 = .ok (.getfield 10, 3) := by decide +kernel
theorem dX9_grow_126 : decode cX9_grow 126 = .ok (.getfield 196, 3) := by decide +kernel
theorem dX9_grow_129 : decode cX9_grow 129 = .ok (.invokevirtual 214, 3) := by decide +kernel
theorem dX9_grow_132 : decode cX9_grow 132 = .ok (.aload_n 0, 1) := by decide +kernel
theorem dX9_grow_133 : decode cX9_grow 133 = .ok (.getfield 10, 3) := by decide +kernel
theorem dX9_grow_136 : decode cX9_grow 136 = .ok (.getfield 196, 3) := by decide +kernel
theorem dX9_grow_139 : decode cX9_grow 139 = .ok (.getfield 206, 3) := by decide +kernel
theorem dX9_grow_142 : decode cX9_grow 142 = .ok (.ireturn, 1) := by decide +kernel
theorem dX9_grow_143 : decode cX9_grow 143 = .ok (.bipush (-2), 2) := by decide +kernel
theorem dX9_grow_145 : decode cX9_grow 145 = .ok (.ireturn, 1) := by decide +kernel
theorem dX9_masked_0 : decode cX9_masked 0 = .ok (.iload_n 1, 1) := by decide +kernel
theorem dX9_masked_1 : decode cX9_masked 1 = .ok (.invokestatic 217, 3) := by decide +kernel
theorem dX9_masked_4 : decode cX9_masked 4 = .ok (.ifCond .eq 17, 3) := by decide +kernel
theorem dX9_masked_7 : decode cX9_masked 7 = .ok (.aload_n 0, 1) := by decide +kernel
theorem dX9_masked_8 : decode cX9_masked 8 = .ok (.getfield 10, 3) := by decide +kernel
theorem dX9_masked_11 : decode cX9_masked 11 = .ok (.getfield 196, 3) := by decide +kernel
theorem dX9_masked_14 : decode cX9_masked 14 = .ok (.iload_n 1, 1) := by decide +kernel
theorem dX9_masked_15 : decode cX9_masked 15 = .ok (.invokevirtual 220, 3) := by decide +kernel
theorem dX9_masked_18 : decode cX9_masked 18 = .ok (.goto 5, 3) := by decide +kernel
theorem dX9_masked_21 : decode cX9_masked 21 = .ok (.bipush (-2), 2) := by decide +kernel
theorem dX9_masked_23 : decode cX9_masked 23 = .ok (.ireturn, 1) := by decide +kernel
theorem dX9_dither_0 : decode cX9_dither 0 = .ok (.iload_n 1, 1) := by decide +kernel
theorem dX9_dither_1 : decode cX9_dither 1 = .ok (.iconst 0, 1) := by decide +kernel
theorem dX9_dither_2 : decode cX9_dither 2 = .ok (.iconst 1, 1) := by decide +kernel
theorem dX9_dither_3 : decode cX9_dither 3 = .ok (.invokestatic 104, 3) := by decide +kernel
theorem dX9_dither_6 : decode cX9_dither 6 = .ok (.ifCond .eq 10, 3) := by decide +kernel
theorem dX9_dither_9 : decode cX9_dither 9 = .ok (.iload_n 2, 1) := by decide +kernel
theorem dX9_dither_10 : decode cX9_dither 10 = .ok (.invokestatic 217, 3) := by decide +kernel
theorem dX9_dither_13 : decode cX9_dither 13 = .ok (.ifCond .ne 6, 3) := by decide +kernel
theorem dX9_dither_16 : decode cX9_dither 16 = .ok (.bipush (-2), 2) := by decide +kernel
theorem dX9_dither_18 : decode cX9_dither 18 = .ok (.ireturn, 1) := by decide +kernel
theorem dX9_dither_19 : decode cX9_dither 19 = .ok (.iload_n 1, 1) := by decide +kernel
theorem dX9_dither_20 : decode cX9_dither 20 = .ok (.ifCond .ne 11, 3) := by decide +kernel
theorem dX9_dither_23 : decode cX9_dither 23 = .ok (.aload_n 0, 1) := by decide +kernel
theorem dX9_dither_24 : decode cX9_dither 24 = .ok (.iload_n 2, 1) := by decide +kernel
theorem dX9_dither_25 : decode cX9_dither 25 = .ok (.invokevirtual 223, 3) := by decide +kernel
theorem dX9_dither_28 : decode cX9_dither 28 = .ok (.goto 8, 3) := by decide +kernel
theorem dX9_dither_31 : decode cX9_dither 31 = .ok (.aload_n 0, 1) := by decide +kernel
theorem dX9_dither_32 : decode cX9_dither 32 = .ok (.iload_n 2, 1) := by decide +kernel
theorem dX9_dither_33 : decode cX9_dither 33 = .ok (.invokevirtual 226, 3) := by decide +kernel
theorem dX9_dither_36 : decode cX9_dither 36 = .ok (.ireturn, 1) := by decide +kernel
theorem dX9_areas_0 : decode cX9_areas 0 = .ok (.iload_n 1, 1) := by decide +kernel
theorem dX9_areas_1 : decode cX9_areas 1 = .ok (.iconst 0, 1) := by decide +kernel
theorem dX9_areas_2 : decode cX9_areas 2 = .ok (.iconst 2, 1) := by decide +kernel
theorem dX9_areas_3 : decode cX9_areas 3 = .ok (.invokestatic 104, 3) := by decide +kernel
theorem dX9_areas_6 : decode cX9_areas 6 = .ok (.ifCond .ne 6, 3) := by decide +kernel
theorem dX9_areas_9 : decode cX9_areas 9 = .ok (.bipush (-2), 2) := by decide +kernel
theorem dX9_areas_11 : decode cX9_areas 11 = .ok (.ireturn, 1) := by decide +kernel
theorem dX9_areas_12 : decode cX9_areas 12 = .ok (.iconst 0, 1) := by decide +kernel
theorem dX9_areas_13 : decode cX9_areas 13 = .ok (.istore_n 2, 1) := by decide +kernel
theorem dX9_areas_14 : decode cX9_areas 14 = .ok (.iload_n 2, 1) := by decide +kernel
theorem dX9_areas_15 : decode cX9_areas 15 = .ok (.sipush 192, 3) := by decide +kernel
theorem dX9_areas_18 : decode cX9_areas 18 = .ok (.if_icmp .ge 23, 3) := by decide +kernel
theorem dX9_areas_21 : decode cX9_areas 21 = .ok (.aload_n 0, 1) := by decide +kernel
theorem dX9_areas_22 : decode cX9_areas 22 = .ok (.getfield 40, 3) := by decide +kernel
theorem dX9_areas_25 : decode cX9_areas 25 = .ok (.getfield 229, 3) := by decide +kernel
theorem dX9_areas_28 : decode cX9_areas 28 = .ok (.iload_n 2, 1) := by decide +kernel
theorem dX9_areas_29 : decode cX9_areas 29 = .ok (.aload_n 0, 1) := by decide +kernel
theorem dX9_areas_30 : decode cX9_areas 30 = .ok (.iload_n 2, 1) := by decide +kernel
theorem dX9_areas_31 : decode cX9_areas 31 = .ok (.invokevirtual 124, 3) := by decide +kernel
theorem dX9_areas_34 : decode cX9_areas 34 = .ok (.iastore, 1) := by decide +kernel
theorem dX9_areas_35 : decode cX9_areas 35 = .ok (.iinc 2 1, 3) := by decide +kernel
theorem dX9_areas_38 : decode cX9_areas 38 = .ok (.goto (-24), 3) := by decide +kernel
theorem dX9_areas_41 : decode cX9_areas 41 = .ok (.aload_n 0, 1) := by decide +kernel
theorem dX9_areas_42 : decode cX9_areas 42 = .ok (.getfield 40, 3) := by decide +kernel
theorem dX9_areas_45 : decode cX9_areas 45 = .ok (.invokevirtual 232, 3) := by decide +kernel
theorem dX9_areas_48 : decode cX9_areas 48 = .ok (.iconst 0, 1) := by decide +kernel
theorem dX9_areas_49 : decode cX9_areas 49 = .ok (.istore_n 2, 1) := by decide +kernel
theorem dX9_areas_50 : decode cX9_areas 50 = .ok (.iconst 0, 1) := by decide +kernel
theorem dX9_areas_51 : decode cX9_areas 51 = .ok (.istore_n 3, 1) := by decide +kernel
theorem dX9_areas_52 : decode cX9_areas 52 = .ok (.iconst 0, 1) := by decide +kernel
theorem dX9_areas_53 : decode cX9_areas 53 = .ok (.istore 4, 2) := by decide +kernel
theorem dX9_areas_55 : decode cX9_areas 55 = .ok (.iconst 0, 1) := by decide +kernel
theorem dX9_areas_56 : decode cX9_areas 56 = .ok (.istore 5, 2) := by decide +kernel
theorem dX9_areas_58 : decode cX9_areas 58 = .ok (.iload 5, 2) := by decide +kernel
theorem dX9_areas_60 : decode cX9_areas 60 = .ok (.sipush 192, 3) := by decide +kernel
theorem dX9_areas_63 : decode cX9_areas 63 = .ok (.if_icmp .ge 57, 3) := by decide +kernel
theorem dX9_areas_66 : decode cX9_areas 66 = .ok (.aload_n 0, 1) := by decide +kernel
theorem dX9_areas_67 : decode cX9_areas 67 = .ok (.getfield 40, 3) := by decide +kernel
theorem dX9_areas_70 : decode cX9_areas 70 = .ok (.getfield 171, 3) := by decide +kernel
theorem dX9_areas_73 : decode cX9_areas 73 = .ok (.iload 5, 2) := by decide +kernel
theorem dX9_areas_75 : decode cX9_areas 75 = .ok (.baload, 1) := by decide +kernel
theorem dX9_areas_76 : decode cX9_areas 76 = .ok (.ifCond .ne 38, 3) := by decide +kernel
theorem dX9_areas_79 : decode cX9_areas 79 = .ok (.aload_n 0, 1) := by decide +kernel
theorem dX9_areas_80 : decode cX9_areas 80 = .ok (.getfield 40, 3) := by decide +kernel
theorem dX9_areas_83 : decode cX9_areas 83 = .ok (.iload 5, 2) := by decide +kernel
