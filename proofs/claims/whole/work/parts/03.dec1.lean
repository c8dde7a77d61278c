theorem dX0_init_0 : decode cX0_init 0 = .ok (.aload_n 0, 1) := by decide +kernel
theorem dX0_init_1 : decode cX0_init 1 = .ok (.invokespecial 3, 3) := by decide +kernel
theorem dX0_init_4 : decode cX0_init 4 = .ok (.aload_n 0, 1) := by decide +kernel
theorem dX0_init_5 : decode cX0_init 5 = .ok (.bipush 8, 2) := by decide +kernel
theorem dX0_init_7 : decode cX0_init 7 = .ok (.newarray .int, 2) := by decide +kernel
theorem dX0_init_9 : decode cX0_init 9 = .ok (.putfield 9, 3) := by decide +kernel
theorem dX0_init_12 : decode cX0_init 12 = .ok (.aload_n 0, 1) := by decide +kernel
theorem dX0_init_13 : decode cX0_init 13 = .ok (.bipush 8, 2) := by decide +kernel
theorem dX0_init_15 : decode cX0_init 15 = .ok (.newarray .boolean, 2) := by decide +kernel
theorem dX0_init_17 : decode cX0_init 17 = .ok (.putfield 15, 3) := by decide +kernel
theorem dX0_init_20 : decode cX0_init 20 = .ok (.aload_n 0, 1) := by decide +kernel
theorem dX0_init_21 : decode cX0_init 21 = .ok (.bipush 8, 2) := by decide +kernel
theorem dX0_init_23 : decode cX0_init 23 = .ok (.newarray .boolean, 2) := by decide +kernel
theorem dX0_init_25 : decode cX0_init 25 = .ok (.putfield 19, 3) := by decide +kernel
theorem dX0_init_28 : decode cX0_init 28 = .ok (.aload_n 0, 1) := by decide +kernel
theorem dX0_init_29 : decode cX0_init 29 = .ok (.iconst 4, 1) := by decide +kernel
theorem dX0_init_30 : decode cX0_init 30 = .ok (.newarray .int, 2) := by decide +kernel
theorem dX0_init_32 : decode cX0_init 32 = .ok (.putfield 22, 3) := by decide +kernel
theorem dX0_init_35 : decode cX0_init 35 = .ok (.aload_n 0, 1) := by decide +kernel
theorem dX0_init_36 : decode cX0_init 36 = .ok (.iconst 4, 1) := by decide +kernel
theorem dX0_init_37 : decode cX0_init 37 = .ok (.newarray .int, 2) := by decide +kernel
theorem dX0_init_39 : decode cX0_init 39 = .ok (.putfield 25, 3) := by decide +kernel
theorem dX0_init_42 : decode cX0_init 42 = .ok (.aload_n 0, 1) := by decide +kernel
theorem dX0_init_43 : decode cX0_init 43 = .ok (.bipush 24, 2) := by decide +kernel
theorem dX0_init_45 : decode cX0_init 45 = .ok (.newarray .boolean, 2) := by decide +kernel
theorem dX0_init_47 : decode cX0_init 47 = .ok (.putfield 28, 3) := by decide +kernel
theorem dX0_init_50 : decode cX0_init 50 = .ok (.return_, 1) := by decide +kernel
theorem dX0_vanish_0 : decode cX0_vanish 0 = .ok (.aload_n 0, 1) := by decide +kernel
theorem dX0_vanish_1 : decode cX0_vanish 1 = .ok (.iconst 0, 1) := by decide +kernel
theorem dX0_vanish_2 : decode cX0_vanish 2 = .ok (.putfield 31, 3) := by decide +kernel
theorem dX0_vanish_5 : decode cX0_vanish 5 = .ok (.aload_n 0, 1) := by decide +kernel
theorem dX0_vanish_6 : decode cX0_vanish 6 = .ok (.iconst 0, 1) := by decide +kernel
theorem dX0_vanish_7 : decode cX0_vanish 7 = .ok (.putfield 35, 3) := by decide +kernel
theorem dX0_vanish_10 : decode cX0_vanish 10 = .ok (.iconst 0, 1) := by decide +kernel
theorem dX0_vanish_11 : decode cX0_vanish 11 = .ok (.istore_n 1, 1) := by decide +kernel
theorem dX0_vanish_12 : decode cX0_vanish 12 = .ok (.iload_n 1, 1) := by decide +kernel
theorem dX0_vanish_13 : decode cX0_vanish 13 = .ok (.bipush 24, 2) := by decide +kernel
theorem dX0_vanish_15 : decode cX0_vanish 15 = .ok (.if_icmp .ge 16, 3) := by decide +kernel
theorem dX0_vanish_18 : decode cX0_vanish 18 = .ok (.aload_n 0, 1) := by decide +kernel
theorem dX0_vanish_19 : decode cX0_vanish 19 = .ok (.getfield 28, 3) := by decide +kernel
theorem dX0_vanish_22 : decode cX0_vanish 22 = .ok (.iload_n 1, 1) := by decide +kernel
theorem dX0_vanish_23 : decode cX0_vanish 23 = .ok (.iconst 0, 1) := by decide +kernel
theorem dX0_vanish_24 : decode cX0_vanish 24 = .ok (.bastore, 1) := by decide +kernel
theorem dX0_vanish_25 : decode cX0_vanish 25 = .ok (.iinc 1 1, 3) := by decide +kernel
theorem dX0_vanish_28 : decode cX0_vanish 28 = .ok (.goto (-16), 3) := by decide +kernel
theorem dX0_vanish_31 : decode cX0_vanish 31 = .ok (.return_, 1) := by decide +kernel
theorem dX0_become_0 : decode cX0_become 0 = .ok (.aload_n 0, 1) := by decide +kernel
theorem dX0_become_1 : decode cX0_become 1 = .ok (.aload_n 1, 1) := by decide +kernel
theorem dX0_become_2 : decode cX0_become 2 = .ok (.getfield 31, 3) := by decide +kernel
theorem dX0_become_5 : decode cX0_become 5 = .ok (.putfield 31, 3) := by decide +kernel
theorem dX0_become_8 : decode cX0_become 8 = .ok (.aload_n 0, 1) := by decide +kernel
theorem dX0_become_9 : decode cX0_become 9 = .ok (.aload_n 1, 1) := by decide +kernel
theorem dX0_become_10 : decode cX0_become 10 = .ok (.getfield 35, 3) := by decide +kernel
theorem dX0_become_13 : decode cX0_become 13 = .ok (.putfield 35, 3) := by decide +kernel
theorem dX0_become_16 : decode cX0_become 16 = .ok (.aload_n 1, 1) := by decide +kernel
theorem dX0_become_17 : decode cX0_become 17 = .ok (.getfield 9, 3) := by decide +kernel
theorem dX0_become_20 : decode cX0_become 20 = .ok (.iconst 0, 1) := by decide +kernel
theorem dX0_become_21 : decode cX0_become 21 = .ok (.aload_n 0, 1) := by decide +kernel
theorem dX0_become_22 : decode cX0_become 22 = .ok (.getfield 9, 3) := by decide +kernel
theorem dX0_become_25 : decode cX0_become 25 = .ok (.iconst 0, 1) := by decide +kernel
theorem dX0_become_26 : decode cX0_become 26 = .ok (.bipush 8, 2) := by decide +kernel
theorem dX0_become_28 : decode cX0_become 28 = .ok (.invokestatic 38, 3) := by decide +kernel
theorem dX0_become_31 : decode cX0_become 31 = .ok (.aload_n 1, 1) := by decide +kernel
theorem dX0_become_32 : decode cX0_become 32 = .ok (.getfield 22, 3) := by decide +kernel
theorem dX0_become_35 : decode cX0_become 35 = .ok (.iconst 0, 1) := by decide +kernel
theorem dX0_become_36 : decode cX0_become 36 = .ok (.aload_n 0, 1) := by decide +kernel
theorem dX0_become_37 : decode cX0_become 37 = .ok (.getfield 22, 3) := by decide +kernel
theorem dX0_become_40 : decode cX0_become 40 = .ok (.iconst 0, 1) := by decide +kernel
theorem dX0_become_41 : decode cX0_become 41 = .ok (.iconst 4, 1) := by decide +kernel
theorem dX0_become_42 : decode cX0_become 42 = .ok (.invokestatic 38, 3) := by decide +kernel
theorem dX0_become_45 : decode cX0_become 45 = .ok (.aload_n 1, 1) := by decide +kernel
theorem dX0_become_46 : decode cX0_become 46 = .ok (.getfield 25, 3) := by decide +kernel
theorem dX0_become_49 : decode cX0_become 49 = .ok (.iconst 0, 1) := by decide +kernel
theorem dX0_become_50 : decode cX0_become 50 = .ok (.aload_n 0, 1) := by decide +kernel
theorem dX0_become_51 : decode cX0_become 51 = .ok (.getfield 25, 3) := by decide +kernel
theorem dX0_become_54 : decode cX0_become 54 = .ok (.iconst 0, 1) := by decide +kernel
theorem dX0_become_55 : decode cX0_become 55 = .ok (.iconst 4, 1) := by decide +kernel
theorem dX0_become_56 : decode cX0_become 56 = .ok (.invokestatic 38, 3) := by decide +kernel
theorem dX0_become_59 : decode cX0_become 59 = .ok (.aload_n 1, 1) := by decide +kernel
theorem dX0_become_60 : decode cX0_become 60 = .ok (.getfield 15, 3) := by decide +kernel
theorem dX0_become_63 : decode cX0_become 63 = .ok (.aload_n 0, 1) := by decide +kernel
theorem dX0_become_64 : decode cX0_become 64 = .ok (.getfield 15, 3) := by decide +kernel
theorem dX0_become_67 : decode cX0_become 67 = .ok (.invokestatic 44, 3) := by decide +kernel
theorem dX0_become_70 : decode cX0_become 70 = .ok (.aload_n 1, 1) := by decide +kernel
theorem dX0_become_71 : decode cX0_become 71 = .ok (.getfield 19, 3) := by decide +kernel
theorem dX0_become_74 : decode cX0_become 74 = .ok (.aload_n 0, 1) := by decide +kernel
theorem dX0_become_75 : decode cX0_become 75 = .ok (.getfield 19, 3) := by decide +kernel
theorem dX0_become_78 : decode cX0_become 78 = .ok (.invokestatic 44, 3) := by decide +kernel
theorem dX0_become_81 : decode cX0_become 81 = .ok (.aload_n 1, 1) := by decide +kernel
theorem dX0_become_82 : decode cX0_become 82 = .ok (.getfield 28, 3) := by decide +kernel
theorem dX0_become_85 : decode cX0_become 85 = .ok (.aload_n 0, 1) := by decide +kernel
theorem dX0_become_86 : decode cX0_become 86 = .ok (.getfield 28, 3) := by decide +kernel
theorem dX0_become_89 : decode cX0_become 89 = .ok (.invokestatic 44, 3) := by decide +kernel
theorem dX0_become_92 : decode cX0_become 92 = .ok (.return_, 1) := by decide +kernel
theorem dX0_copy_0 : decode cX0_copy 0 = .ok (.iconst 0, 1) := by decide +kernel
theorem dX0_copy_1 : decode cX0_copy 1 = .ok (.istore_n 2, 1) := by decide +kernel
theorem dX0_copy_2 : decode cX0_copy 2 = .ok (.iload_n 2, 1) := by decide +kernel
theorem dX0_copy_3 : decode cX0_copy 3 = .ok (.aload_n 0, 1) := by decide +kernel
theorem dX0_copy_4 : decode cX0_copy 4 = .ok (.arraylength, 1) := by decide +kernel
theorem dX0_copy_5 : decode cX0_copy 5 = .ok (.if_icmp .ge 21, 3) := by decide +kernel
theorem dX0_copy_8 : decode cX0_copy 8 = .ok (.iload_n 2, 1) := by decide +kernel
theorem dX0_copy_9 : decode cX0_copy 9 = .ok (.aload_n 1, 1) := by decide +kernel
theorem dX0_copy_10 : decode cX0_copy 10 = .ok (.arraylength, 1) := by decide +kernel
theorem dX0_copy_11 : decode cX0_copy 11 = .ok (.if_icmp .ge 15, 3) := by decide +kernel
theorem dX0_copy_14 : decode cX0_copy 14 = .ok (.aload_n 1, 1) := by decide +kernel
theorem dX0_copy_15 : decode cX0_copy 15 = .ok (.iload_n 2, 1) := by decide +kernel
theorem dX0_copy_16 : decode cX0_copy 16 = .ok (.aload_n 0, 1) := by decide +kernel
theorem dX0_copy_17 : decode cX0_copy 17 = .ok (.iload_n 2, 1) := by decide +kernel
theorem dX0_copy_18 : decode cX0_copy 18 = .ok (.baload, 1) := by decide +kernel
theorem dX0_copy_19 : decode cX0_copy 19 = .ok (.bastore, 1) := by decide +kernel
theorem dX0_copy_20 : decode cX0_copy 20 = .ok (.iinc 2 1, 3) := by decide +kernel
theorem dX0_copy_23 : decode cX0_copy 23 = .ok (.goto (-21), 3) := by decide +kernel
theorem dX0_copy_26 : decode cX0_copy 26 = .ok (.return_, 1) := by decide +kernel
theorem dX0_addMan_0 : decode cX0_addMan 0 = .ok (.aload_n 0, 1) := by decide +kernel
theorem dX0_addMan_1 : decode cX0_addMan 1 = .ok (.getfield 31, 3) := by decide +kernel
theorem dX0_addMan_4 : decode cX0_addMan 4 = .ok (.istore 4, 2) := by decide +kernel
theorem dX0_addMan_6 : decode cX0_addMan 6 = .ok (.aload_n 0, 1) := by decide +kernel
theorem dX0_addMan_7 : decode cX0_addMan 7 = .ok (.getfield 9, 3) := by decide +kernel
theorem dX0_addMan_10 : decode cX0_addMan 10 = .ok (.iload 4, 2) := by decide +kernel
theorem dX0_addMan_12 : decode cX0_addMan 12 = .ok (.iload_n 1, 1) := by decide +kernel
theorem dX0_addMan_13 : decode cX0_addMan 13 = .ok (.iastore, 1) := by decide +kernel
theorem dX0_addMan_14 : decode cX0_addMan 14 = .ok (.aload_n 0, 1) := by decide +kernel
theorem dX0_addMan_15 : decode cX0_addMan 15 = .ok (.getfield 15, 3) := by decide +kernel
theorem dX0_addMan_18 : decode cX0_addMan 18 = .ok (.iload 4, 2) := by decide +kernel
theorem dX0_addMan_20 : decode cX0_addMan 20 = .ok (.iload_n 2, 1) := by decide +kernel
theorem dX0_addMan_21 : decode cX0_addMan 21 = .ok (.bastore, 1) := by decide +kernel
theorem dX0_addMan_22 : decode cX0_addMan 22 = .ok (.aload_n 0, 1) := by decide +kernel
theorem dX0_addMan_23 : decode cX0_addMan 23 = .ok (.getfield 19, 3) := by decide +kernel
theorem dX0_addMan_26 : decode cX0_addMan 26 = .ok (.iload 4, 2) := by decide +kernel
theorem dX0_addMan_28 : decode cX0_addMan 28 = .ok (.iload_n 3, 1) := by decide +kernel
theorem dX0_addMan_29 : decode cX0_addMan 29 = .ok (.bastore, 1) := by decide +kernel
theorem dX0_addMan_30 : decode cX0_addMan 30 = .ok (.aload_n 0, 1) := by decide +kernel
theorem dX0_addMan_31 : decode cX0_addMan 31 = .ok (.dup, 1) := by decide +kernel
theorem dX0_addMan_32 : decode cX0_addMan 32 = .ok (.getfield 31, 3) := by decide +kernel
theorem dX0_addMan_35 : decode cX0_addMan 35 = .ok (.iconst 1, 1) := by decide +kernel
theorem dX0_addMan_36 : decode cX0_addMan 36 = .ok (.iadd, 1) := by decide +kernel
theorem dX0_addMan_37 : decode cX0_addMan 37 = .ok (.putfield 31, 3) := by decide +kernel
theorem dX0_addMan_40 : decode cX0_addMan 40 = .ok (.iload 4, 2) := by decide +kernel
theorem dX0_addMan_42 : decode cX0_addMan 42 = .ok (.ireturn, 1) := by decide +kernel
theorem dX0_addLamp_0 : decode cX0_addLamp 0 = .ok (.aload_n 0, 1) := by decide +kernel
theorem dX0_addLamp_1 : decode cX0_addLamp 1 = .ok (.getfield 35, 3) := by decide +kernel
theorem dX0_addLamp_4 : decode cX0_addLamp 4 = .ok (.istore_n 3, 1) := by decide +kernel
theorem dX0_addLamp_5 : decode cX0_addLamp 5 = .ok (.aload_n 0, 1) := by decide +kernel
theorem dX0_addLamp_6 : decode cX0_addLamp 6 = .ok (.getfield 22, 3) := by decide +kernel
theorem dX0_addLamp_9 : decode cX0_addLamp 9 = .ok (.iload_n 3, 1) := by decide +kernel
theorem dX0_addLamp_10 : decode cX0_addLamp 10 = .ok (.iload_n 1, 1) := by decide +kernel
theorem dX0_addLamp_11 : decode cX0_addLamp 11 = .ok (.iastore, 1) := by decide +kernel
theorem dX0_addLamp_12 : decode cX0_addLamp 12 = .ok (.aload_n 0, 1) := by decide +kernel
theorem dX0_addLamp_13 : decode cX0_addLamp 13 = .ok (.getfield 25, 3) := by decide +kernel
theorem dX0_addLamp_16 : decode cX0_addLamp 16 = .ok (.iload_n 3, 1) := by decide +kernel
theorem dX0_addLamp_17 : decode cX0_addLamp 17 = .ok (.iload_n 2, 1) := by decide +kernel
theorem dX0_addLamp_18 : decode cX0_addLamp 18 = .ok (.iastore, 1) := by decide +kernel
theorem dX0_addLamp_19 : decode cX0_addLamp 19 = .ok (.aload_n 0, 1) := by decide +kernel
theorem dX0_addLamp_20 : decode cX0_addLamp 20 = .ok (.dup, 1) := by decide +kernel
theorem dX0_addLamp_21 : decode cX0_addLamp 21 = .ok (.getfield 35, 3) := by decide +kernel
theorem dX0_addLamp_24 : decode cX0_addLamp 24 = .ok (.iconst 1, 1) := by decide +kernel
theorem dX0_addLamp_25 : decode cX0_addLamp 25 = .ok (.iadd, 1) := by decide +kernel
theorem dX0_addLamp_26 : decode cX0_addLamp 26 = .ok (.putfield 35, 3) := by decide +kernel
theorem dX0_addLamp_29 : decode cX0_addLamp 29 = .ok (.iload_n 3, 1) := by decide +kernel
theorem dX0_addLamp_30 : decode cX0_addLamp 30 = .ok (.ireturn, 1) := by decide +kernel
theorem dX0_knowing_0 : decode cX0_knowing 0 = .ok (.iconst 0, 1) := by decide +kernel
theorem dX0_knowing_1 : decode cX0_knowing 1 = .ok (.istore_n 1, 1) := by decide +kernel
theorem dX0_knowing_2 : decode cX0_knowing 2 = .ok (.iconst 0, 1) := by decide +kernel
theorem dX0_knowing_3 : decode cX0_knowing 3 = .ok (.istore_n 2, 1) := by decide +kernel
theorem dX0_knowing_4 : decode cX0_knowing 4 = .ok (.iload_n 2, 1) := by decide +kernel
theorem dX0_knowing_5 : decode cX0_knowing 5 = .ok (.aload_n 0, 1) := by decide +kernel
theorem dX0_knowing_6 : decode cX0_knowing 6 = .ok (.getfield 31, 3) := by decide +kernel
theorem dX0_knowing_9 : decode cX0_knowing 9 = .ok (.if_icmp .ge 21, 3) := by decide +kernel
theorem dX0_knowing_12 : decode cX0_knowing 12 = .ok (.iload_n 1, 1) := by decide +kernel
theorem dX0_knowing_13 : decode cX0_knowing 13 = .ok (.aload_n 0, 1) := by decide +kernel
theorem dX0_knowing_14 : decode cX0_knowing 14 = .ok (.getfield 15, 3) := by decide +kernel
theorem dX0_knowing_17 : decode cX0_knowing 17 = .ok (.iload_n 2, 1) := by decide +kernel
theorem dX0_knowing_18 : decode cX0_knowing 18 = .ok (.baload, 1) := by decide +kernel
theorem dX0_knowing_19 : decode cX0_knowing 19 = .ok (.invokestatic 48, 3) := by decide +kernel
theorem dX0_knowing_22 : decode cX0_knowing 22 = .ok (.iadd, 1) := by decide +kernel
theorem dX0_knowing_23 : decode cX0_knowing 23 = .ok (.istore_n 1, 1) := by decide +kernel
theorem dX0_knowing_24 : decode cX0_knowing 24 = .ok (.iinc 2 1, 3) := by decide +kernel
theorem dX0_knowing_27 : decode cX0_knowing 27 = .ok (.goto (-23), 3) := by decide +kernel
theorem dX0_knowing_30 : decode cX0_knowing 30 = .ok (.iload_n 1, 1) := by decide +kernel
theorem dX0_knowing_31 : decode cX0_knowing 31 = .ok (.ireturn, 1) := by decide +kernel
theorem dX0_untoldPlaces_0 : decode cX0_untoldPlaces 0 = .ok (.iconst 0, 1) := by decide +kernel
theorem dX0_untoldPlaces_1 : decode cX0_untoldPlaces 1 = .ok (.istore_n 1, 1) := by decide +kernel
theorem dX0_untoldPlaces_2 : decode cX0_untoldPlaces 2 = .ok (.iconst 0, 1) := by decide +kernel
theorem dX0_untoldPlaces_3 : decode cX0_untoldPlaces 3 = .ok (.istore_n 2, 1) := by decide +kernel
theorem dX0_untoldPlaces_4 : decode cX0_untoldPlaces 4 = .ok (.iload_n 2, 1) := by decide +kernel
theorem dX0_untoldPlaces_5 : decode cX0_untoldPlaces 5 = .ok (.aload_n 0, 1) := by decide +kernel
theorem dX0_untoldPlaces_6 : decode cX0_untoldPlaces 6 = .ok (.getfield 31, 3) := by decide +kernel
theorem dX0_untoldPlaces_9 : decode cX0_untoldPlaces 9 = .ok (.if_icmp .ge 29, 3) := by decide +kernel
theorem dX0_untoldPlaces_12 : decode cX0_untoldPlaces 12 = .ok (.aload_n 0, 1) := by decide +kernel
theorem dX0_untoldPlaces_13 : decode cX0_untoldPlaces 13 = .ok (.getfield 15, 3) := by decide +kernel
theorem dX0_untoldPlaces_16 : decode cX0_untoldPlaces 16 = .ok (.iload_n 2, 1) := by decide +kernel
theorem dX0_untoldPlaces_17 : decode cX0_untoldPlaces 17 = .ok (.baload, 1) := by decide +kernel
theorem dX0_untoldPlaces_18 : decode cX0_untoldPlaces 18 = .ok (.ifCond .ne 14, 3) := by decide +kernel
theorem dX0_untoldPlaces_21 : decode cX0_untoldPlaces 21 = .ok (.iload_n 1, 1) := by decide +kernel
theorem dX0_untoldPlaces_22 : decode cX0_untoldPlaces 22 = .ok (.iconst 1, 1) := by decide +kernel
theorem dX0_untoldPlaces_23 : decode cX0_untoldPlaces 23 = .ok (.aload_n 0, 1) := by decide +kernel
theorem dX0_untoldPlaces_24 : decode cX0_untoldPlaces 24 = .ok (.getfield 9, 3) := by decide +kernel
theorem dX0_untoldPlaces_27 : decode cX0_untoldPlaces 27 = .ok (.iload_n 2, 1) := by decide +kernel
theorem dX0_untoldPlaces_28 : decode cX0_untoldPlaces 28 = .ok (.iaload, 1) := by decide +kernel
theorem dX0_untoldPlaces_29 : decode cX0_untoldPlaces 29 = .ok (.ishl, 1) := by decide +kernel
theorem dX0_untoldPlaces_30 : decode cX0_untoldPlaces 30 = .ok (.ior, 1) := by decide +kernel
theorem dX0_untoldPlaces_31 : decode cX0_untoldPlaces 31 = .ok (.istore_n 1, 1) := by decide +kernel
theorem dX0_untoldPlaces_32 : decode cX0_untoldPlaces 32 = .ok (.iinc 2 1, 3) := by decide +kernel
theorem dX0_untoldPlaces_35 : decode cX0_untoldPlaces 35 = .ok (.goto (-31), 3) := by decide +kernel
theorem dX0_untoldPlaces_38 : decode cX0_untoldPlaces 38 = .ok (.iload_n 1, 1) := by decide +kernel
theorem dX0_untoldPlaces_39 : decode cX0_untoldPlaces 39 = .ok (.ireturn, 1) := by decide +kernel
theorem dX0_someSlowAt_0 : decode cX0_someSlowAt 0 = .ok (.iconst 0, 1) := by decide +kernel
theorem dX0_someSlowAt_1 : decode cX0_someSlowAt 1 = .ok (.istore_n 2, 1) := by decide +kernel
theorem dX0_someSlowAt_2 : decode cX0_someSlowAt 2 = .ok (.iload_n 2, 1) := by decide +kernel
theorem dX0_someSlowAt_3 : decode cX0_someSlowAt 3 = .ok (.aload_n 0, 1) := by decide +kernel
theorem dX0_someSlowAt_4 : decode cX0_someSlowAt 4 = .ok (.getfield 31, 3) := by decide +kernel
theorem dX0_someSlowAt_7 : decode cX0_someSlowAt 7 = .ok (.if_icmp .ge 30, 3) := by decide +kernel
theorem dX0_someSlowAt_10 : decode cX0_someSlowAt 10 = .ok (.aload_n 0, 1) := by decide +kernel
theorem dX0_someSlowAt_11 : decode cX0_someSlowAt 11 = .ok (.getfield 9, 3) := by decide +kernel
theorem dX0_someSlowAt_14 : decode cX0_someSlowAt 14 = .ok (.iload_n 2, 1) := by decide +kernel
theorem dX0_someSlowAt_15 : decode cX0_someSlowAt 15 = .ok (.iaload, 1) := by decide +kernel
theorem dX0_someSlowAt_16 : decode cX0_someSlowAt 16 = .ok (.iload_n 1, 1) := by decide +kernel
theorem dX0_someSlowAt_17 : decode cX0_someSlowAt 17 = .ok (.if_icmp .ne 14, 3) := by decide +kernel
theorem dX0_someSlowAt_20 : decode cX0_someSlowAt 20 = .ok (.aload_n 0, 1) := by decide +kernel
theorem dX0_someSlowAt_21 : decode cX0_someSlowAt 21 = .ok (.getfield 19, 3) := by decide +kernel
theorem dX0_someSlowAt_24 : decode cX0_someSlowAt 24 = .ok (.iload_n 2, 1) := by decide +kernel
theorem dX0_someSlowAt_25 : decode cX0_someSlowAt 25 = .ok (.baload, 1) := by decide +kernel
theorem dX0_someSlowAt_26 : decode cX0_someSlowAt 26 = .ok (.ifCond .eq 5, 3) := by decide +kernel
theorem dX0_someSlowAt_29 : decode cX0_someSlowAt 29 = .ok (.iconst 1, 1) := by decide +kernel
theorem dX0_someSlowAt_30 : decode cX0_someSlowAt 30 = .ok (.ireturn, 1) := by decide +kernel
theorem dX0_someSlowAt_31 : decode cX0_someSlowAt 31 = .ok (.iinc 2 1, 3) := by decide +kernel
theorem dX0_someSlowAt_34 : decode cX0_someSlowAt 34 = .ok (.goto (-32), 3) := by decide +kernel
theorem dX0_someSlowAt_37 : decode cX0_someSlowAt 37 = .ok (.iconst 0, 1) := by decide +kernel
theorem dX0_someSlowAt_38 : decode cX0_someSlowAt 38 = .ok (.ireturn, 1) := by decide +kernel
theorem dX1_init_0 : decode cX1_init 0 = .ok (.aload_n 0, 1) := by decide +kernel
theorem dX1_init_1 : decode cX1_init 1 = .ok (.invokespecial 3, 3) := by decide +kernel
theorem dX1_init_4 : decode cX1_init 4 = .ok (.aload_n 0, 1) := by decide +kernel
theorem dX1_init_5 : decode cX1_init 5 = .ok (.bipush 8, 2) := by decide +kernel
theorem dX1_init_7 : decode cX1_init 7 = .ok (.newarray .int, 2) := by decide +kernel
theorem dX1_init_9 : decode cX1_init 9 = .ok (.putfield 9, 3) := by decide +kernel
theorem dX1_init_12 : decode cX1_init 12 = .ok (.aload_n 0, 1) := by decide +kernel
theorem dX1_init_13 : decode cX1_init 13 = .ok (.iconst (-1), 1) := by decide +kernel
theorem dX1_init_14 : decode cX1_init 14 = .ok (.putfield 15, 3) := by decide +kernel
theorem dX1_init_17 : decode cX1_init 17 = .ok (.aload_n 0, 1) := by decide +kernel
theorem dX1_init_18 : decode cX1_init 18 = .ok (.iconst (-1), 1) := by decide +kernel
theorem dX1_init_19 : decode cX1_init 19 = .ok (.putfield 19, 3) := by decide +kernel
theorem dX1_init_22 : decode cX1_init 22 = .ok (.aload_n 0, 1) := by decide +kernel
theorem dX1_init_23 : decode cX1_init 23 = .ok (.iconst (-1), 1) := by decide +kernel
theorem dX1_init_24 : decode cX1_init 24 = .ok (.putfield 22, 3) := by decide +kernel
theorem dX1_init_27 : decode cX1_init 27 = .ok (.aload_n 0, 1) := by decide +kernel
theorem dX1_init_28 : decode cX1_init 28 = .ok (.aload_n 1, 1) := by decide +kernel
theorem dX1_init_29 : decode cX1_init 29 = .ok (.putfield 25, 3) := by decide +kernel
theorem dX1_init_32 : decode cX1_init 32 = .ok (.aload_n 0, 1) := by decide +kernel
theorem dX1_init_33 : decode cX1_init 33 = .ok (.aload_n 2, 1) := by decide +kernel
theorem dX1_init_34 : decode cX1_init 34 = .ok (.putfield 29, 3) := by decide +kernel
theorem dX1_init_37 : decode cX1_init 37 = .ok (.aload_n 0, 1) := by decide +kernel
theorem dX1_init_38 : decode cX1_init 38 = .ok (.aload_n 3, 1) := by decide +kernel
theorem dX1_init_39 : decode cX1_init 39 = .ok (.putfield 33, 3) := by decide +kernel
theorem dX1_init_42 : decode cX1_init 42 = .ok (.return_, 1) := by decide +kernel
theorem dX1_noMark_0 : decode cX1_noMark 0 = .ok (.aload_n 0, 1) := by decide +kernel
theorem dX1_noMark_1 : decode cX1_noMark 1 = .ok (.iconst (-1), 1) := by decide +kernel
theorem dX1_noMark_2 : decode cX1_noMark 2 = .ok (.putfield 15, 3) := by decide +kernel
theorem dX1_noMark_5 : decode cX1_noMark 5 = .ok (.aload_n 0, 1) := by decide +kernel
theorem dX1_noMark_6 : decode cX1_noMark 6 = .ok (.iconst (-1), 1) := by decide +kernel
theorem dX1_noMark_7 : decode cX1_noMark 7 = .ok (.putfield 19, 3) := by decide +kernel
theorem dX1_noMark_10 : decode cX1_noMark 10 = .ok (.aload_n 0, 1) := by decide +kernel
theorem dX1_noMark_11 : decode cX1_noMark 11 = .ok (.iconst (-1), 1) := by decide +kernel
theorem dX1_noMark_12 : decode cX1_noMark 12 = .ok (.putfield 22, 3) := by decide +kernel
theorem dX1_noMark_15 : decode cX1_noMark 15 = .ok (.return_, 1) := by decide +kernel
theorem dX1_leaveMark_0 : decode cX1_leaveMark 0 = .ok (.aload_n 0, 1) := by decide +kernel
theorem dX1_leaveMark_1 : decode cX1_leaveMark 1 = .ok (.iload_n 1, 1) := by decide +kernel
theorem dX1_leaveMark_2 : decode cX1_leaveMark 2 = .ok (.putfield 15, 3) := by decide +kernel
theorem dX1_leaveMark_5 : decode cX1_leaveMark 5 = .ok (.aload_n 0, 1) := by decide +kernel
theorem dX1_leaveMark_6 : decode cX1_leaveMark 6 = .ok (.iload_n 2, 1) := by decide +kernel
theorem dX1_leaveMark_7 : decode cX1_leaveMark 7 = .ok (.putfield 19, 3) := by decide +kernel
theorem dX1_leaveMark_10 : decode cX1_leaveMark 10 = .ok (.aload_n 0, 1) := by decide +kernel
theorem dX1_leaveMark_11 : decode cX1_leaveMark 11 = .ok (.aload_n 0, 1) := by decide +kernel
theorem dX1_leaveMark_12 : decode cX1_leaveMark 12 = .ok (.getfield 29, 3) := by decide +kernel
theorem dX1_leaveMark_15 : decode cX1_leaveMark 15 = .ok (.getfield 37, 3) := by decide +kernel
theorem dX1_leaveMark_18 : decode cX1_leaveMark 18 = .ok (.iload_n 1, 1) := by decide +kernel
theorem dX1_leaveMark_19 : decode cX1_leaveMark 19 = .ok (.iaload, 1) := by decide +kernel
theorem dX1_leaveMark_20 : decode cX1_leaveMark 20 = .ok (.putfield 22, 3) := by decide +kernel
theorem dX1_leaveMark_23 : decode cX1_leaveMark 23 = .ok (.return_, 1) := by decide +kernel
theorem dX1_upFromAll_0 : decode cX1_upFromAll 0 = .ok (.iconst 0, 1) := by decide +kernel
theorem dX1_upFromAll_1 : decode cX1_upFromAll 1 = .ok (.istore_n 2, 1) := by decide +kernel
theorem dX1_upFromAll_2 : decode cX1_upFromAll 2 = .ok (.iconst 0, 1) := by decide +kernel
theorem dX1_upFromAll_3 : decode cX1_upFromAll 3 = .ok (.istore_n 3, 1) := by decide +kernel
theorem dX1_upFromAll_4 : decode cX1_upFromAll 4 = .ok (.iload_n 3, 1) := by decide +kernel
theorem dX1_upFromAll_5 : decode cX1_upFromAll 5 = .ok (.aload_n 0, 1) := by decide +kernel
theorem dX1_upFromAll_6 : decode cX1_upFromAll 6 = .ok (.getfield 25, 3) := by decide +kernel
theorem dX1_upFromAll_9 : decode cX1_upFromAll 9 = .ok (.getfield 42, 3) := by decide +kernel
theorem dX1_upFromAll_12 : decode cX1_upFromAll 12 = .ok (.if_icmp .ge 18, 3) := by decide +kernel
theorem dX1_upFromAll_15 : decode cX1_upFromAll 15 = .ok (.iload_n 2, 1) := by decide +kernel
theorem dX1_upFromAll_16 : decode cX1_upFromAll 16 = .ok (.aload_n 0, 1) := by decide +kernel
theorem dX1_upFromAll_17 : decode cX1_upFromAll 17 = .ok (.iload_n 3, 1) := by decide +kernel
theorem dX1_upFromAll_18 : decode cX1_upFromAll 18 = .ok (.iload_n 1, 1) := by decide +kernel
theorem dX1_upFromAll_19 : decode cX1_upFromAll 19 = .ok (.invokevirtual 47, 3) := by decide +kernel
theorem dX1_upFromAll_22 : decode cX1_upFromAll 22 = .ok (.iadd, 1) := by decide +kernel
theorem dX1_upFromAll_23 : decode cX1_upFromAll 23 = .ok (.istore_n 2, 1) := by decide +kernel
theorem dX1_upFromAll_24 : decode cX1_upFromAll 24 = .ok (.iinc 3 1, 3) := by decide +kernel
theorem dX1_upFromAll_27 : decode cX1_upFromAll 27 = .ok (.goto (-23), 3) := by decide +kernel
theorem dX1_upFromAll_30 : decode cX1_upFromAll 30 = .ok (.iload_n 2, 1) := by decide +kernel
theorem dX1_upFromAll_31 : decode cX1_upFromAll 31 = .ok (.ireturn, 1) := by decide +kernel
theorem dX1_upFrom_0 : decode cX1_upFrom 0 = .ok (.aload_n 0, 1) := by decide +kernel
theorem dX1_upFrom_1 : decode cX1_upFrom 1 = .ok (.iconst 0, 1) := by decide +kernel
theorem dX1_upFrom_2 : decode cX1_upFrom 2 = .ok (.putfield 51, 3) := by decide +kernel
theorem dX1_upFrom_5 : decode cX1_upFrom 5 = .ok (.aload_n 0, 1) := by decide +kernel
theorem dX1_upFrom_6 : decode cX1_upFrom 6 = .ok (.iload_n 1, 1) := by decide +kernel
theorem dX1_upFrom_7 : decode cX1_upFrom 7 = .ok (.iconst 0, 1) := by decide +kernel
theorem dX1_upFrom_8 : decode cX1_upFrom 8 = .ok (.invokevirtual 54, 3) := by decide +kernel
theorem dX1_upFrom_11 : decode cX1_upFrom 11 = .ok (.aload_n 0, 1) := by decide +kernel
theorem dX1_upFrom_12 : decode cX1_upFrom 12 = .ok (.iload_n 1, 1) := by decide +kernel
theorem dX1_upFrom_13 : decode cX1_upFrom 13 = .ok (.iconst 1, 1) := by decide +kernel
theorem dX1_upFrom_14 : decode cX1_upFrom 14 = .ok (.invokevirtual 54, 3) := by decide +kernel
theorem dX1_upFrom_17 : decode cX1_upFrom 17 = .ok (.iconst 0, 1) := by decide +kernel
theorem dX1_upFrom_18 : decode cX1_upFrom 18 = .ok (.istore_n 3, 1) := by decide +kernel
theorem dX1_upFrom_19 : decode cX1_upFrom 19 = .ok (.iconst 0, 1) := by decide +kernel
theorem dX1_upFrom_20 : decode cX1_upFrom 20 = .ok (.istore 4, 2) := by decide +kernel
theorem dX1_upFrom_22 : decode cX1_upFrom 22 = .ok (.iconst 0, 1) := by decide +kernel
theorem dX1_upFrom_23 : decode cX1_upFrom 23 = .ok (.istore 5, 2) := by decide +kernel
theorem dX1_upFrom_25 : decode cX1_upFrom 25 = .ok (.iload 5, 2) := by decide +kernel
theorem dX1_upFrom_27 : decode cX1_upFrom 27 = .ok (.aload_n 0, 1) := by decide +kernel
theorem dX1_upFrom_28 : decode cX1_upFrom 28 = .ok (.getfield 29, 3) := by decide +kernel
theorem dX1_upFrom_31 : decode cX1_upFrom 31 = .ok (.getfield 58, 3) := by decide +kernel
theorem dX1_upFrom_34 : decode cX1_upFrom 34 = .ok (.if_icmp .ge 104, 3) := by decide +kernel
theorem dX1_upFrom_37 : decode cX1_upFrom 37 = .ok (.iload 5, 2) := by decide +kernel
theorem dX1_upFrom_39 : decode cX1_upFrom 39 = .ok (.aload_n 0, 1) := by decide +kernel
theorem dX1_upFrom_40 : decode cX1_upFrom 40 = .ok (.getfield 15, 3) := by decide +kernel
theorem dX1_upFrom_43 : decode cX1_upFrom 43 = .ok (.if_icmp .eq 89, 3) := by decide +kernel
theorem dX1_upFrom_46 : decode cX1_upFrom 46 = .ok (.aload_n 0, 1) := by decide +kernel
theorem dX1_upFrom_47 : decode cX1_upFrom 47 = .ok (.getfield 29, 3) := by decide +kernel
theorem dX1_upFrom_50 : decode cX1_upFrom 50 = .ok (.getfield 61, 3) := by decide +kernel
theorem dX1_upFrom_53 : decode cX1_upFrom 53 = .ok (.iload 5, 2) := by decide +kernel
theorem dX1_upFrom_55 : decode cX1_upFrom 55 = .ok (.iaload, 1) := by decide +kernel
theorem dX1_upFrom_56 : decode cX1_upFrom 56 = .ok (.iload_n 1, 1) := by decide +kernel
theorem dX1_upFrom_57 : decode cX1_upFrom 57 = .ok (.if_icmp .ne 75, 3) := by decide +kernel
theorem dX1_upFrom_60 : decode cX1_upFrom 60 = .ok (.iload_n 3, 1) := by decide +kernel
theorem dX1_upFrom_61 : decode cX1_upFrom 61 = .ok (.aload_n 0, 1) := by decide +kernel
theorem dX1_upFrom_62 : decode cX1_upFrom 62 = .ok (.getfield 51, 3) := by decide +kernel
theorem dX1_upFrom_65 : decode cX1_upFrom 65 = .ok (.if_icmp .lt 6, 3) := by decide +kernel
theorem dX1_upFrom_68 : decode cX1_upFrom 68 = .ok (.goto 64, 3) := by decide +kernel
theorem dX1_upFrom_71 : decode cX1_upFrom 71 = .ok (.aload_n 0, 1) := by decide +kernel
theorem dX1_upFrom_72 : decode cX1_upFrom 72 = .ok (.getfield 51, 3) := by decide +kernel
theorem dX1_upFrom_75 : decode cX1_upFrom 75 = .ok (.iload_n 3, 1) := by decide +kernel
theorem dX1_upFrom_76 : decode cX1_upFrom 76 = .ok (.iconst 1, 1) := by decide +kernel
theorem dX1_upFrom_77 : decode cX1_upFrom 77 = .ok (.iadd, 1) := by decide +kernel
theorem dX1_upFrom_78 : decode cX1_upFrom 78 = .ok (.iload_n 2, 1) := by decide +kernel
theorem dX1_upFrom_79 : decode cX1_upFrom 79 = .ok (.iadd, 1) := by decide +kernel
theorem dX1_upFrom_80 : decode cX1_upFrom 80 = .ok (.invokestatic 64, 3) := by decide +kernel
theorem dX1_upFrom_83 : decode cX1_upFrom 83 = .ok (.istore 6, 2) := by decide +kernel
theorem dX1_upFrom_85 : decode cX1_upFrom 85 = .ok (.aload_n 0, 1) := by decide +kernel
theorem dX1_upFrom_86 : decode cX1_upFrom 86 = .ok (.iload_n 1, 1) := by decide +kernel
theorem dX1_upFrom_87 : decode cX1_upFrom 87 = .ok (.aload_n 0, 1) := by decide +kernel
theorem dX1_upFrom_88 : decode cX1_upFrom 88 = .ok (.getfield 29, 3) := by decide +kernel
theorem dX1_upFrom_91 : decode cX1_upFrom 91 = .ok (.getfield 37, 3) := by decide +kernel
theorem dX1_upFrom_94 : decode cX1_upFrom 94 = .ok (.iload 5, 2) := by decide +kernel
theorem dX1_upFrom_96 : decode cX1_upFrom 96 = .ok (.iaload, 1) := by decide +kernel
theorem dX1_upFrom_97 : decode cX1_upFrom 97 = .ok (.aload_n 0, 1) := by decide +kernel
theorem dX1_upFrom_98 : decode cX1_upFrom 98 = .ok (.getfield 29, 3) := by decide +kernel
theorem dX1_upFrom_101 : decode cX1_upFrom 101 = .ok (.getfield 69, 3) := by decide +kernel
theorem dX1_upFrom_104 : decode cX1_upFrom 104 = .ok (.aload_n 0, 1) := by decide +kernel
theorem dX1_upFrom_105 : decode cX1_upFrom 105 = .ok (.getfield 9, 3) := by decide +kernel
theorem dX1_upFrom_108 : decode cX1_upFrom 108 = .ok (.iload 6, 2) := by decide +kernel
theorem dX1_upFrom_110 : decode cX1_upFrom 110 = .ok (.iconst 1, 1) := by decide +kernel
theorem dX1_upFrom_111 : decode cX1_upFrom 111 = .ok (.isub, 1) := by decide +kernel
theorem dX1_upFrom_112 : decode cX1_upFrom 112 = .ok (.iaload, 1) := by decide +kernel
theorem dX1_upFrom_113 : decode cX1_upFrom 113 = .ok (.baload, 1) := by decide +kernel
theorem dX1_upFrom_114 : decode cX1_upFrom 114 = .ok (.invokevirtual 73, 3) := by decide +kernel
theorem dX1_upFrom_117 : decode cX1_upFrom 117 = .ok (.ifCond .eq 12, 3) := by decide +kernel
theorem dX1_upFrom_120 : decode cX1_upFrom 120 = .ok (.iload 4, 2) := by decide +kernel
theorem dX1_upFrom_122 : decode cX1_upFrom 122 = .ok (.iload 6, 2) := by decide +kernel
theorem dX1_upFrom_124 : decode cX1_upFrom 124 = .ok (.iload_n 3, 1) := by decide +kernel
theorem dX1_upFrom_125 : decode cX1_upFrom 125 = .ok (.isub, 1) := by decide +kernel
theorem dX1_upFrom_126 : decode cX1_upFrom 126 = .ok (.iadd, 1) := by decide +kernel
theorem dX1_upFrom_127 : decode cX1_upFrom 127 = .ok (.istore 4, 2) := by decide +kernel
theorem dX1_upFrom_129 : decode cX1_upFrom 129 = .ok (.iload 6, 2) := by decide +kernel
theorem dX1_upFrom_131 : decode cX1_upFrom 131 = .ok (.istore_n 3, 1) := by decide +kernel
theorem dX1_upFrom_132 : decode cX1_upFrom 132 = .ok (.iinc 5 1, 3) := by decide +kernel
theorem dX1_upFrom_135 : decode cX1_upFrom 135 = .ok (.goto (-110), 3) := by decide +kernel
theorem dX1_upFrom_138 : decode cX1_upFrom 138 = .ok (.iload_n 3, 1) := by decide +kernel
theorem dX1_upFrom_139 : decode cX1_upFrom 139 = .ok (.istore 5, 2) := by decide +kernel
theorem dX1_upFrom_141 : decode cX1_upFrom 141 = .ok (.iload 5, 2) := by decide +kernel
theorem dX1_upFrom_143 : decode cX1_upFrom 143 = .ok (.aload_n 0, 1) := by decide +kernel
theorem dX1_upFrom_144 : decode cX1_upFrom 144 = .ok (.getfield 51, 3) := by decide +kernel
theorem dX1_upFrom_147 : decode cX1_upFrom 147 = .ok (.if_icmp .ge 38, 3) := by decide +kernel
theorem dX1_upFrom_150 : decode cX1_upFrom 150 = .ok (.iload 4, 2) := by decide +kernel
theorem dX1_upFrom_152 : decode cX1_upFrom 152 = .ok (.aload_n 0, 1) := by decide +kernel
theorem dX1_upFrom_153 : decode cX1_upFrom 153 = .ok (.iload_n 1, 1) := by decide +kernel
theorem dX1_upFrom_154 : decode cX1_upFrom 154 = .ok (.iconst (-1), 1) := by decide +kernel
theorem dX1_upFrom_155 : decode cX1_upFrom 155 = .ok (.aload_n 0, 1) := by decide +kernel
theorem dX1_upFrom_156 : decode cX1_upFrom 156 = .ok (.getfield 29, 3) := by decide +kernel
theorem dX1_upFrom_159 : decode cX1_upFrom 159 = .ok (.getfield 69, 3) := by decide +kernel
theorem dX1_upFrom_162 : decode cX1_upFrom 162 = .ok (.aload_n 0, 1) := by decide +kernel
theorem dX1_upFrom_163 : decode cX1_upFrom 163 = .ok (.getfield 9, 3) := by decide +kernel
theorem dX1_upFrom_166 : decode cX1_upFrom 166 = .ok (.iload 5, 2) := by decide +kernel
theorem dX1_upFrom_168 : decode cX1_upFrom 168 = .ok (.iaload, 1) := by decide +kernel
theorem dX1_upFrom_169 : decode cX1_upFrom 169 = .ok (.baload, 1) := by decide +kernel
theorem dX1_upFrom_170 : decode cX1_upFrom 170 = .ok (.invokevirtual 73, 3) := by decide +kernel
theorem dX1_upFrom_173 : decode cX1_upFrom 173 = .ok (.invokestatic 77, 3) := by decide +kernel
theorem dX1_upFrom_176 : decode cX1_upFrom 176 = .ok (.iadd, 1) := by decide +kernel
theorem dX1_upFrom_177 : decode cX1_upFrom 177 = .ok (.istore 4, 2) := by decide +kernel
theorem dX1_upFrom_179 : decode cX1_upFrom 179 = .ok (.iinc 5 1, 3) := by decide +kernel
theorem dX1_upFrom_182 : decode cX1_upFrom 182 = .ok (.goto (-41), 3) := by decide +kernel
theorem dX1_upFrom_185 : decode cX1_upFrom 185 = .ok (.iload 4, 2) := by decide +kernel
theorem dX1_upFrom_187 : decode cX1_upFrom 187 = .ok (.ireturn, 1) := by decide +kernel
theorem dX1_lineUp_0 : decode cX1_lineUp 0 = .ok (.iconst 0, 1) := by decide +kernel
theorem dX1_lineUp_1 : decode cX1_lineUp 1 = .ok (.istore_n 3, 1) := by decide +kernel
theorem dX1_lineUp_2 : decode cX1_lineUp 2 = .ok (.iload_n 3, 1) := by decide +kernel
theorem dX1_lineUp_3 : decode cX1_lineUp 3 = .ok (.aload_n 0, 1) := by decide +kernel
theorem dX1_lineUp_4 : decode cX1_lineUp 4 = .ok (.getfield 29, 3) := by decide +kernel
theorem dX1_lineUp_7 : decode cX1_lineUp 7 = .ok (.getfield 81, 3) := by decide +kernel
theorem dX1_lineUp_10 : decode cX1_lineUp 10 = .ok (.if_icmp .ge 67, 3) := by decide +kernel
theorem dX1_lineUp_13 : decode cX1_lineUp 13 = .ok (.aload_n 0, 1) := by decide +kernel
theorem dX1_lineUp_14 : decode cX1_lineUp 14 = .ok (.getfield 29, 3) := by decide +kernel
theorem dX1_lineUp_17 : decode cX1_lineUp 17 = .ok (.getfield 84, 3) := by decide +kernel
theorem dX1_lineUp_20 : decode cX1_lineUp 20 = .ok (.iload_n 3, 1) := by decide +kernel
theorem dX1_lineUp_21 : decode cX1_lineUp 21 = .ok (.iaload, 1) := by decide +kernel
theorem dX1_lineUp_22 : decode cX1_lineUp 22 = .ok (.iload_n 1, 1) := by decide +kernel
theorem dX1_lineUp_23 : decode cX1_lineUp 23 = .ok (.if_icmp .ne 48, 3) := by decide +kernel
theorem dX1_lineUp_26 : decode cX1_lineUp 26 = .ok (.aload_n 0, 1) := by decide +kernel
theorem dX1_lineUp_27 : decode cX1_lineUp 27 = .ok (.getfield 29, 3) := by decide +kernel
theorem dX1_lineUp_30 : decode cX1_lineUp 30 = .ok (.getfield 87, 3) := by decide +kernel
theorem dX1_lineUp_33 : decode cX1_lineUp 33 = .ok (.iload_n 3, 1) := by decide +kernel
theorem dX1_lineUp_34 : decode cX1_lineUp 34 = .ok (.baload, 1) := by decide +kernel
theorem dX1_lineUp_35 : decode cX1_lineUp 35 = .ok (.ifCond .eq 36, 3) := by decide +kernel
theorem dX1_lineUp_38 : decode cX1_lineUp 38 = .ok (.aload_n 0, 1) := by decide +kernel
theorem dX1_lineUp_39 : decode cX1_lineUp 39 = .ok (.getfield 29, 3) := by decide +kernel
theorem dX1_lineUp_42 : decode cX1_lineUp 42 = .ok (.getfield 69, 3) := by decide +kernel
theorem dX1_lineUp_45 : decode cX1_lineUp 45 = .ok (.iload_n 3, 1) := by decide +kernel
theorem dX1_lineUp_46 : decode cX1_lineUp 46 = .ok (.baload, 1) := by decide +kernel
theorem dX1_lineUp_47 : decode cX1_lineUp 47 = .ok (.iload_n 2, 1) := by decide +kernel
theorem dX1_lineUp_48 : decode cX1_lineUp 48 = .ok (.if_icmp .ne 23, 3) := by decide +kernel
theorem dX1_lineUp_51 : decode cX1_lineUp 51 = .ok (.aload_n 0, 1) := by decide +kernel
theorem dX1_lineUp_52 : decode cX1_lineUp 52 = .ok (.getfield 9, 3) := by decide +kernel
theorem dX1_lineUp_55 : decode cX1_lineUp 55 = .ok (.aload_n 0, 1) := by decide +kernel
theorem dX1_lineUp_56 : decode cX1_lineUp 56 = .ok (.getfield 51, 3) := by decide +kernel
theorem dX1_lineUp_59 : decode cX1_lineUp 59 = .ok (.iload_n 3, 1) := by decide +kernel
theorem dX1_lineUp_60 : decode cX1_lineUp 60 = .ok (.iastore, 1) := by decide +kernel
theorem dX1_lineUp_61 : decode cX1_lineUp 61 = .ok (.aload_n 0, 1) := by decide +kernel
theorem dX1_lineUp_62 : decode cX1_lineUp 62 = .ok (.dup, 1) := by decide +kernel
theorem dX1_lineUp_63 : decode cX1_lineUp 63 = .ok (.getfield 51, 3) := by decide +kernel
theorem dX1_lineUp_66 : decode cX1_lineUp 66 = .ok (.iconst 1, 1) := by decide +kernel
theorem dX1_lineUp_67 : decode cX1_lineUp 67 = .ok (.iadd, 1) := by decide +kernel
theorem dX1_lineUp_68 : decode cX1_lineUp 68 = .ok (.putfield 51, 3) := by decide +kernel
theorem dX1_lineUp_71 : decode cX1_lineUp 71 = .ok (.iinc 3 1, 3) := by decide +kernel
theorem dX1_lineUp_74 : decode cX1_lineUp 74 = .ok (.goto (-72), 3) := by decide +kernel
theorem dX1_lineUp_77 : decode cX1_lineUp 77 = .ok (.return_, 1) := by decide +kernel
theorem dX1_comesUp_0 : decode cX1_comesUp 0 = .ok (.aload_n 0, 1) := by decide +kernel
theorem dX1_comesUp_1 : decode cX1_comesUp 1 = .ok (.getfield 33, 3) := by decide +kernel
theorem dX1_comesUp_4 : decode cX1_comesUp 4 = .ok (.iload_n 2, 1) := by decide +kernel
theorem dX1_comesUp_5 : decode cX1_comesUp 5 = .ok (.iload_n 3, 1) := by decide +kernel
theorem dX1_comesUp_6 : decode cX1_comesUp 6 = .ok (.aload_n 0, 1) := by decide +kernel
theorem dX1_comesUp_7 : decode cX1_comesUp 7 = .ok (.getfield 19, 3) := by decide +kernel
theorem dX1_comesUp_10 : decode cX1_comesUp 10 = .ok (.aload_n 0, 1) := by decide +kernel
theorem dX1_comesUp_11 : decode cX1_comesUp 11 = .ok (.getfield 22, 3) := by decide +kernel
theorem dX1_comesUp_14 : decode cX1_comesUp 14 = .ok (.invokevirtual 90, 3) := by decide +kernel
theorem dX1_comesUp_17 : decode cX1_comesUp 17 = .ok (.aload_n 0, 1) := by decide +kernel
theorem dX1_comesUp_18 : decode cX1_comesUp 18 = .ok (.getfield 33, 3) := by decide +kernel
theorem dX1_comesUp_21 : decode cX1_comesUp 21 = .ok (.aload_n 0, 1) := by decide +kernel
theorem dX1_comesUp_22 : decode cX1_comesUp 22 = .ok (.getfield 25, 3) := by decide +kernel
theorem dX1_comesUp_25 : decode cX1_comesUp 25 = .ok (.getfield 96, 3) := by decide +kernel
theorem dX1_comesUp_28 : decode cX1_comesUp 28 = .ok (.bipush 99, 2) := by decide +kernel
theorem dX1_comesUp_30 : decode cX1_comesUp 30 = .ok (.invokevirtual 99, 3) := by decide +kernel
theorem dX1_comesUp_33 : decode cX1_comesUp 33 = .ok (.aload_n 0, 1) := by decide +kernel
theorem dX1_comesUp_34 : decode cX1_comesUp 34 = .ok (.getfield 33, 3) := by decide +kernel
theorem dX1_comesUp_37 : decode cX1_comesUp 37 = .ok (.getfield 103, 3) := by decide +kernel
theorem dX1_comesUp_40 : decode cX1_comesUp 40 = .ok (.iload_n 1, 1) := by decide +kernel
theorem dX1_comesUp_41 : decode cX1_comesUp 41 = .ok (.iaload, 1) := by decide +kernel
theorem dX1_comesUp_42 : decode cX1_comesUp 42 = .ok (.iconst (-1), 1) := by decide +kernel
theorem dX1_comesUp_43 : decode cX1_comesUp 43 = .ok (.if_icmp .eq 7, 3) := by decide +kernel
theorem dX1_comesUp_46 : decode cX1_comesUp 46 = .ok (.iconst 1, 1) := by decide +kernel
theorem dX1_comesUp_47 : decode cX1_comesUp 47 = .ok (.goto 4, 3) := by decide +kernel
theorem dX1_comesUp_50 : decode cX1_comesUp 50 = .ok (.iconst 0, 1) := by decide +kernel
theorem dX1_comesUp_51 : decode cX1_comesUp 51 = .ok (.ireturn, 1) := by decide +kernel
theorem dX1_lend_0 : decode cX1_lend 0 = .ok (.aload_n 0, 1) := by decide +kernel
theorem dX1_lend_1 : decode cX1_lend 1 = .ok (.iconst 0, 1) := by decide +kernel
theorem dX1_lend_2 : decode cX1_lend 2 = .ok (.putfield 51, 3) := by decide +kernel
theorem dX1_lend_5 : decode cX1_lend 5 = .ok (.aload_n 0, 1) := by decide +kernel
theorem dX1_lend_6 : decode cX1_lend 6 = .ok (.aload_n 0, 1) := by decide +kernel
theorem dX1_lend_7 : decode cX1_lend 7 = .ok (.getfield 29, 3) := by decide +kernel
theorem dX1_lend_10 : decode cX1_lend 10 = .ok (.getfield 61, 3) := by decide +kernel
theorem dX1_lend_13 : decode cX1_lend 13 = .ok (.iload_n 1, 1) := by decide +kernel
theorem dX1_lend_14 : decode cX1_lend 14 = .ok (.iaload, 1) := by decide +kernel
theorem dX1_lend_15 : decode cX1_lend 15 = .ok (.iconst 0, 1) := by decide +kernel
theorem dX1_lend_16 : decode cX1_lend 16 = .ok (.invokevirtual 54, 3) := by decide +kernel
theorem dX1_lend_19 : decode cX1_lend 19 = .ok (.aload_n 0, 1) := by decide +kernel
theorem dX1_lend_20 : decode cX1_lend 20 = .ok (.aload_n 0, 1) := by decide +kernel
theorem dX1_lend_21 : decode cX1_lend 21 = .ok (.getfield 29, 3) := by decide +kernel
theorem dX1_lend_24 : decode cX1_lend 24 = .ok (.getfield 61, 3) := by decide +kernel
theorem dX1_lend_27 : decode cX1_lend 27 = .ok (.iload_n 1, 1) := by decide +kernel
theorem dX1_lend_28 : decode cX1_lend 28 = .ok (.iaload, 1) := by decide +kernel
theorem dX1_lend_29 : decode cX1_lend 29 = .ok (.iconst 1, 1) := by decide +kernel
theorem dX1_lend_30 : decode cX1_lend 30 = .ok (.invokevirtual 54, 3) := by decide +kernel
theorem dX1_lend_33 : decode cX1_lend 33 = .ok (.aload_n 0, 1) := by decide +kernel
theorem dX1_lend_34 : decode cX1_lend 34 = .ok (.getfield 51, 3) := by decide +kernel
theorem dX1_lend_37 : decode cX1_lend 37 = .ok (.ifCond .ne 5, 3) := by decide +kernel
theorem dX1_lend_40 : decode cX1_lend 40 = .ok (.iconst (-1), 1) := by decide +kernel
theorem dX1_lend_41 : decode cX1_lend 41 = .ok (.ireturn, 1) := by decide +kernel
theorem dX1_lend_42 : decode cX1_lend 42 = .ok (.aload_n 0, 1) := by decide +kernel
theorem dX1_lend_43 : decode cX1_lend 43 = .ok (.getfield 9, 3) := by decide +kernel
theorem dX1_lend_46 : decode cX1_lend 46 = .ok (.iconst 0, 1) := by decide +kernel
theorem dX1_lend_47 : decode cX1_lend 47 = .ok (.iaload, 1) := by decide +kernel
theorem dX1_lend_48 : decode cX1_lend 48 = .ok (.istore_n 3, 1) := by decide +kernel
theorem dX1_lend_49 : decode cX1_lend 49 = .ok (.aload_n 0, 1) := by decide +kernel
theorem dX1_lend_50 : decode cX1_lend 50 = .ok (.getfield 33, 3) := by decide +kernel
theorem dX1_lend_53 : decode cX1_lend 53 = .ok (.aload_n 0, 1) := by decide +kernel
theorem dX1_lend_54 : decode cX1_lend 54 = .ok (.getfield 29, 3) := by decide +kernel
theorem dX1_lend_57 : decode cX1_lend 57 = .ok (.getfield 37, 3) := by decide +kernel
theorem dX1_lend_60 : decode cX1_lend 60 = .ok (.iload_n 1, 1) := by decide +kernel
theorem dX1_lend_61 : decode cX1_lend 61 = .ok (.iaload, 1) := by decide +kernel
theorem dX1_lend_62 : decode cX1_lend 62 = .ok (.aload_n 0, 1) := by decide +kernel
theorem dX1_lend_63 : decode cX1_lend 63 = .ok (.getfield 29, 3) := by decide +kernel
theorem dX1_lend_66 : decode cX1_lend 66 = .ok (.getfield 69, 3) := by decide +kernel
theorem dX1_lend_69 : decode cX1_lend 69 = .ok (.iload_n 3, 1) := by decide +kernel
theorem dX1_lend_70 : decode cX1_lend 70 = .ok (.baload, 1) := by decide +kernel
theorem dX1_lend_71 : decode cX1_lend 71 = .ok (.invokevirtual 106, 3) := by decide +kernel
theorem dX1_lend_74 : decode cX1_lend 74 = .ok (.aload_n 0, 1) := by decide +kernel
theorem dX1_lend_75 : decode cX1_lend 75 = .ok (.getfield 33, 3) := by decide +kernel
theorem dX1_lend_78 : decode cX1_lend 78 = .ok (.aload_n 0, 1) := by decide +kernel
theorem dX1_lend_79 : decode cX1_lend 79 = .ok (.getfield 29, 3) := by decide +kernel
theorem dX1_lend_82 : decode cX1_lend 82 = .ok (.getfield 61, 3) := by decide +kernel
theorem dX1_lend_85 : decode cX1_lend 85 = .ok (.iload_n 1, 1) := by decide +kernel
theorem dX1_lend_86 : decode cX1_lend 86 = .ok (.iaload, 1) := by decide +kernel
theorem dX1_lend_87 : decode cX1_lend 87 = .ok (.iconst 0, 1) := by decide +kernel
theorem dX1_lend_88 : decode cX1_lend 88 = .ok (.invokevirtual 109, 3) := by decide +kernel
theorem dX1_lend_91 : decode cX1_lend 91 = .ok (.aload_n 0, 1) := by decide +kernel
theorem dX1_lend_92 : decode cX1_lend 92 = .ok (.getfield 33, 3) := by decide +kernel
theorem dX1_lend_95 : decode cX1_lend 95 = .ok (.getfield 112, 3) := by decide +kernel
theorem dX1_lend_98 : decode cX1_lend 98 = .ok (.iload_n 2, 1) := by decide +kernel
theorem dX1_lend_99 : decode cX1_lend 99 = .ok (.iaload, 1) := by decide +kernel
theorem dX1_lend_100 : decode cX1_lend 100 = .ok (.istore 4, 2) := by decide +kernel
theorem dX1_lend_102 : decode cX1_lend 102 = .ok (.iload 4, 2) := by decide +kernel
theorem dX1_lend_104 : decode cX1_lend 104 = .ok (.iconst (-1), 1) := by decide +kernel
theorem dX1_lend_105 : decode cX1_lend 105 = .ok (.if_icmp .ne 5, 3) := by decide +kernel
theorem dX1_lend_108 : decode cX1_lend 108 = .ok (.iconst (-1), 1) := by decide +kernel
theorem dX1_lend_109 : decode cX1_lend 109 = .ok (.ireturn, 1) := by decide +kernel
theorem dX1_lend_110 : decode cX1_lend 110 = .ok (.aload_n 0, 1) := by decide +kernel
theorem dX1_lend_111 : decode cX1_lend 111 = .ok (.getfield 33, 3) := by decide +kernel
theorem dX1_lend_114 : decode cX1_lend 114 = .ok (.aload_n 0, 1) := by decide +kernel
theorem dX1_lend_115 : decode cX1_lend 115 = .ok (.getfield 29, 3) := by decide +kernel
theorem dX1_lend_118 : decode cX1_lend 118 = .ok (.getfield 37, 3) := by decide +kernel
theorem dX1_lend_121 : decode cX1_lend 121 = .ok (.iload_n 1, 1) := by decide +kernel
theorem dX1_lend_122 : decode cX1_lend 122 = .ok (.iaload, 1) := by decide +kernel
theorem dX1_lend_123 : decode cX1_lend 123 = .ok (.aload_n 0, 1) := by decide +kernel
theorem dX1_lend_124 : decode cX1_lend 124 = .ok (.getfield 29, 3) := by decide +kernel
theorem dX1_lend_127 : decode cX1_lend 127 = .ok (.getfield 69, 3) := by decide +kernel
theorem dX1_lend_130 : decode cX1_lend 130 = .ok (.iload_n 3, 1) := by decide +kernel
theorem dX1_lend_131 : decode cX1_lend 131 = .ok (.baload, 1) := by decide +kernel
theorem dX1_lend_132 : decode cX1_lend 132 = .ok (.ifCond .ne 14, 3) := by decide +kernel
theorem dX1_lend_135 : decode cX1_lend 135 = .ok (.aload_n 0, 1) := by decide +kernel
theorem dX1_lend_136 : decode cX1_lend 136 = .ok (.getfield 29, 3) := by decide +kernel
theorem dX1_lend_139 : decode cX1_lend 139 = .ok (.iload_n 2, 1) := by decide +kernel
theorem dX1_lend_140 : decode cX1_lend 140 = .ok (.invokevirtual 115, 3) := by decide +kernel
theorem dX1_lend_143 : decode cX1_lend 143 = .ok (.ifCond .eq 7, 3) := by decide +kernel
theorem dX1_lend_146 : decode cX1_lend 146 = .ok (.iconst 1, 1) := by decide +kernel
theorem dX1_lend_147 : decode cX1_lend 147 = .ok (.goto 4, 3) := by decide +kernel
theorem dX1_lend_150 : decode cX1_lend 150 = .ok (.iconst 0, 1) := by decide +kernel
theorem dX1_lend_151 : decode cX1_lend 151 = .ok (.invokevirtual 106, 3) := by decide +kernel
theorem dX1_lend_154 : decode cX1_lend 154 = .ok (.aload_n 0, 1) := by decide +kernel
theorem dX1_lend_155 : decode cX1_lend 155 = .ok (.getfield 33, 3) := by decide +kernel
theorem dX1_lend_158 : decode cX1_lend 158 = .ok (.iload_n 2, 1) := by decide +kernel
theorem dX1_lend_159 : decode cX1_lend 159 = .ok (.iload 4, 2) := by decide +kernel
theorem dX1_lend_161 : decode cX1_lend 161 = .ok (.invokevirtual 109, 3) := by decide +kernel
theorem dX1_lend_164 : decode cX1_lend 164 = .ok (.aload_n 0, 1) := by decide +kernel
theorem dX1_lend_165 : decode cX1_lend 165 = .ok (.getfield 33, 3) := by decide +kernel
theorem dX1_lend_168 : decode cX1_lend 168 = .ok (.getfield 112, 3) := by decide +kernel
theorem dX1_lend_171 : decode cX1_lend 171 = .ok (.aload_n 0, 1) := by decide +kernel
theorem dX1_lend_172 : decode cX1_lend 172 = .ok (.getfield 25, 3) := by decide +kernel
theorem dX1_lend_175 : decode cX1_lend 175 = .ok (.getfield 96, 3) := by decide +kernel
theorem dX1_lend_178 : decode cX1_lend 178 = .ok (.iaload, 1) := by decide +kernel
theorem dX1_lend_179 : decode cX1_lend 179 = .ok (.ireturn, 1) := by decide +kernel
theorem dX2_init_0 : decode cX2_init 0 = .ok (.aload_n 0, 1) := by decide +kernel
theorem dX2_init_1 : decode cX2_init 1 = .ok (.invokespecial 5, 3) := by decide +kernel
theorem dX2_init_4 : decode cX2_init 4 = .ok (.aload_n 0, 1) := by decide +kernel
theorem dX2_init_5 : decode cX2_init 5 = .ok (.sipush 3660, 3) := by decide +kernel
theorem dX2_init_8 : decode cX2_init 8 = .ok (.newarray .int, 2) := by decide +kernel
theorem dX2_init_10 : decode cX2_init 10 = .ok (.putfield 11, 3) := by decide +kernel
theorem dX2_init_13 : decode cX2_init 13 = .ok (.aload_n 0, 1) := by decide +kernel
theorem dX2_init_14 : decode cX2_init 14 = .ok (.bipush 61, 2) := by decide +kernel
theorem dX2_init_16 : decode cX2_init 16 = .ok (.newarray .int, 2) := by decide +kernel
theorem dX2_init_18 : decode cX2_init 18 = .ok (.putfield 15, 3) := by decide +kernel
theorem dX2_init_21 : decode cX2_init 21 = .ok (.aload_n 0, 1) := by decide +kernel
theorem dX2_init_22 : decode cX2_init 22 = .ok (.bipush 12, 2) := by decide +kernel
theorem dX2_init_24 : decode cX2_init 24 = .ok (.newarray .int, 2) := by decide +kernel
theorem dX2_init_26 : decode cX2_init 26 = .ok (.putfield 18, 3) := by decide +kernel
theorem dX2_init_29 : decode cX2_init 29 = .ok (.aload_n 0, 1) := by decide +kernel
theorem dX2_init_30 : decode cX2_init 30 = .ok (.sipush 288, 3) := by decide +kernel
theorem dX2_init_33 : decode cX2_init 33 = .ok (.newarray .int, 2) := by decide +kernel
theorem dX2_init_35 : decode cX2_init 35 = .ok (.putfield 21, 3) := by decide +kernel
theorem dX2_init_38 : decode cX2_init 38 = .ok (.aload_n 0, 1) := by decide +kernel
theorem dX2_init_39 : decode cX2_init 39 = .ok (.bipush 12, 2) := by decide +kernel
theorem dX2_init_41 : decode cX2_init 41 = .ok (.newarray .int, 2) := by decide +kernel
theorem dX2_init_43 : decode cX2_init 43 = .ok (.putfield 24, 3) := by decide +kernel
theorem dX2_init_46 : decode cX2_init 46 = .ok (.aload_n 0, 1) := by decide +kernel
theorem dX2_init_47 : decode cX2_init 47 = .ok (.sipush 732, 3) := by decide +kernel
theorem dX2_init_50 : decode cX2_init 50 = .ok (.newarray .int, 2) := by decide +kernel
theorem dX2_init_52 : decode cX2_init 52 = .ok (.putfield 27, 3) := by decide +kernel
theorem dX2_init_55 : decode cX2_init 55 = .ok (.aload_n 0, 1) := by decide +kernel
theorem dX2_init_56 : decode cX2_init 56 = .ok (.sipush 732, 3) := by decide +kernel
theorem dX2_init_59 : decode cX2_init 59 = .ok (.newarray .int, 2) := by decide +kernel
theorem dX2_init_61 : decode cX2_init 61 = .ok (.putfield 30, 3) := by decide +kernel
theorem dX2_init_64 : decode cX2_init 64 = .ok (.aload_n 0, 1) := by decide +kernel
theorem dX2_init_65 : decode cX2_init 65 = .ok (.sipush 732, 3) := by decide +kernel
theorem dX2_init_68 : decode cX2_init 68 = .ok (.newarray .int, 2) := by decide +kernel
theorem dX2_init_70 : decode cX2_init 70 = .ok (.putfield 33, 3) := by decide +kernel
theorem dX2_init_73 : decode cX2_init 73 = .ok (.aload_n 0, 1) := by decide +kernel
theorem dX2_init_74 : decode cX2_init 74 = .ok (.aload_n 1, 1) := by decide +kernel
theorem dX2_init_75 : decode cX2_init 75 = .ok (.putfield 36, 3) := by decide +kernel
theorem dX2_init_78 : decode cX2_init 78 = .ok (.aload_n 0, 1) := by decide +kernel
theorem dX2_init_79 : decode cX2_init 79 = .ok (.aload_n 2, 1) := by decide +kernel
theorem dX2_init_80 : decode cX2_init 80 = .ok (.putfield 40, 3) := by decide +kernel
theorem dX2_init_83 : decode cX2_init 83 = .ok (.return_, 1) := by decide +kernel
theorem dX2_lift_0 : decode cX2_lift 0 = .ok (.aload_n 0, 1) := by decide +kernel
theorem dX2_lift_1 : decode cX2_lift 1 = .ok (.iload_n 1, 1) := by decide +kernel
theorem dX2_lift_2 : decode cX2_lift 2 = .ok (.putfield 44, 3) := by decide +kernel
theorem dX2_lift_5 : decode cX2_lift 5 = .ok (.aload_n 0, 1) := by decide +kernel
theorem dX2_lift_6 : decode cX2_lift 6 = .ok (.getfield 11, 3) := by decide +kernel
theorem dX2_lift_9 : decode cX2_lift 9 = .ok (.iconst 0, 1) := by decide +kernel
theorem dX2_lift_10 : decode cX2_lift 10 = .ok (.invokestatic 48, 3) := by decide +kernel
theorem dX2_lift_13 : decode cX2_lift 13 = .ok (.aload_n 0, 1) := by decide +kernel
theorem dX2_lift_14 : decode cX2_lift 14 = .ok (.getfield 15, 3) := by decide +kernel
theorem dX2_lift_17 : decode cX2_lift 17 = .ok (.iconst 0, 1) := by decide +kernel
theorem dX2_lift_18 : decode cX2_lift 18 = .ok (.invokestatic 48, 3) := by decide +kernel
theorem dX2_lift_21 : decode cX2_lift 21 = .ok (.aload_n 0, 1) := by decide +kernel
theorem dX2_lift_22 : decode cX2_lift 22 = .ok (.getfield 18, 3) := by decide +kernel
theorem dX2_lift_25 : decode cX2_lift 25 = .ok (.iconst 0, 1) := by decide +kernel
theorem dX2_lift_26 : decode cX2_lift 26 = .ok (.invokestatic 48, 3) := by decide +kernel
theorem dX2_lift_29 : decode cX2_lift 29 = .ok (.iconst 0, 1) := by decide +kernel
theorem dX2_lift_30 : decode cX2_lift 30 = .ok (.istore_n 2, 1) := by decide +kernel
theorem dX2_lift_31 : decode cX2_lift 31 = .ok (.iload_n 2, 1) := by decide +kernel
theorem dX2_lift_32 : decode cX2_lift 32 = .ok (.aload_n 0, 1) := by decide +kernel
theorem dX2_lift_33 : decode cX2_lift 33 = .ok (.getfield 40, 3) := by decide +kernel
theorem dX2_lift_36 : decode cX2_lift 36 = .ok (.getfield 54, 3) := by decide +kernel
theorem dX2_lift_39 : decode cX2_lift 39 = .ok (.if_icmp .ge 27, 3) := by decide +kernel
theorem dX2_lift_42 : decode cX2_lift 42 = .ok (.aload_n 0, 1) := by decide +kernel
theorem dX2_lift_43 : decode cX2_lift 43 = .ok (.getfield 18, 3) := by decide +kernel
theorem dX2_lift_46 : decode cX2_lift 46 = .ok (.aload_n 0, 1) := by decide +kernel
theorem dX2_lift_47 : decode cX2_lift 47 = .ok (.getfield 40, 3) := by decide +kernel
theorem dX2_lift_50 : decode cX2_lift 50 = .ok (.getfield 59, 3) := by decide +kernel
theorem dX2_lift_53 : decode cX2_lift 53 = .ok (.iload_n 2, 1) := by decide +kernel
theorem dX2_lift_54 : decode cX2_lift 54 = .ok (.iaload, 1) := by decide +kernel
theorem dX2_lift_55 : decode cX2_lift 55 = .ok (.dup2, 1) := by decide +kernel
theorem dX2_lift_56 : decode cX2_lift 56 = .ok (.iaload, 1) := by decide +kernel
theorem dX2_lift_57 : decode cX2_lift 57 = .ok (.iconst 1, 1) := by decide +kernel
theorem dX2_lift_58 : decode cX2_lift 58 = .ok (.iadd, 1) := by decide +kernel
theorem dX2_lift_59 : decode cX2_lift 59 = .ok (.iastore, 1) := by decide +kernel
theorem dX2_lift_60 : decode cX2_lift 60 = .ok (.iinc 2 1, 3) := by decide +kernel
theorem dX2_lift_63 : decode cX2_lift 63 = .ok (.goto (-32), 3) := by decide +kernel
theorem dX2_lift_66 : decode cX2_lift 66 = .ok (.aload_n 0, 1) := by decide +kernel
theorem dX2_lift_67 : decode cX2_lift 67 = .ok (.invokevirtual 62, 3) := by decide +kernel
theorem dX2_lift_70 : decode cX2_lift 70 = .ok (.iconst 0, 1) := by decide +kernel
theorem dX2_lift_71 : decode cX2_lift 71 = .ok (.istore_n 2, 1) := by decide +kernel
theorem dX2_lift_72 : decode cX2_lift 72 = .ok (.iconst 0, 1) := by decide +kernel
theorem dX2_lift_73 : decode cX2_lift 73 = .ok (.istore_n 3, 1) := by decide +kernel
theorem dX2_lift_74 : decode cX2_lift 74 = .ok (.iload_n 3, 1) := by decide +kernel
theorem dX2_lift_75 : decode cX2_lift 75 = .ok (.aload_n 0, 1) := by decide +kernel
theorem dX2_lift_76 : decode cX2_lift 76 = .ok (.getfield 40, 3) := by decide +kernel
theorem dX2_lift_79 : decode cX2_lift 79 = .ok (.getfield 54, 3) := by decide +kernel
theorem dX2_lift_82 : decode cX2_lift 82 = .ok (.if_icmp .ge 33, 3) := by decide +kernel
theorem dX2_lift_85 : decode cX2_lift 85 = .ok (.aload_n 0, 1) := by decide +kernel
theorem dX2_lift_86 : decode cX2_lift 86 = .ok (.invokevirtual 65, 3) := by decide +kernel
theorem dX2_lift_89 : decode cX2_lift 89 = .ok (.istore 4, 2) := by decide +kernel
theorem dX2_lift_91 : decode cX2_lift 91 = .ok (.iload 4, 2) := by decide +kernel
theorem dX2_lift_93 : decode cX2_lift 93 = .ok (.iconst (-1), 1) := by decide +kernel
theorem dX2_lift_94 : decode cX2_lift 94 = .ok (.if_icmp .ne 6, 3) := by decide +kernel
theorem dX2_lift_97 : decode cX2_lift 97 = .ok (.goto 18, 3) := by decide +kernel
theorem dX2_lift_100 : decode cX2_lift 100 = .ok (.aload_n 0, 1) := by decide +kernel
theorem dX2_lift_101 : decode cX2_lift 101 = .ok (.iload 4, 2) := by decide +kernel
theorem dX2_lift_103 : decode cX2_lift 103 = .ok (.invokevirtual 69, 3) := by decide +kernel
theorem dX2_lift_106 : decode cX2_lift 106 = .ok (.iinc 2 1, 3) := by decide +kernel
theorem dX2_lift_109 : decode cX2_lift 109 = .ok (.iinc 3 1, 3) := by decide +kernel
theorem dX2_lift_112 : decode cX2_lift 112 = .ok (.goto (-38), 3) := by decide +kernel
theorem dX2_lift_115 : decode cX2_lift 115 = .ok (.iload_n 2, 1) := by decide +kernel
theorem dX2_lift_116 : decode cX2_lift 116 = .ok (.ireturn, 1) := by decide +kernel
theorem dX2_findNear_0 : decode cX2_findNear 0 = .ok (.aload_n 0, 1) := by decide +kernel
theorem dX2_findNear_1 : decode cX2_findNear 1 = .ok (.getfield 24, 3) := by decide +kernel
theorem dX2_findNear_4 : decode cX2_findNear 4 = .ok (.iconst 0, 1) := by decide +kernel
theorem dX2_findNear_5 : decode cX2_findNear 5 = .ok (.invokestatic 48, 3) := by decide +kernel
theorem dX2_findNear_8 : decode cX2_findNear 8 = .ok (.iconst 0, 1) := by decide +kernel
theorem dX2_findNear_9 : decode cX2_findNear 9 = .ok (.istore_n 1, 1) := by decide +kernel
theorem dX2_findNear_10 : decode cX2_findNear 10 = .ok (.iload_n 1, 1) := by decide +kernel
theorem dX2_findNear_11 : decode cX2_findNear 11 = .ok (.aload_n 0, 1) := by decide +kernel
theorem dX2_findNear_12 : decode cX2_findNear 12 = .ok (.getfield 36, 3) := by decide +kernel
theorem dX2_findNear_15 : decode cX2_findNear 15 = .ok (.getfield 73, 3) := by decide +kernel
theorem dX2_findNear_18 : decode cX2_findNear 18 = .ok (.if_icmp .ge 49, 3) := by decide +kernel
theorem dX2_findNear_21 : decode cX2_findNear 21 = .ok (.aload_n 0, 1) := by decide +kernel
theorem dX2_findNear_22 : decode cX2_findNear 22 = .ok (.getfield 40, 3) := by decide +kernel
theorem dX2_findNear_25 : decode cX2_findNear 25 = .ok (.getfield 78, 3) := by decide +kernel
theorem dX2_findNear_28 : decode cX2_findNear 28 = .ok (.iload_n 1, 1) := by decide +kernel
theorem dX2_findNear_29 : decode cX2_findNear 29 = .ok (.baload, 1) := by decide +kernel
theorem dX2_findNear_30 : decode cX2_findNear 30 = .ok (.ifCond .ne 31, 3) := by decide +kernel
theorem dX2_findNear_33 : decode cX2_findNear 33 = .ok (.aload_n 0, 1) := by decide +kernel
theorem dX2_findNear_34 : decode cX2_findNear 34 = .ok (.aload_n 0, 1) := by decide +kernel
theorem dX2_findNear_35 : decode cX2_findNear 35 = .ok (.getfield 36, 3) := by decide +kernel
theorem dX2_findNear_38 : decode cX2_findNear 38 = .ok (.iload_n 1, 1) := by decide +kernel
theorem dX2_findNear_39 : decode cX2_findNear 39 = .ok (.iconst 0, 1) := by decide +kernel
theorem dX2_findNear_40 : decode cX2_findNear 40 = .ok (.invokevirtual 82, 3) := by decide +kernel
theorem dX2_findNear_43 : decode cX2_findNear 43 = .ok (.iload_n 1, 1) := by decide +kernel
theorem dX2_findNear_44 : decode cX2_findNear 44 = .ok (.invokevirtual 86, 3) := by decide +kernel
theorem dX2_findNear_47 : decode cX2_findNear 47 = .ok (.aload_n 0, 1) := by decide +kernel
theorem dX2_findNear_48 : decode cX2_findNear 48 = .ok (.aload_n 0, 1) := by decide +kernel
theorem dX2_findNear_49 : decode cX2_findNear 49 = .ok (.getfield 36, 3) := by decide +kernel
theorem dX2_findNear_52 : decode cX2_findNear 52 = .ok (.iload_n 1, 1) := by decide +kernel
theorem dX2_findNear_53 : decode cX2_findNear 53 = .ok (.iconst 1, 1) := by decide +kernel
theorem dX2_findNear_54 : decode cX2_findNear 54 = .ok (.invokevirtual 82, 3) := by decide +kernel
theorem dX2_findNear_57 : decode cX2_findNear 57 = .ok (.iload_n 1, 1) := by decide +kernel
theorem dX2_findNear_58 : decode cX2_findNear 58 = .ok (.invokevirtual 86, 3) := by decide +kernel
theorem dX2_findNear_61 : decode cX2_findNear 61 = .ok (.iinc 1 1, 3) := by decide +kernel
theorem dX2_findNear_64 : decode cX2_findNear 64 = .ok (.goto (-54), 3) := by decide +kernel
theorem dX2_findNear_67 : decode cX2_findNear 67 = .ok (.return_, 1) := by decide +kernel
theorem dX2_addNear_0 : decode cX2_addNear 0 = .ok (.aload_n 0, 1) := by decide +kernel
theorem dX2_addNear_1 : decode cX2_addNear 1 = .ok (.getfield 21, 3) := by decide +kernel
theorem dX2_addNear_4 : decode cX2_addNear 4 = .ok (.iload_n 1, 1) := by decide +kernel
theorem dX2_addNear_5 : decode cX2_addNear 5 = .ok (.bipush 24, 2) := by decide +kernel
theorem dX2_addNear_7 : decode cX2_addNear 7 = .ok (.imul, 1) := by decide +kernel
theorem dX2_addNear_8 : decode cX2_addNear 8 = .ok (.aload_n 0, 1) := by decide +kernel
theorem dX2_addNear_9 : decode cX2_addNear 9 = .ok (.getfield 24, 3) := by decide +kernel
theorem dX2_addNear_12 : decode cX2_addNear 12 = .ok (.iload_n 1, 1) := by decide +kernel
theorem dX2_addNear_13 : decode cX2_addNear 13 = .ok (.iaload, 1) := by decide +kernel
theorem dX2_addNear_14 : decode cX2_addNear 14 = .ok (.iadd, 1) := by decide +kernel
theorem dX2_addNear_15 : decode cX2_addNear 15 = .ok (.iload_n 2, 1) := by decide +kernel
theorem dX2_addNear_16 : decode cX2_addNear 16 = .ok (.iastore, 1) := by decide +kernel
theorem dX2_addNear_17 : decode cX2_addNear 17 = .ok (.aload_n 0, 1) := by decide +kernel
theorem dX2_addNear_18 : decode cX2_addNear 18 = .ok (.getfield 24, 3) := by decide +kernel
theorem dX2_addNear_21 : decode cX2_addNear 21 = .ok (.iload_n 1, 1) := by decide +kernel
theorem dX2_addNear_22 : decode cX2_addNear 22 = .ok (.dup2, 1) := by decide +kernel
theorem dX2_addNear_23 : decode cX2_addNear 23 = .ok (.iaload, 1) := by decide +kernel
theorem dX2_addNear_24 : decode cX2_addNear 24 = .ok (.iconst 1, 1) := by decide +kernel
theorem dX2_addNear_25 : decode cX2_addNear 25 = .ok (.iadd, 1) := by decide +kernel
theorem dX2_addNear_26 : decode cX2_addNear 26 = .ok (.iastore, 1) := by decide +kernel
theorem dX2_addNear_27 : decode cX2_addNear 27 = .ok (.return_, 1) := by decide +kernel
theorem dX2_search_0 : decode cX2_search 0 = .ok (.aload_n 0, 1) := by decide +kernel
theorem dX2_search_1 : decode cX2_search 1 = .ok (.getfield 27, 3) := by decide +kernel
theorem dX2_search_4 : decode cX2_search 4 = .ok (.iconst (-1), 1) := by decide +kernel
theorem dX2_search_5 : decode cX2_search 5 = .ok (.invokestatic 48, 3) := by decide +kernel
theorem dX2_search_8 : decode cX2_search 8 = .ok (.aload_n 0, 1) := by decide +kernel
theorem dX2_search_9 : decode cX2_search 9 = .ok (.iconst 0, 1) := by decide +kernel
theorem dX2_search_10 : decode cX2_search 10 = .ok (.putfield 90, 3) := by decide +kernel
theorem dX2_search_13 : decode cX2_search 13 = .ok (.iconst 0, 1) := by decide +kernel
theorem dX2_search_14 : decode cX2_search 14 = .ok (.istore_n 1, 1) := by decide +kernel
theorem dX2_search_15 : decode cX2_search 15 = .ok (.iload_n 1, 1) := by decide +kernel
theorem dX2_search_16 : decode cX2_search 16 = .ok (.aload_n 0, 1) := by decide +kernel
theorem dX2_search_17 : decode cX2_search 17 = .ok (.getfield 36, 3) := by decide +kernel
theorem dX2_search_20 : decode cX2_search 20 = .ok (.getfield 93, 3) := by decide +kernel
theorem dX2_search_23 : decode cX2_search 23 = .ok (.if_icmp .ge 29, 3) := by decide +kernel
theorem dX2_search_26 : decode cX2_search 26 = .ok (.aload_n 0, 1) := by decide +kernel
theorem dX2_search_27 : decode cX2_search 27 = .ok (.getfield 18, 3) := by decide +kernel
theorem dX2_search_30 : decode cX2_search 30 = .ok (.iload_n 1, 1) := by decide +kernel
theorem dX2_search_31 : decode cX2_search 31 = .ok (.iaload, 1) := by decide +kernel
theorem dX2_search_32 : decode cX2_search 32 = .ok (.ifCond .le 14, 3) := by decide +kernel
theorem dX2_search_35 : decode cX2_search 35 = .ok (.aload_n 0, 1) := by decide +kernel
theorem dX2_search_36 : decode cX2_search 36 = .ok (.iload_n 1, 1) := by decide +kernel
theorem dX2_search_37 : decode cX2_search 37 = .ok (.bipush 61, 2) := by decide +kernel
theorem dX2_search_39 : decode cX2_search 39 = .ok (.imul, 1) := by decide +kernel
theorem dX2_search_40 : decode cX2_search 40 = .ok (.bipush (-2), 2) := by decide +kernel
theorem dX2_search_42 : decode cX2_search 42 = .ok (.iconst 0, 1) := by decide +kernel
theorem dX2_search_43 : decode cX2_search 43 = .ok (.invokevirtual 96, 3) := by decide +kernel
theorem dX2_search_46 : decode cX2_search 46 = .ok (.iinc 1 1, 3) := by decide +kernel
theorem dX2_search_49 : decode cX2_search 49 = .ok (.goto (-34), 3) := by decide +kernel
theorem dX2_search_52 : decode cX2_search 52 = .ok (.iconst 0, 1) := by decide +kernel
theorem dX2_search_53 : decode cX2_search 53 = .ok (.istore_n 1, 1) := by decide +kernel
theorem dX2_search_54 : decode cX2_search 54 = .ok (.iload_n 1, 1) := by decide +kernel
theorem dX2_search_55 : decode cX2_search 55 = .ok (.aload_n 0, 1) := by decide +kernel
theorem dX2_search_56 : decode cX2_search 56 = .ok (.getfield 90, 3) := by decide +kernel
theorem dX2_search_59 : decode cX2_search 59 = .ok (.if_icmp .ge 110, 3) := by decide +kernel
theorem dX2_search_62 : decode cX2_search 62 = .ok (.iload_n 1, 1) := by decide +kernel
theorem dX2_search_63 : decode cX2_search 63 = .ok (.sipush 732, 3) := by decide +kernel
theorem dX2_search_66 : decode cX2_search 66 = .ok (.if_icmp .ge 103, 3) := by decide +kernel
theorem dX2_search_69 : decode cX2_search 69 = .ok (.aload_n 0, 1) := by decide +kernel
theorem dX2_search_70 : decode cX2_search 70 = .ok (.getfield 33, 3) := by decide +kernel
theorem dX2_search_73 : decode cX2_search 73 = .ok (.iload_n 1, 1) := by decide +kernel
theorem dX2_search_74 : decode cX2_search 74 = .ok (.iaload, 1) := by decide +kernel
theorem dX2_search_75 : decode cX2_search 75 = .ok (.istore_n 2, 1) := by decide +kernel
theorem dX2_search_76 : decode cX2_search 76 = .ok (.iload_n 2, 1) := by decide +kernel
theorem dX2_search_77 : decode cX2_search 77 = .ok (.bipush 61, 2) := by decide +kernel
theorem dX2_search_79 : decode cX2_search 79 = .ok (.idiv, 1) := by decide +kernel
theorem dX2_search_80 : decode cX2_search 80 = .ok (.istore_n 3, 1) := by decide +kernel
theorem dX2_search_81 : decode cX2_search 81 = .ok (.iload_n 2, 1) := by decide +kernel
theorem dX2_search_82 : decode cX2_search 82 = .ok (.bipush 61, 2) := by decide +kernel
theorem dX2_search_84 : decode cX2_search 84 = .ok (.irem, 1) := by decide +kernel
theorem dX2_search_85 : decode cX2_search 85 = .ok (.istore 4, 2) := by decide +kernel
theorem dX2_search_87 : decode cX2_search 87 = .ok (.iload_n 3, 1) := by decide +kernel
theorem dX2_search_88 : decode cX2_search 88 = .ok (.aload_n 0, 1) := by decide +kernel
theorem dX2_search_89 : decode cX2_search 89 = .ok (.getfield 36, 3) := by decide +kernel
theorem dX2_search_92 : decode cX2_search 92 = .ok (.getfield 100, 3) := by decide +kernel
theorem dX2_search_95 : decode cX2_search 95 = .ok (.if_icmp .ne 22, 3) := by decide +kernel
theorem dX2_search_98 : decode cX2_search 98 = .ok (.aload_n 0, 1) := by decide +kernel
theorem dX2_search_99 : decode cX2_search 99 = .ok (.getfield 15, 3) := by decide +kernel
theorem dX2_search_102 : decode cX2_search 102 = .ok (.iload 4, 2) := by decide +kernel
theorem dX2_search_104 : decode cX2_search 104 = .ok (.iaload, 1) := by decide +kernel
theorem dX2_search_105 : decode cX2_search 105 = .ok (.aload_n 0, 1) := by decide +kernel
theorem dX2_search_106 : decode cX2_search 106 = .ok (.getfield 36, 3) := by decide +kernel
theorem dX2_search_109 : decode cX2_search 109 = .ok (.getfield 103, 3) := by decide +kernel
theorem dX2_search_112 : decode cX2_search 112 = .ok (.if_icmp .ge 5, 3) := by decide +kernel
theorem dX2_search_115 : decode cX2_search 115 = .ok (.iload_n 2, 1) := by decide +kernel
theorem dX2_search_116 : decode cX2_search 116 = .ok (.ireturn, 1) := by decide +kernel
theorem dX2_search_117 : decode cX2_search 117 = .ok (.aload_n 0, 1) := by decide +kernel
theorem dX2_search_118 : decode cX2_search 118 = .ok (.iload_n 2, 1) := by decide +kernel
theorem dX2_search_119 : decode cX2_search 119 = .ok (.iload 4, 2) := by decide +kernel
theorem dX2_search_121 : decode cX2_search 121 = .ok (.invokevirtual 106, 3) := by decide +kernel
theorem dX2_search_124 : decode cX2_search 124 = .ok (.iconst 0, 1) := by decide +kernel
theorem dX2_search_125 : decode cX2_search 125 = .ok (.istore 5, 2) := by decide +kernel
theorem dX2_search_127 : decode cX2_search 127 = .ok (.iload 5, 2) := by decide +kernel
theorem dX2_search_129 : decode cX2_search 129 = .ok (.aload_n 0, 1) := by decide +kernel
theorem dX2_search_130 : decode cX2_search 130 = .ok (.getfield 24, 3) := by decide +kernel
theorem dX2_search_133 : decode cX2_search 133 = .ok (.iload_n 3, 1) := by decide +kernel
theorem dX2_search_134 : decode cX2_search 134 = .ok (.iaload, 1) := by decide +kernel
theorem dX2_search_135 : decode cX2_search 135 = .ok (.if_icmp .ge 28, 3) := by decide +kernel
theorem dX2_search_138 : decode cX2_search 138 = .ok (.aload_n 0, 1) := by decide +kernel
theorem dX2_search_139 : decode cX2_search 139 = .ok (.aload_n 0, 1) := by decide +kernel
theorem dX2_search_140 : decode cX2_search 140 = .ok (.getfield 21, 3) := by decide +kernel
theorem dX2_search_143 : decode cX2_search 143 = .ok (.iload_n 3, 1) := by decide +kernel
theorem dX2_search_144 : decode cX2_search 144 = .ok (.bipush 24, 2) := by decide +kernel
theorem dX2_search_146 : decode cX2_search 146 = .ok (.imul, 1) := by decide +kernel
theorem dX2_search_147 : decode cX2_search 147 = .ok (.iload 5, 2) := by decide +kernel
theorem dX2_search_149 : decode cX2_search 149 = .ok (.iadd, 1) := by decide +kernel
theorem dX2_search_150 : decode cX2_search 150 = .ok (.iaload, 1) := by decide +kernel
theorem dX2_search_151 : decode cX2_search 151 = .ok (.iload_n 3, 1) := by decide +kernel
theorem dX2_search_152 : decode cX2_search 152 = .ok (.iload 4, 2) := by decide +kernel
theorem dX2_search_154 : decode cX2_search 154 = .ok (.invokevirtual 109, 3) := by decide +kernel
theorem dX2_search_157 : decode cX2_search 157 = .ok (.iinc 5 1, 3) := by decide +kernel
theorem dX2_search_160 : decode cX2_search 160 = .ok (.goto (-33), 3) := by decide +kernel
theorem dX2_search_163 : decode cX2_search 163 = .ok (.iinc 1 1, 3) := by decide +kernel
theorem dX2_search_166 : decode cX2_search 166 = .ok (.goto (-112), 3) := by decide +kernel
theorem dX2_search_169 : decode cX2_search 169 = .ok (.iconst (-1), 1) := by decide +kernel
theorem dX2_search_170 : decode cX2_search 170 = .ok (.ireturn, 1) := by decide +kernel
theorem dX2_see_0 : decode cX2_see 0 = .ok (.aload_n 0, 1) := by decide +kernel
theorem dX2_see_1 : decode cX2_see 1 = .ok (.getfield 27, 3) := by decide +kernel
theorem dX2_see_4 : decode cX2_see 4 = .ok (.iload_n 1, 1) := by decide +kernel
theorem dX2_see_5 : decode cX2_see 5 = .ok (.iaload, 1) := by decide +kernel
theorem dX2_see_6 : decode cX2_see 6 = .ok (.iconst (-1), 1) := by decide +kernel
theorem dX2_see_7 : decode cX2_see 7 = .ok (.if_icmp .ne 47, 3) := by decide +kernel
theorem dX2_see_10 : decode cX2_see 10 = .ok (.aload_n 0, 1) := by decide +kernel
theorem dX2_see_11 : decode cX2_see 11 = .ok (.getfield 90, 3) := by decide +kernel
theorem dX2_see_14 : decode cX2_see 14 = .ok (.sipush 732, 3) := by decide +kernel
theorem dX2_see_17 : decode cX2_see 17 = .ok (.if_icmp .ge 37, 3) := by decide +kernel
theorem dX2_see_20 : decode cX2_see 20 = .ok (.aload_n 0, 1) := by decide +kernel
theorem dX2_see_21 : decode cX2_see 21 = .ok (.getfield 27, 3) := by decide +kernel
theorem dX2_see_24 : decode cX2_see 24 = .ok (.iload_n 1, 1) := by decide +kernel
theorem dX2_see_25 : decode cX2_see 25 = .ok (.iload_n 2, 1) := by decide +kernel
theorem dX2_see_26 : decode cX2_see 26 = .ok (.iastore, 1) := by decide +kernel
theorem dX2_see_27 : decode cX2_see 27 = .ok (.aload_n 0, 1) := by decide +kernel
theorem dX2_see_28 : decode cX2_see 28 = .ok (.getfield 30, 3) := by decide +kernel
theorem dX2_see_31 : decode cX2_see 31 = .ok (.iload_n 1, 1) := by decide +kernel
theorem dX2_see_32 : decode cX2_see 32 = .ok (.iload_n 3, 1) := by decide +kernel
theorem dX2_see_33 : decode cX2_see 33 = .ok (.iastore, 1) := by decide +kernel
theorem dX2_see_34 : decode cX2_see 34 = .ok (.aload_n 0, 1) := by decide +kernel
theorem dX2_see_35 : decode cX2_see 35 = .ok (.getfield 33, 3) := by decide +kernel
theorem dX2_see_38 : decode cX2_see 38 = .ok (.aload_n 0, 1) := by decide +kernel
theorem dX2_see_39 : decode cX2_see 39 = .ok (.getfield 90, 3) := by decide +kernel
theorem dX2_see_42 : decode cX2_see 42 = .ok (.iload_n 1, 1) := by decide +kernel
theorem dX2_see_43 : decode cX2_see 43 = .ok (.iastore, 1) := by decide +kernel
theorem dX2_see_44 : decode cX2_see 44 = .ok (.aload_n 0, 1) := by decide +kernel
theorem dX2_see_45 : decode cX2_see 45 = .ok (.dup, 1) := by decide +kernel
theorem dX2_see_46 : decode cX2_see 46 = .ok (.getfield 90, 3) := by decide +kernel
theorem dX2_see_49 : decode cX2_see 49 = .ok (.iconst 1, 1) := by decide +kernel
theorem dX2_see_50 : decode cX2_see 50 = .ok (.iadd, 1) := by decide +kernel
theorem dX2_see_51 : decode cX2_see 51 = .ok (.putfield 90, 3) := by decide +kernel
theorem dX2_see_54 : decode cX2_see 54 = .ok (.return_, 1) := by decide +kernel
theorem dX2_seeByWaiting_0 : decode cX2_seeByWaiting 0 = .ok (.iload_n 2, 1) := by decide +kernel
theorem dX2_seeByWaiting_1 : decode cX2_seeByWaiting 1 = .ok (.aload_n 0, 1) := by decide +kernel
theorem dX2_seeByWaiting_2 : decode cX2_seeByWaiting 2 = .ok (.getfield 44, 3) := by decide +kernel
theorem dX2_seeByWaiting_5 : decode cX2_seeByWaiting 5 = .ok (.if_icmp .ge 16, 3) := by decide +kernel
theorem dX2_seeByWaiting_8 : decode cX2_seeByWaiting 8 = .ok (.aload_n 0, 1) := by decide +kernel
theorem dX2_seeByWaiting_9 : decode cX2_seeByWaiting 9 = .ok (.iload_n 1, 1) := by decide +kernel
theorem dX2_seeByWaiting_10 : decode cX2_seeByWaiting 10 = .ok (.iconst 1, 1) := by decide +kernel
theorem dX2_seeByWaiting_11 : decode cX2_seeByWaiting 11 = .ok (.iadd, 1) := by decide +kernel
theorem dX2_seeByWaiting_12 : decode cX2_seeByWaiting 12 = .ok (.iload_n 1, 1) := by decide +kernel
theorem dX2_seeByWaiting_13 : decode cX2_seeByWaiting 13 = .ok (.sipush 2928, 3) := by decide +kernel
theorem dX2_seeByWaiting_16 : decode cX2_seeByWaiting 16 = .ok (.iload_n 1, 1) := by decide +kernel
theorem dX2_seeByWaiting_17 : decode cX2_seeByWaiting 17 = .ok (.iadd, 1) := by decide +kernel
theorem dX2_seeByWaiting_18 : decode cX2_seeByWaiting 18 = .ok (.invokevirtual 96, 3) := by decide +kernel
theorem dX2_seeByWaiting_21 : decode cX2_seeByWaiting 21 = .ok (.iload_n 2, 1) := by decide +kernel
theorem dX2_seeByWaiting_22 : decode cX2_seeByWaiting 22 = .ok (.ifCond .le 35, 3) := by decide +kernel
theorem dX2_seeByWaiting_25 : decode cX2_seeByWaiting 25 = .ok (.aload_n 0, 1) := by decide +kernel
theorem dX2_seeByWaiting_26 : decode cX2_seeByWaiting 26 = .ok (.getfield 11, 3) := by decide +kernel
theorem dX2_seeByWaiting_29 : decode cX2_seeByWaiting 29 = .ok (.sipush 2928, 3) := by decide +kernel
theorem dX2_seeByWaiting_32 : decode cX2_seeByWaiting 32 = .ok (.iload_n 1, 1) := by decide +kernel
theorem dX2_seeByWaiting_33 : decode cX2_seeByWaiting 33 = .ok (.iadd, 1) := by decide +kernel
theorem dX2_seeByWaiting_34 : decode cX2_seeByWaiting 34 = .ok (.iconst 1, 1) := by decide +kernel
theorem dX2_seeByWaiting_35 : decode cX2_seeByWaiting 35 = .ok (.isub, 1) := by decide +kernel
theorem dX2_seeByWaiting_36 : decode cX2_seeByWaiting 36 = .ok (.iaload, 1) := by decide +kernel
theorem dX2_seeByWaiting_37 : decode cX2_seeByWaiting 37 = .ok (.ifCond .le 20, 3) := by decide +kernel
theorem dX2_seeByWaiting_40 : decode cX2_seeByWaiting 40 = .ok (.aload_n 0, 1) := by decide +kernel
theorem dX2_seeByWaiting_41 : decode cX2_seeByWaiting 41 = .ok (.iload_n 1, 1) := by decide +kernel
theorem dX2_seeByWaiting_42 : decode cX2_seeByWaiting 42 = .ok (.iconst 1, 1) := by decide +kernel
theorem dX2_seeByWaiting_43 : decode cX2_seeByWaiting 43 = .ok (.isub, 1) := by decide +kernel
theorem dX2_seeByWaiting_44 : decode cX2_seeByWaiting 44 = .ok (.iload_n 1, 1) := by decide +kernel
theorem dX2_seeByWaiting_45 : decode cX2_seeByWaiting 45 = .ok (.iconst (-1), 1) := by decide +kernel
theorem dX2_seeByWaiting_46 : decode cX2_seeByWaiting 46 = .ok (.sipush 2928, 3) := by decide +kernel
theorem dX2_seeByWaiting_49 : decode cX2_seeByWaiting 49 = .ok (.iload_n 1, 1) := by decide +kernel
theorem dX2_seeByWaiting_50 : decode cX2_seeByWaiting 50 = .ok (.iadd, 1) := by decide +kernel
theorem dX2_seeByWaiting_51 : decode cX2_seeByWaiting 51 = .ok (.iconst 1, 1) := by decide +kernel
theorem dX2_seeByWaiting_52 : decode cX2_seeByWaiting 52 = .ok (.isub, 1) := by decide +kernel
theorem dX2_seeByWaiting_53 : decode cX2_seeByWaiting 53 = .ok (.isub, 1) := by decide +kernel
theorem dX2_seeByWaiting_54 : decode cX2_seeByWaiting 54 = .ok (.invokevirtual 96, 3) := by decide +kernel
theorem dX2_seeByWaiting_57 : decode cX2_seeByWaiting 57 = .ok (.return_, 1) := by decide +kernel
theorem dX2_seeByWay_0 : decode cX2_seeByWay 0 = .ok (.aload_n 0, 1) := by decide +kernel
theorem dX2_seeByWay_1 : decode cX2_seeByWay 1 = .ok (.getfield 36, 3) := by decide +kernel
theorem dX2_seeByWay_4 : decode cX2_seeByWay 4 = .ok (.iload_n 1, 1) := by decide +kernel
theorem dX2_seeByWay_5 : decode cX2_seeByWay 5 = .ok (.iload_n 2, 1) := by decide +kernel
theorem dX2_seeByWay_6 : decode cX2_seeByWay 6 = .ok (.invokevirtual 112, 3) := by decide +kernel
theorem dX2_seeByWay_9 : decode cX2_seeByWay 9 = .ok (.istore 4, 2) := by decide +kernel
theorem dX2_seeByWay_11 : decode cX2_seeByWay 11 = .ok (.aload_n 0, 1) := by decide +kernel
theorem dX2_seeByWay_12 : decode cX2_seeByWay 12 = .ok (.getfield 36, 3) := by decide +kernel
theorem dX2_seeByWay_15 : decode cX2_seeByWay 15 = .ok (.iload_n 1, 1) := by decide +kernel
theorem dX2_seeByWay_16 : decode cX2_seeByWay 16 = .ok (.iconst 2, 1) := by decide +kernel
theorem dX2_seeByWay_17 : decode cX2_seeByWay 17 = .ok (.invokevirtual 82, 3) := by decide +kernel
theorem dX2_seeByWay_20 : decode cX2_seeByWay 20 = .ok (.istore 5, 2) := by decide +kernel
theorem dX2_seeByWay_22 : decode cX2_seeByWay 22 = .ok (.iload_n 3, 1) := by decide +kernel
theorem dX2_seeByWay_23 : decode cX2_seeByWay 23 = .ok (.iload 5, 2) := by decide +kernel
theorem dX2_seeByWay_25 : decode cX2_seeByWay 25 = .ok (.iadd, 1) := by decide +kernel
theorem dX2_seeByWay_26 : decode cX2_seeByWay 26 = .ok (.istore 6, 2) := by decide +kernel
theorem dX2_seeByWay_28 : decode cX2_seeByWay 28 = .ok (.aload_n 0, 1) := by decide +kernel
theorem dX2_seeByWay_29 : decode cX2_seeByWay 29 = .ok (.iload_n 1, 1) := by decide +kernel
theorem dX2_seeByWay_30 : decode cX2_seeByWay 30 = .ok (.iload_n 2, 1) := by decide +kernel
theorem dX2_seeByWay_31 : decode cX2_seeByWay 31 = .ok (.iload_n 3, 1) := by decide +kernel
theorem dX2_seeByWay_32 : decode cX2_seeByWay 32 = .ok (.invokevirtual 115, 3) := by decide +kernel
theorem dX2_seeByWay_35 : decode cX2_seeByWay 35 = .ok (.istore 7, 2) := by decide +kernel
theorem dX2_seeByWay_37 : decode cX2_seeByWay 37 = .ok (.iload 6, 2) := by decide +kernel
theorem dX2_seeByWay_39 : decode cX2_seeByWay 39 = .ok (.aload_n 0, 1) := by decide +kernel
theorem dX2_seeByWay_40 : decode cX2_seeByWay 40 = .ok (.getfield 44, 3) := by decide +kernel
theorem dX2_seeByWay_43 : decode cX2_seeByWay 43 = .ok (.aload_n 0, 1) := by decide +kernel
theorem dX2_seeByWay_44 : decode cX2_seeByWay 44 = .ok (.getfield 36, 3) := by decide +kernel
theorem dX2_seeByWay_47 : decode cX2_seeByWay 47 = .ok (.iload_n 1, 1) := by decide +kernel
theorem dX2_seeByWay_48 : decode cX2_seeByWay 48 = .ok (.iconst 5, 1) := by decide +kernel
theorem dX2_seeByWay_49 : decode cX2_seeByWay 49 = .ok (.invokevirtual 82, 3) := by decide +kernel
theorem dX2_seeByWay_52 : decode cX2_seeByWay 52 = .ok (.invokestatic 119, 3) := by decide +kernel
theorem dX2_seeByWay_55 : decode cX2_seeByWay 55 = .ok (.if_icmp .gt 42, 3) := by decide +kernel
theorem dX2_seeByWay_58 : decode cX2_seeByWay 58 = .ok (.aload_n 0, 1) := by decide +kernel
theorem dX2_seeByWay_59 : decode cX2_seeByWay 59 = .ok (.getfield 11, 3) := by decide +kernel
theorem dX2_seeByWay_62 : decode cX2_seeByWay 62 = .ok (.iload 7, 2) := by decide +kernel
theorem dX2_seeByWay_64 : decode cX2_seeByWay 64 = .ok (.iaload, 1) := by decide +kernel
theorem dX2_seeByWay_65 : decode cX2_seeByWay 65 = .ok (.aload_n 0, 1) := by decide +kernel
theorem dX2_seeByWay_66 : decode cX2_seeByWay 66 = .ok (.getfield 36, 3) := by decide +kernel
theorem dX2_seeByWay_69 : decode cX2_seeByWay 69 = .ok (.iload_n 1, 1) := by decide +kernel
theorem dX2_seeByWay_70 : decode cX2_seeByWay 70 = .ok (.iconst 4, 1) := by decide +kernel
theorem dX2_seeByWay_71 : decode cX2_seeByWay 71 = .ok (.invokevirtual 82, 3) := by decide +kernel
theorem dX2_seeByWay_74 : decode cX2_seeByWay 74 = .ok (.if_icmp .ge 23, 3) := by decide +kernel
theorem dX2_seeByWay_77 : decode cX2_seeByWay 77 = .ok (.aload_n 0, 1) := by decide +kernel
theorem dX2_seeByWay_78 : decode cX2_seeByWay 78 = .ok (.iload 4, 2) := by decide +kernel
theorem dX2_seeByWay_80 : decode cX2_seeByWay 80 = .ok (.bipush 61, 2) := by decide +kernel
theorem dX2_seeByWay_82 : decode cX2_seeByWay 82 = .ok (.imul, 1) := by decide +kernel
theorem dX2_seeByWay_83 : decode cX2_seeByWay 83 = .ok (.iload 6, 2) := by decide +kernel
theorem dX2_seeByWay_85 : decode cX2_seeByWay 85 = .ok (.iadd, 1) := by decide +kernel
theorem dX2_seeByWay_86 : decode cX2_seeByWay 86 = .ok (.iload_n 2, 1) := by decide +kernel
theorem dX2_seeByWay_87 : decode cX2_seeByWay 87 = .ok (.bipush 61, 2) := by decide +kernel
theorem dX2_seeByWay_89 : decode cX2_seeByWay 89 = .ok (.imul, 1) := by decide +kernel
theorem dX2_seeByWay_90 : decode cX2_seeByWay 90 = .ok (.iload_n 3, 1) := by decide +kernel
theorem dX2_seeByWay_91 : decode cX2_seeByWay 91 = .ok (.iadd, 1) := by decide +kernel
theorem dX2_seeByWay_92 : decode cX2_seeByWay 92 = .ok (.iload 7, 2) := by decide +kernel
theorem dX2_seeByWay_94 : decode cX2_seeByWay 94 = .ok (.invokevirtual 96, 3) := by decide +kernel
theorem dX2_seeByWay_97 : decode cX2_seeByWay 97 = .ok (.iload_n 3, 1) := by decide +kernel
theorem dX2_seeByWay_98 : decode cX2_seeByWay 98 = .ok (.iload 5, 2) := by decide +kernel
theorem dX2_seeByWay_100 : decode cX2_seeByWay 100 = .ok (.isub, 1) := by decide +kernel
theorem dX2_seeByWay_101 : decode cX2_seeByWay 101 = .ok (.istore 8, 2) := by decide +kernel
theorem dX2_seeByWay_103 : decode cX2_seeByWay 103 = .ok (.iload 8, 2) := by decide +kernel
theorem dX2_seeByWay_105 : decode cX2_seeByWay 105 = .ok (.ifCond .lt 46, 3) := by decide +kernel
theorem dX2_seeByWay_108 : decode cX2_seeByWay 108 = .ok (.aload_n 0, 1) := by decide +kernel
theorem dX2_seeByWay_109 : decode cX2_seeByWay 109 = .ok (.iload_n 1, 1) := by decide +kernel
theorem dX2_seeByWay_110 : decode cX2_seeByWay 110 = .ok (.iload 4, 2) := by decide +kernel
theorem dX2_seeByWay_112 : decode cX2_seeByWay 112 = .ok (.iload 8, 2) := by decide +kernel
theorem dX2_seeByWay_114 : decode cX2_seeByWay 114 = .ok (.invokevirtual 115, 3) := by decide +kernel
theorem dX2_seeByWay_117 : decode cX2_seeByWay 117 = .ok (.istore 9, 2) := by decide +kernel
theorem dX2_seeByWay_119 : decode cX2_seeByWay 119 = .ok (.aload_n 0, 1) := by decide +kernel
theorem dX2_seeByWay_120 : decode cX2_seeByWay 120 = .ok (.getfield 11, 3) := by decide +kernel
theorem dX2_seeByWay_123 : decode cX2_seeByWay 123 = .ok (.iload 9, 2) := by decide +kernel
theorem dX2_seeByWay_125 : decode cX2_seeByWay 125 = .ok (.iaload, 1) := by decide +kernel
theorem dX2_seeByWay_126 : decode cX2_seeByWay 126 = .ok (.ifCond .le 25, 3) := by decide +kernel
theorem dX2_seeByWay_129 : decode cX2_seeByWay 129 = .ok (.aload_n 0, 1) := by decide +kernel
theorem dX2_seeByWay_130 : decode cX2_seeByWay 130 = .ok (.iload 4, 2) := by decide +kernel
theorem dX2_seeByWay_132 : decode cX2_seeByWay 132 = .ok (.bipush 61, 2) := by decide +kernel
theorem dX2_seeByWay_134 : decode cX2_seeByWay 134 = .ok (.imul, 1) := by decide +kernel
theorem dX2_seeByWay_135 : decode cX2_seeByWay 135 = .ok (.iload 8, 2) := by decide +kernel
theorem dX2_seeByWay_137 : decode cX2_seeByWay 137 = .ok (.iadd, 1) := by decide +kernel
theorem dX2_seeByWay_138 : decode cX2_seeByWay 138 = .ok (.iload_n 2, 1) := by decide +kernel
theorem dX2_seeByWay_139 : decode cX2_seeByWay 139 = .ok (.bipush 61, 2) := by decide +kernel
theorem dX2_seeByWay_141 : decode cX2_seeByWay 141 = .ok (.imul, 1) := by decide +kernel
theorem dX2_seeByWay_142 : decode cX2_seeByWay 142 = .ok (.iload_n 3, 1) := by decide +kernel
theorem dX2_seeByWay_143 : decode cX2_seeByWay 143 = .ok (.iadd, 1) := by decide +kernel
theorem dX2_seeByWay_144 : decode cX2_seeByWay 144 = .ok (.iconst (-1), 1) := by decide +kernel
theorem dX2_seeByWay_145 : decode cX2_seeByWay 145 = .ok (.iload 9, 2) := by decide +kernel
theorem dX2_seeByWay_147 : decode cX2_seeByWay 147 = .ok (.isub, 1) := by decide +kernel
theorem dX2_seeByWay_148 : decode cX2_seeByWay 148 = .ok (.invokevirtual 96, 3) := by decide +kernel
theorem dX2_seeByWay_151 : decode cX2_seeByWay 151 = .ok (.return_, 1) := by decide +kernel
theorem dX2_stepInto_0 : decode cX2_stepInto 0 = .ok (.iload_n 2, 1) := by decide +kernel
theorem dX2_stepInto_1 : decode cX2_stepInto 1 = .ok (.aload_n 0, 1) := by decide +kernel
theorem dX2_stepInto_2 : decode cX2_stepInto 2 = .ok (.getfield 36, 3) := by decide +kernel
theorem dX2_stepInto_5 : decode cX2_stepInto 5 = .ok (.iload_n 1, 1) := by decide +kernel
theorem dX2_stepInto_6 : decode cX2_stepInto 6 = .ok (.iconst 0, 1) := by decide +kernel
theorem dX2_stepInto_7 : decode cX2_stepInto 7 = .ok (.invokevirtual 82, 3) := by decide +kernel
theorem dX2_stepInto_10 : decode cX2_stepInto 10 = .ok (.if_icmp .ne 7, 3) := by decide +kernel
theorem dX2_stepInto_13 : decode cX2_stepInto 13 = .ok (.iconst 0, 1) := by decide +kernel
theorem dX2_stepInto_14 : decode cX2_stepInto 14 = .ok (.goto 4, 3) := by decide +kernel
theorem dX2_stepInto_17 : decode cX2_stepInto 17 = .ok (.iconst 1, 1) := by decide +kernel
theorem dX2_stepInto_18 : decode cX2_stepInto 18 = .ok (.istore 4, 2) := by decide +kernel
theorem dX2_stepInto_20 : decode cX2_stepInto 20 = .ok (.iconst 2, 1) := by decide +kernel
theorem dX2_stepInto_21 : decode cX2_stepInto 21 = .ok (.iload_n 1, 1) := by decide +kernel
theorem dX2_stepInto_22 : decode cX2_stepInto 22 = .ok (.imul, 1) := by decide +kernel
theorem dX2_stepInto_23 : decode cX2_stepInto 23 = .ok (.iload 4, 2) := by decide +kernel
theorem dX2_stepInto_25 : decode cX2_stepInto 25 = .ok (.iadd, 1) := by decide +kernel
theorem dX2_stepInto_26 : decode cX2_stepInto 26 = .ok (.bipush 61, 2) := by decide +kernel
theorem dX2_stepInto_28 : decode cX2_stepInto 28 = .ok (.imul, 1) := by decide +kernel
theorem dX2_stepInto_29 : decode cX2_stepInto 29 = .ok (.iload_n 3, 1) := by decide +kernel
theorem dX2_stepInto_30 : decode cX2_stepInto 30 = .ok (.iadd, 1) := by decide +kernel
theorem dX2_stepInto_31 : decode cX2_stepInto 31 = .ok (.ireturn, 1) := by decide +kernel
theorem dX2_send_0 : decode cX2_send 0 = .ok (.aload_n 0, 1) := by decide +kernel
theorem dX2_send_1 : decode cX2_send 1 = .ok (.getfield 15, 3) := by decide +kernel
theorem dX2_send_4 : decode cX2_send 4 = .ok (.iload_n 1, 1) := by decide +kernel
theorem dX2_send_5 : decode cX2_send 5 = .ok (.bipush 61, 2) := by decide +kernel
theorem dX2_send_7 : decode cX2_send 7 = .ok (.irem, 1) := by decide +kernel
theorem dX2_send_8 : decode cX2_send 8 = .ok (.dup2, 1) := by decide +kernel
theorem dX2_send_9 : decode cX2_send 9 = .ok (.iaload, 1) := by decide +kernel
theorem dX2_send_10 : decode cX2_send 10 = .ok (.iconst 1, 1) := by decide +kernel
theorem dX2_send_11 : decode cX2_send 11 = .ok (.iadd, 1) := by decide +kernel
theorem dX2_send_12 : decode cX2_send 12 = .ok (.iastore, 1) := by decide +kernel
theorem dX2_send_13 : decode cX2_send 13 = .ok (.iload_n 1, 1) := by decide +kernel
theorem dX2_send_14 : decode cX2_send 14 = .ok (.istore_n 2, 1) := by decide +kernel
theorem dX2_send_15 : decode cX2_send 15 = .ok (.iconst 0, 1) := by decide +kernel
theorem dX2_send_16 : decode cX2_send 16 = .ok (.istore_n 3, 1) := by decide +kernel
theorem dX2_send_17 : decode cX2_send 17 = .ok (.iload_n 3, 1) := by decide +kernel
theorem dX2_send_18 : decode cX2_send 18 = .ok (.sipush 732, 3) := by decide +kernel
theorem dX2_send_21 : decode cX2_send 21 = .ok (.if_icmp .ge 65, 3) := by decide +kernel
theorem dX2_send_24 : decode cX2_send 24 = .ok (.aload_n 0, 1) := by decide +kernel
theorem dX2_send_25 : decode cX2_send 25 = .ok (.getfield 27, 3) := by decide +kernel
theorem dX2_send_28 : decode cX2_send 28 = .ok (.iload_n 2, 1) := by decide +kernel
theorem dX2_send_29 : decode cX2_send 29 = .ok (.iaload, 1) := by decide +kernel
theorem dX2_send_30 : decode cX2_send 30 = .ok (.ifCond .lt 56, 3) := by decide +kernel
theorem dX2_send_33 : decode cX2_send 33 = .ok (.aload_n 0, 1) := by decide +kernel
theorem dX2_send_34 : decode cX2_send 34 = .ok (.getfield 30, 3) := by decide +kernel
theorem dX2_send_37 : decode cX2_send 37 = .ok (.iload_n 2, 1) := by decide +kernel
theorem dX2_send_38 : decode cX2_send 38 = .ok (.iaload, 1) := by decide +kernel
theorem dX2_send_39 : decode cX2_send 39 = .ok (.istore 4, 2) := by decide +kernel
theorem dX2_send_41 : decode cX2_send 41 = .ok (.iload 4, 2) := by decide +kernel
theorem dX2_send_43 : decode cX2_send 43 = .ok (.ifCond .lt 17, 3) := by decide +kernel
theorem dX2_send_46 : decode cX2_send 46 = .ok (.aload_n 0, 1) := by decide +kernel
theorem dX2_send_47 : decode cX2_send 47 = .ok (.getfield 11, 3) := by decide +kernel
theorem dX2_send_50 : decode cX2_send 50 = .ok (.iload 4, 2) := by decide +kernel
theorem dX2_send_52 : decode cX2_send 52 = .ok (.dup2, 1) := by decide +kernel
theorem dX2_send_53 : decode cX2_send 53 = .ok (.iaload, 1) := by decide +kernel
theorem dX2_send_54 : decode cX2_send 54 = .ok (.iconst 1, 1) := by decide +kernel
theorem dX2_send_55 : decode cX2_send 55 = .ok (.iadd, 1) := by decide +kernel
theorem dX2_send_56 : decode cX2_send 56 = .ok (.iastore, 1) := by decide +kernel
theorem dX2_send_57 : decode cX2_send 57 = .ok (.goto 16, 3) := by decide +kernel
theorem dX2_send_60 : decode cX2_send 60 = .ok (.aload_n 0, 1) := by decide +kernel
theorem dX2_send_61 : decode cX2_send 61 = .ok (.getfield 11, 3) := by decide +kernel
theorem dX2_send_64 : decode cX2_send 64 = .ok (.iconst (-1), 1) := by decide +kernel
theorem dX2_send_65 : decode cX2_send 65 = .ok (.iload 4, 2) := by decide +kernel
theorem dX2_send_67 : decode cX2_send 67 = .ok (.isub, 1) := by decide +kernel
theorem dX2_send_68 : decode cX2_send 68 = .ok (.dup2, 1) := by decide +kernel
theorem dX2_send_69 : decode cX2_send 69 = .ok (.iaload, 1) := by decide +kernel
theorem dX2_send_70 : decode cX2_send 70 = .ok (.iconst 1, 1) := by decide +kernel
theorem dX2_send_71 : decode cX2_send 71 = .ok (.isub, 1) := by decide +kernel
theorem dX2_send_72 : decode cX2_send 72 = .ok (.iastore, 1) := by decide +kernel
theorem dX2_send_73 : decode cX2_send 73 = .ok (.aload_n 0, 1) := by decide +kernel
theorem dX2_send_74 : decode cX2_send 74 = .ok (.getfield 27, 3) := by decide +kernel
theorem dX2_send_77 : decode cX2_send 77 = .ok (.iload_n 2, 1) := by decide +kernel
theorem dX2_send_78 : decode cX2_send 78 = .ok (.iaload, 1) := by decide +kernel
theorem dX2_send_79 : decode cX2_send 79 = .ok (.istore_n 2, 1) := by decide +kernel
theorem dX2_send_80 : decode cX2_send 80 = .ok (.iinc 3 1, 3) := by decide +kernel
theorem dX2_send_83 : decode cX2_send 83 = .ok (.goto (-66), 3) := by decide +kernel
theorem dX2_send_86 : decode cX2_send 86 = .ok (.aload_n 0, 1) := by decide +kernel
theorem dX2_send_87 : decode cX2_send 87 = .ok (.getfield 18, 3) := by decide +kernel
theorem dX2_send_90 : decode cX2_send 90 = .ok (.iload_n 2, 1) := by decide +kernel
theorem dX2_send_91 : decode cX2_send 91 = .ok (.bipush 61, 2) := by decide +kernel
theorem dX2_send_93 : decode cX2_send 93 = .ok (.idiv, 1) := by decide +kernel
theorem dX2_send_94 : decode cX2_send 94 = .ok (.dup2, 1) := by decide +kernel
theorem dX2_send_95 : decode cX2_send 95 = .ok (.iaload, 1) := by decide +kernel
theorem dX2_send_96 : decode cX2_send 96 = .ok (.iconst 1, 1) := by decide +kernel
theorem dX2_send_97 : decode cX2_send 97 = .ok (.isub, 1) := by decide +kernel
theorem dX2_send_98 : decode cX2_send 98 = .ok (.iastore, 1) := by decide +kernel
theorem dX2_send_99 : decode cX2_send 99 = .ok (.return_, 1) := by decide +kernel
theorem dX2_seenPlaces_0 : decode cX2_seenPlaces 0 = .ok (.iconst 0, 1) := by decide +kernel
theorem dX2_seenPlaces_1 : decode cX2_seenPlaces 1 = .ok (.istore_n 1, 1) := by decide +kernel
theorem dX2_seenPlaces_2 : decode cX2_seenPlaces 2 = .ok (.iconst 0, 1) := by decide +kernel
theorem dX2_seenPlaces_3 : decode cX2_seenPlaces 3 = .ok (.istore_n 2, 1) := by decide +kernel
theorem dX2_seenPlaces_4 : decode cX2_seenPlaces 4 = .ok (.iload_n 2, 1) := by decide +kernel
theorem dX2_seenPlaces_5 : decode cX2_seenPlaces 5 = .ok (.aload_n 0, 1) := by decide +kernel
theorem dX2_seenPlaces_6 : decode cX2_seenPlaces 6 = .ok (.getfield 90, 3) := by decide +kernel
theorem dX2_seenPlaces_9 : decode cX2_seenPlaces 9 = .ok (.if_icmp .ge 23, 3) := by decide +kernel
theorem dX2_seenPlaces_12 : decode cX2_seenPlaces 12 = .ok (.iload_n 1, 1) := by decide +kernel
theorem dX2_seenPlaces_13 : decode cX2_seenPlaces 13 = .ok (.iconst 1, 1) := by decide +kernel
theorem dX2_seenPlaces_14 : decode cX2_seenPlaces 14 = .ok (.aload_n 0, 1) := by decide +kernel
theorem dX2_seenPlaces_15 : decode cX2_seenPlaces 15 = .ok (.getfield 33, 3) := by decide +kernel
theorem dX2_seenPlaces_18 : decode cX2_seenPlaces 18 = .ok (.iload_n 2, 1) := by decide +kernel
theorem dX2_seenPlaces_19 : decode cX2_seenPlaces 19 = .ok (.iaload, 1) := by decide +kernel
theorem dX2_seenPlaces_20 : decode cX2_seenPlaces 20 = .ok (.bipush 61, 2) := by decide +kernel
theorem dX2_seenPlaces_22 : decode cX2_seenPlaces 22 = .ok (.idiv, 1) := by decide +kernel
theorem dX2_seenPlaces_23 : decode cX2_seenPlaces 23 = .ok (.ishl, 1) := by decide +kernel
theorem dX2_seenPlaces_24 : decode cX2_seenPlaces 24 = .ok (.ior, 1) := by decide +kernel
theorem dX2_seenPlaces_25 : decode cX2_seenPlaces 25 = .ok (.istore_n 1, 1) := by decide +kernel
theorem dX2_seenPlaces_26 : decode cX2_seenPlaces 26 = .ok (.iinc 2 1, 3) := by decide +kernel
theorem dX2_seenPlaces_29 : decode cX2_seenPlaces 29 = .ok (.goto (-25), 3) := by decide +kernel
theorem dX2_seenPlaces_32 : decode cX2_seenPlaces 32 = .ok (.iload_n 1, 1) := by decide +kernel
theorem dX2_seenPlaces_33 : decode cX2_seenPlaces 33 = .ok (.ireturn, 1) := by decide +kernel
theorem dX3_init_0 : decode cX3_init 0 = .ok (.aload_n 0, 1) := by decide +kernel
theorem dX3_init_1 : decode cX3_init 1 = .ok (.invokespecial 3, 3) := by decide +kernel
theorem dX3_init_4 : decode cX3_init 4 = .ok (.aload_n 0, 1) := by decide +kernel
theorem dX3_init_5 : decode cX3_init 5 = .ok (.iconst (-1), 1) := by decide +kernel
theorem dX3_init_6 : decode cX3_init 6 = .ok (.putfield 9, 3) := by decide +kernel
theorem dX3_init_9 : decode cX3_init 9 = .ok (.aload_n 0, 1) := by decide +kernel
theorem dX3_init_10 : decode cX3_init 10 = .ok (.sipush 168, 3) := by decide +kernel
theorem dX3_init_13 : decode cX3_init 13 = .ok (.newarray .int, 2) := by decide +kernel
theorem dX3_init_15 : decode cX3_init 15 = .ok (.putfield 15, 3) := by decide +kernel
theorem dX3_init_18 : decode cX3_init 18 = .ok (.return_, 1) := by decide +kernel
theorem dX3_vanish_0 : decode cX3_vanish 0 = .ok (.aload_n 0, 1) := by decide +kernel
theorem dX3_vanish_1 : decode cX3_vanish 1 = .ok (.iconst 0, 1) := by decide +kernel
theorem dX3_vanish_2 : decode cX3_vanish 2 = .ok (.putfield 19, 3) := by decide +kernel
theorem dX3_vanish_5 : decode cX3_vanish 5 = .ok (.aload_n 0, 1) := by decide +kernel
theorem dX3_vanish_6 : decode cX3_vanish 6 = .ok (.iconst 0, 1) := by decide +kernel
theorem dX3_vanish_7 : decode cX3_vanish 7 = .ok (.putfield 22, 3) := by decide +kernel
theorem dX3_vanish_10 : decode cX3_vanish 10 = .ok (.aload_n 0, 1) := by decide +kernel
theorem dX3_vanish_11 : decode cX3_vanish 11 = .ok (.iconst (-1), 1) := by decide +kernel
theorem dX3_vanish_12 : decode cX3_vanish 12 = .ok (.putfield 9, 3) := by decide +kernel
theorem dX3_vanish_15 : decode cX3_vanish 15 = .ok (.aload_n 0, 1) := by decide +kernel
theorem dX3_vanish_16 : decode cX3_vanish 16 = .ok (.iconst 0, 1) := by decide +kernel
theorem dX3_vanish_17 : decode cX3_vanish 17 = .ok (.putfield 25, 3) := by decide +kernel
theorem dX3_vanish_20 : decode cX3_vanish 20 = .ok (.return_, 1) := by decide +kernel
theorem dX3_become_0 : decode cX3_become 0 = .ok (.aload_n 0, 1) := by decide +kernel
theorem dX3_become_1 : decode cX3_become 1 = .ok (.aload_n 1, 1) := by decide +kernel
theorem dX3_become_2 : decode cX3_become 2 = .ok (.getfield 19, 3) := by decide +kernel
theorem dX3_become_5 : decode cX3_become 5 = .ok (.putfield 19, 3) := by decide +kernel
theorem dX3_become_8 : decode cX3_become 8 = .ok (.aload_n 0, 1) := by decide +kernel
theorem dX3_become_9 : decode cX3_become 9 = .ok (.aload_n 1, 1) := by decide +kernel
theorem dX3_become_10 : decode cX3_become 10 = .ok (.getfield 22, 3) := by decide +kernel
theorem dX3_become_13 : decode cX3_become 13 = .ok (.putfield 22, 3) := by decide +kernel
theorem dX3_become_16 : decode cX3_become 16 = .ok (.aload_n 0, 1) := by decide +kernel
theorem dX3_become_17 : decode cX3_become 17 = .ok (.aload_n 1, 1) := by decide +kernel
theorem dX3_become_18 : decode cX3_become 18 = .ok (.getfield 9, 3) := by decide +kernel
theorem dX3_become_21 : decode cX3_become 21 = .ok (.putfield 9, 3) := by decide +kernel
theorem dX3_become_24 : decode cX3_become 24 = .ok (.aload_n 0, 1) := by decide +kernel
theorem dX3_become_25 : decode cX3_become 25 = .ok (.aload_n 1, 1) := by decide +kernel
theorem dX3_become_26 : decode cX3_become 26 = .ok (.getfield 25, 3) := by decide +kernel
theorem dX3_become_29 : decode cX3_become 29 = .ok (.putfield 25, 3) := by decide +kernel
theorem dX3_become_32 : decode cX3_become 32 = .ok (.aload_n 1, 1) := by decide +kernel
theorem dX3_become_33 : decode cX3_become 33 = .ok (.getfield 15, 3) := by decide +kernel
theorem dX3_become_36 : decode cX3_become 36 = .ok (.iconst 0, 1) := by decide +kernel
theorem dX3_become_37 : decode cX3_become 37 = .ok (.aload_n 0, 1) := by decide +kernel
theorem dX3_become_38 : decode cX3_become 38 = .ok (.getfield 15, 3) := by decide +kernel
theorem dX3_become_41 : decode cX3_become 41 = .ok (.iconst 0, 1) := by decide +kernel
theorem dX3_become_42 : decode cX3_become 42 = .ok (.aload_n 0, 1) := by decide +kernel
theorem dX3_become_43 : decode cX3_become 43 = .ok (.getfield 15, 3) := by decide +kernel
theorem dX3_become_46 : decode cX3_become 46 = .ok (.arraylength, 1) := by decide +kernel
theorem dX3_become_47 : decode cX3_become 47 = .ok (.invokestatic 28, 3) := by decide +kernel
theorem dX3_become_50 : decode cX3_become 50 = .ok (.return_, 1) := by decide +kernel
theorem dX3_fact_0 : decode cX3_fact 0 = .ok (.aload_n 0, 1) := by decide +kernel
theorem dX3_fact_1 : decode cX3_fact 1 = .ok (.getfield 15, 3) := by decide +kernel
theorem dX3_fact_4 : decode cX3_fact 4 = .ok (.iload_n 1, 1) := by decide +kernel
theorem dX3_fact_5 : decode cX3_fact 5 = .ok (.bipush 7, 2) := by decide +kernel
theorem dX3_fact_7 : decode cX3_fact 7 = .ok (.imul, 1) := by decide +kernel
theorem dX3_fact_8 : decode cX3_fact 8 = .ok (.iload_n 2, 1) := by decide +kernel
theorem dX3_fact_9 : decode cX3_fact 9 = .ok (.iadd, 1) := by decide +kernel
theorem dX3_fact_10 : decode cX3_fact 10 = .ok (.iaload, 1) := by decide +kernel
theorem dX3_fact_11 : decode cX3_fact 11 = .ok (.ireturn, 1) := by decide +kernel
theorem dX3_put_0 : decode cX3_put 0 = .ok (.aload_n 0, 1) := by decide +kernel
theorem dX3_put_1 : decode cX3_put 1 = .ok (.getfield 15, 3) := by decide +kernel
theorem dX3_put_4 : decode cX3_put 4 = .ok (.iload_n 1, 1) := by decide +kernel
theorem dX3_put_5 : decode cX3_put 5 = .ok (.bipush 7, 2) := by decide +kernel
theorem dX3_put_7 : decode cX3_put 7 = .ok (.imul, 1) := by decide +kernel
theorem dX3_put_8 : decode cX3_put 8 = .ok (.iload_n 2, 1) := by decide +kernel
theorem dX3_put_9 : decode cX3_put 9 = .ok (.iadd, 1) := by decide +kernel
theorem dX3_put_10 : decode cX3_put 10 = .ok (.iload_n 3, 1) := by decide +kernel
theorem dX3_put_11 : decode cX3_put 11 = .ok (.iastore, 1) := by decide +kernel
theorem dX3_put_12 : decode cX3_put 12 = .ok (.return_, 1) := by decide +kernel
theorem dX3_touches_0 : decode cX3_touches 0 = .ok (.aload_n 0, 1) := by decide +kernel
theorem dX3_touches_1 : decode cX3_touches 1 = .ok (.iload_n 1, 1) := by decide +kernel
theorem dX3_touches_2 : decode cX3_touches 2 = .ok (.iconst 0, 1) := by decide +kernel
theorem dX3_touches_3 : decode cX3_touches 3 = .ok (.invokevirtual 34, 3) := by decide +kernel
theorem dX3_touches_6 : decode cX3_touches 6 = .ok (.iload_n 2, 1) := by decide +kernel
theorem dX3_touches_7 : decode cX3_touches 7 = .ok (.if_icmp .eq 13, 3) := by decide +kernel
theorem dX3_touches_10 : decode cX3_touches 10 = .ok (.aload_n 0, 1) := by decide +kernel
theorem dX3_touches_11 : decode cX3_touches 11 = .ok (.iload_n 1, 1) := by decide +kernel
theorem dX3_touches_12 : decode cX3_touches 12 = .ok (.iconst 1, 1) := by decide +kernel
theorem dX3_touches_13 : decode cX3_touches 13 = .ok (.invokevirtual 34, 3) := by decide +kernel
theorem dX3_touches_16 : decode cX3_touches 16 = .ok (.iload_n 2, 1) := by decide +kernel
theorem dX3_touches_17 : decode cX3_touches 17 = .ok (.if_icmp .ne 7, 3) := by decide +kernel
theorem dX3_touches_20 : decode cX3_touches 20 = .ok (.iconst 1, 1) := by decide +kernel
theorem dX3_touches_21 : decode cX3_touches 21 = .ok (.goto 4, 3) := by decide +kernel
theorem dX3_touches_24 : decode cX3_touches 24 = .ok (.iconst 0, 1) := by decide +kernel
theorem dX3_touches_25 : decode cX3_touches 25 = .ok (.ireturn, 1) := by decide +kernel
theorem dX3_beyond_0 : decode cX3_beyond 0 = .ok (.aload_n 0, 1) := by decide +kernel
theorem dX3_beyond_1 : decode cX3_beyond 1 = .ok (.iload_n 1, 1) := by decide +kernel
theorem dX3_beyond_2 : decode cX3_beyond 2 = .ok (.iconst 0, 1) := by decide +kernel
theorem dX3_beyond_3 : decode cX3_beyond 3 = .ok (.invokevirtual 34, 3) := by decide +kernel
theorem dX3_beyond_6 : decode cX3_beyond 6 = .ok (.iload_n 2, 1) := by decide +kernel
theorem dX3_beyond_7 : decode cX3_beyond 7 = .ok (.if_icmp .ne 12, 3) := by decide +kernel
theorem dX3_beyond_10 : decode cX3_beyond 10 = .ok (.aload_n 0, 1) := by decide +kernel
theorem dX3_beyond_11 : decode cX3_beyond 11 = .ok (.iload_n 1, 1) := by decide +kernel
theorem dX3_beyond_12 : decode cX3_beyond 12 = .ok (.iconst 1, 1) := by decide +kernel
theorem dX3_beyond_13 : decode cX3_beyond 13 = .ok (.invokevirtual 34, 3) := by decide +kernel
theorem dX3_beyond_16 : decode cX3_beyond 16 = .ok (.goto 9, 3) := by decide +kernel
theorem dX3_beyond_19 : decode cX3_beyond 19 = .ok (.aload_n 0, 1) := by decide +kernel
theorem dX3_beyond_20 : decode cX3_beyond 20 = .ok (.iload_n 1, 1) := by decide +kernel
theorem dX3_beyond_21 : decode cX3_beyond 21 = .ok (.iconst 0, 1) := by decide +kernel
theorem dX3_beyond_22 : decode cX3_beyond 22 = .ok (.invokevirtual 34, 3) := by decide +kernel
theorem dX3_beyond_25 : decode cX3_beyond 25 = .ok (.ireturn, 1) := by decide +kernel
theorem dX3_notBad_0 : decode cX3_notBad 0 = .ok (.sipush 1000, 3) := by decide +kernel
theorem dX3_notBad_3 : decode cX3_notBad 3 = .ok (.aload_n 0, 1) := by decide +kernel
theorem dX3_notBad_4 : decode cX3_notBad 4 = .ok (.iload_n 1, 1) := by decide +kernel
theorem dX3_notBad_5 : decode cX3_notBad 5 = .ok (.bipush 6, 2) := by decide +kernel
theorem dX3_notBad_7 : decode cX3_notBad 7 = .ok (.invokevirtual 34, 3) := by decide +kernel
theorem dX3_notBad_10 : decode cX3_notBad 10 = .ok (.isub, 1) := by decide +kernel
theorem dX3_notBad_11 : decode cX3_notBad 11 = .ok (.istore_n 3, 1) := by decide +kernel
theorem dX3_notBad_12 : decode cX3_notBad 12 = .ok (.ldc 38, 2) := by decide +kernel
theorem dX3_notBad_14 : decode cX3_notBad 14 = .ok (.istore 4, 2) := by decide +kernel
theorem dX3_notBad_16 : decode cX3_notBad 16 = .ok (.iconst 0, 1) := by decide +kernel
theorem dX3_notBad_17 : decode cX3_notBad 17 = .ok (.istore 5, 2) := by decide +kernel
theorem dX3_notBad_19 : decode cX3_notBad 19 = .ok (.iload 5, 2) := by decide +kernel
theorem dX3_notBad_21 : decode cX3_notBad 21 = .ok (.iload_n 2, 1) := by decide +kernel
theorem dX3_notBad_22 : decode cX3_notBad 22 = .ok (.if_icmp .ge 19, 3) := by decide +kernel
theorem dX3_notBad_25 : decode cX3_notBad 25 = .ok (.iload 4, 2) := by decide +kernel
theorem dX3_notBad_27 : decode cX3_notBad 27 = .ok (.iload_n 3, 1) := by decide +kernel
theorem dX3_notBad_28 : decode cX3_notBad 28 = .ok (.imul, 1) := by decide +kernel
theorem dX3_notBad_29 : decode cX3_notBad 29 = .ok (.sipush 1000, 3) := by decide +kernel
theorem dX3_notBad_32 : decode cX3_notBad 32 = .ok (.idiv, 1) := by decide +kernel
theorem dX3_notBad_33 : decode cX3_notBad 33 = .ok (.istore 4, 2) := by decide +kernel
theorem dX3_notBad_35 : decode cX3_notBad 35 = .ok (.iinc 5 1, 3) := by decide +kernel
theorem dX3_notBad_38 : decode cX3_notBad 38 = .ok (.goto (-19), 3) := by decide +kernel
theorem dX3_notBad_41 : decode cX3_notBad 41 = .ok (.iload 4, 2) := by decide +kernel
theorem dX3_notBad_43 : decode cX3_notBad 43 = .ok (.ireturn, 1) := by decide +kernel
theorem dX4_init_0 : decode cX4_init 0 = .ok (.aload_n 0, 1) := by decide +kernel
theorem dX4_init_1 : decode cX4_init 1 = .ok (.invokespecial 3, 3) := by decide +kernel
theorem dX4_init_4 : decode cX4_init 4 = .ok (.aload_n 0, 1) := by decide +kernel
theorem dX4_init_5 : decode cX4_init 5 = .ok (.aload_n 1, 1) := by decide +kernel
theorem dX4_init_6 : decode cX4_init 6 = .ok (.putfield 9, 3) := by decide +kernel
theorem dX4_init_9 : decode cX4_init 9 = .ok (.aload_n 0, 1) := by decide +kernel
theorem dX4_init_10 : decode cX4_init 10 = .ok (.aload_n 2, 1) := by decide +kernel
theorem dX4_init_11 : decode cX4_init 11 = .ok (.putfield 15, 3) := by decide +kernel
theorem dX4_init_14 : decode cX4_init 14 = .ok (.aload_n 0, 1) := by decide +kernel
theorem dX4_init_15 : decode cX4_init 15 = .ok (.aload_n 3, 1) := by decide +kernel
theorem dX4_init_16 : decode cX4_init 16 = .ok (.putfield 19, 3) := by decide +kernel
theorem dX4_init_19 : decode cX4_init 19 = .ok (.return_, 1) := by decide +kernel
theorem dX4_follow_0 : decode cX4_follow 0 = .ok (.aload_n 0, 1) := by decide +kernel
theorem dX4_follow_1 : decode cX4_follow 1 = .ok (.iconst (-1), 1) := by decide +kernel
theorem dX4_follow_2 : decode cX4_follow 2 = .ok (.putfield 23, 3) := by decide +kernel
theorem dX4_follow_5 : decode cX4_follow 5 = .ok (.aload_n 0, 1) := by decide +kernel
theorem dX4_follow_6 : decode cX4_follow 6 = .ok (.iload_n 1, 1) := by decide +kernel
theorem dX4_follow_7 : decode cX4_follow 7 = .ok (.putfield 27, 3) := by decide +kernel
theorem dX4_follow_10 : decode cX4_follow 10 = .ok (.aload_n 0, 1) := by decide +kernel
theorem dX4_follow_11 : decode cX4_follow 11 = .ok (.ldc 30, 2) := by decide +kernel
theorem dX4_follow_13 : decode cX4_follow 13 = .ok (.putfield 31, 3) := by decide +kernel
theorem dX4_follow_16 : decode cX4_follow 16 = .ok (.iconst 1, 1) := by decide +kernel
theorem dX4_follow_17 : decode cX4_follow 17 = .ok (.istore_n 2, 1) := by decide +kernel
theorem dX4_follow_18 : decode cX4_follow 18 = .ok (.iload_n 2, 1) := by decide +kernel
theorem dX4_follow_19 : decode cX4_follow 19 = .ok (.aload_n 0, 1) := by decide +kernel
theorem dX4_follow_20 : decode cX4_follow 20 = .ok (.getfield 15, 3) := by decide +kernel
theorem dX4_follow_23 : decode cX4_follow 23 = .ok (.getfield 34, 3) := by decide +kernel
theorem dX4_follow_26 : decode cX4_follow 26 = .ok (.if_icmp .ge 91, 3) := by decide +kernel
theorem dX4_follow_29 : decode cX4_follow 29 = .ok (.aload_n 0, 1) := by decide +kernel
theorem dX4_follow_30 : decode cX4_follow 30 = .ok (.getfield 19, 3) := by decide +kernel
theorem dX4_follow_33 : decode cX4_follow 33 = .ok (.aload_n 0, 1) := by decide +kernel
theorem dX4_follow_34 : decode cX4_follow 34 = .ok (.getfield 15, 3) := by decide +kernel
theorem dX4_follow_37 : decode cX4_follow 37 = .ok (.getfield 39, 3) := by decide +kernel
theorem dX4_follow_40 : decode cX4_follow 40 = .ok (.iload_n 2, 1) := by decide +kernel
theorem dX4_follow_41 : decode cX4_follow 41 = .ok (.iconst 1, 1) := by decide +kernel
theorem dX4_follow_42 : decode cX4_follow 42 = .ok (.isub, 1) := by decide +kernel
theorem dX4_follow_43 : decode cX4_follow 43 = .ok (.iaload, 1) := by decide +kernel
theorem dX4_follow_44 : decode cX4_follow 44 = .ok (.aload_n 0, 1) := by decide +kernel
theorem dX4_follow_45 : decode cX4_follow 45 = .ok (.getfield 15, 3) := by decide +kernel
theorem dX4_follow_48 : decode cX4_follow 48 = .ok (.getfield 39, 3) := by decide +kernel
theorem dX4_follow_51 : decode cX4_follow 51 = .ok (.iload_n 2, 1) := by decide +kernel
theorem dX4_follow_52 : decode cX4_follow 52 = .ok (.iaload, 1) := by decide +kernel
theorem dX4_follow_53 : decode cX4_follow 53 = .ok (.aload_n 0, 1) := by decide +kernel
theorem dX4_follow_54 : decode cX4_follow 54 = .ok (.getfield 27, 3) := by decide +kernel
theorem dX4_follow_57 : decode cX4_follow 57 = .ok (.invokevirtual 43, 3) := by decide +kernel
theorem dX4_follow_60 : decode cX4_follow 60 = .ok (.istore_n 3, 1) := by decide +kernel
theorem dX4_follow_61 : decode cX4_follow 61 = .ok (.iload_n 3, 1) := by decide +kernel
theorem dX4_follow_62 : decode cX4_follow 62 = .ok (.iconst (-1), 1) := by decide +kernel
theorem dX4_follow_63 : decode cX4_follow 63 = .ok (.if_icmp .ne 9, 3) := by decide +kernel
theorem dX4_follow_66 : decode cX4_follow 66 = .ok (.aload_n 0, 1) := by decide +kernel
theorem dX4_follow_67 : decode cX4_follow 67 = .ok (.iload_n 2, 1) := by decide +kernel
theorem dX4_follow_68 : decode cX4_follow 68 = .ok (.putfield 23, 3) := by decide +kernel
theorem dX4_follow_71 : decode cX4_follow 71 = .ok (.return_, 1) := by decide +kernel
theorem dX4_follow_72 : decode cX4_follow 72 = .ok (.aload_n 0, 1) := by decide +kernel
theorem dX4_follow_73 : decode cX4_follow 73 = .ok (.aload_n 0, 1) := by decide +kernel
theorem dX4_follow_74 : decode cX4_follow 74 = .ok (.getfield 19, 3) := by decide +kernel
theorem dX4_follow_77 : decode cX4_follow 77 = .ok (.iload_n 3, 1) := by decide +kernel
theorem dX4_follow_78 : decode cX4_follow 78 = .ok (.aload_n 0, 1) := by decide +kernel
theorem dX4_follow_79 : decode cX4_follow 79 = .ok (.getfield 27, 3) := by decide +kernel
theorem dX4_follow_82 : decode cX4_follow 82 = .ok (.invokevirtual 49, 3) := by decide +kernel
theorem dX4_follow_85 : decode cX4_follow 85 = .ok (.putfield 27, 3) := by decide +kernel
theorem dX4_follow_88 : decode cX4_follow 88 = .ok (.aload_n 0, 1) := by decide +kernel
theorem dX4_follow_89 : decode cX4_follow 89 = .ok (.aload_n 0, 1) := by decide +kernel
theorem dX4_follow_90 : decode cX4_follow 90 = .ok (.getfield 31, 3) := by decide +kernel
theorem dX4_follow_93 : decode cX4_follow 93 = .ok (.aload_n 0, 1) := by decide +kernel
theorem dX4_follow_94 : decode cX4_follow 94 = .ok (.getfield 9, 3) := by decide +kernel
theorem dX4_follow_97 : decode cX4_follow 97 = .ok (.iload_n 3, 1) := by decide +kernel
theorem dX4_follow_98 : decode cX4_follow 98 = .ok (.aload_n 0, 1) := by decide +kernel
theorem dX4_follow_99 : decode cX4_follow 99 = .ok (.getfield 27, 3) := by decide +kernel
theorem dX4_follow_102 : decode cX4_follow 102 = .ok (.invokevirtual 53, 3) := by decide +kernel
theorem dX4_follow_105 : decode cX4_follow 105 = .ok (.invokestatic 58, 3) := by decide +kernel
theorem dX4_follow_108 : decode cX4_follow 108 = .ok (.putfield 31, 3) := by decide +kernel
theorem dX4_follow_111 : decode cX4_follow 111 = .ok (.iinc 2 1, 3) := by decide +kernel
theorem dX4_follow_114 : decode cX4_follow 114 = .ok (.goto (-96), 3) := by decide +kernel
theorem dX4_follow_117 : decode cX4_follow 117 = .ok (.return_, 1) := by decide +kernel
theorem dX4_both_0 : decode cX4_both 0 = .ok (.iload_n 0, 1) := by decide +kernel
theorem dX4_both_1 : decode cX4_both 1 = .ok (.i2l, 1) := by decide +kernel
theorem dX4_both_2 : decode cX4_both 2 = .ok (.iload_n 1, 1) := by decide +kernel
theorem dX4_both_3 : decode cX4_both 3 = .ok (.i2l, 1) := by decide +kernel
theorem dX4_both_4 : decode cX4_both 4 = .ok (.lmul, 1) := by decide +kernel
theorem dX4_both_5 : decode cX4_both 5 = .ok (.ldc2_w 61, 3) := by decide +kernel
theorem dX4_both_8 : decode cX4_both 8 = .ok (.ldiv, 1) := by decide +kernel
theorem dX4_both_9 : decode cX4_both 9 = .ok (.l2i, 1) := by decide +kernel
theorem dX4_both_10 : decode cX4_both 10 = .ok (.ireturn, 1) := by decide +kernel
theorem dX4_bestChance_0 : decode cX4_bestChance 0 = .ok (.aload_n 0, 1) := by decide +kernel
theorem dX4_bestChance_1 : decode cX4_bestChance 1 = .ok (.iconst 0, 1) := by decide +kernel
theorem dX4_bestChance_2 : decode cX4_bestChance 2 = .ok (.putfield 63, 3) := by decide +kernel
theorem dX4_bestChance_5 : decode cX4_bestChance 5 = .ok (.aload_n 0, 1) := by decide +kernel
theorem dX4_bestChance_6 : decode cX4_bestChance 6 = .ok (.iload_n 1, 1) := by decide +kernel
theorem dX4_bestChance_7 : decode cX4_bestChance 7 = .ok (.iload_n 2, 1) := by decide +kernel
theorem dX4_bestChance_8 : decode cX4_bestChance 8 = .ok (.ldc 30, 2) := by decide +kernel
theorem dX4_bestChance_10 : decode cX4_bestChance 10 = .ok (.iconst 1, 1) := by decide +kernel
theorem dX4_bestChance_11 : decode cX4_bestChance 11 = .ok (.iload_n 1, 1) := by decide +kernel
theorem dX4_bestChance_12 : decode cX4_bestChance 12 = .ok (.ishl, 1) := by decide +kernel
theorem dX4_bestChance_13 : decode cX4_bestChance 13 = .ok (.iconst 1, 1) := by decide +kernel
theorem dX4_bestChance_14 : decode cX4_bestChance 14 = .ok (.invokestatic 66, 3) := by decide +kernel
theorem dX4_bestChance_17 : decode cX4_bestChance 17 = .ok (.aload_n 0, 1) := by decide +kernel
theorem dX4_bestChance_18 : decode cX4_bestChance 18 = .ok (.getfield 63, 3) := by decide +kernel
theorem dX4_bestChance_21 : decode cX4_bestChance 21 = .ok (.ireturn, 1) := by decide +kernel
theorem dX4_goOnFrom_0 : decode cX4_goOnFrom 0 = .ok (.iload_n 1, 1) := by decide +kernel
theorem dX4_goOnFrom_1 : decode cX4_goOnFrom 1 = .ok (.aload_n 0, 1) := by decide +kernel
theorem dX4_goOnFrom_2 : decode cX4_goOnFrom 2 = .ok (.getfield 9, 3) := by decide +kernel
theorem dX4_goOnFrom_5 : decode cX4_goOnFrom 5 = .ok (.getfield 70, 3) := by decide +kernel
theorem dX4_goOnFrom_8 : decode cX4_goOnFrom 8 = .ok (.if_icmp .ne 16, 3) := by decide +kernel
theorem dX4_goOnFrom_11 : decode cX4_goOnFrom 11 = .ok (.aload_n 0, 1) := by decide +kernel
theorem dX4_goOnFrom_12 : decode cX4_goOnFrom 12 = .ok (.aload_n 0, 1) := by decide +kernel
theorem dX4_goOnFrom_13 : decode cX4_goOnFrom 13 = .ok (.getfield 63, 3) := by decide +kernel
theorem dX4_goOnFrom_16 : decode cX4_goOnFrom 16 = .ok (.iload_n 3, 1) := by decide +kernel
theorem dX4_goOnFrom_17 : decode cX4_goOnFrom 17 = .ok (.invokestatic 73, 3) := by decide +kernel
theorem dX4_goOnFrom_20 : decode cX4_goOnFrom 20 = .ok (.putfield 63, 3) := by decide +kernel
theorem dX4_goOnFrom_23 : decode cX4_goOnFrom 23 = .ok (.return_, 1) := by decide +kernel
theorem dX4_goOnFrom_24 : decode cX4_goOnFrom 24 = .ok (.iload 5, 2) := by decide +kernel
theorem dX4_goOnFrom_26 : decode cX4_goOnFrom 26 = .ok (.bipush 7, 2) := by decide +kernel
theorem dX4_goOnFrom_28 : decode cX4_goOnFrom 28 = .ok (.if_icmp .lt 4, 3) := by decide +kernel
theorem dX4_goOnFrom_31 : decode cX4_goOnFrom 31 = .ok (.return_, 1) := by decide +kernel
theorem dX4_goOnFrom_32 : decode cX4_goOnFrom 32 = .ok (.iconst 0, 1) := by decide +kernel
theorem dX4_goOnFrom_33 : decode cX4_goOnFrom 33 = .ok (.istore 6, 2) := by decide +kernel
theorem dX4_goOnFrom_35 : decode cX4_goOnFrom 35 = .ok (.iload 6, 2) := by decide +kernel
theorem dX4_goOnFrom_37 : decode cX4_goOnFrom 37 = .ok (.aload_n 0, 1) := by decide +kernel
theorem dX4_goOnFrom_38 : decode cX4_goOnFrom 38 = .ok (.getfield 9, 3) := by decide +kernel
theorem dX4_goOnFrom_41 : decode cX4_goOnFrom 41 = .ok (.getfield 78, 3) := by decide +kernel
theorem dX4_goOnFrom_44 : decode cX4_goOnFrom 44 = .ok (.if_icmp .ge 125, 3) := by decide +kernel
theorem dX4_goOnFrom_47 : decode cX4_goOnFrom 47 = .ok (.aload_n 0, 1) := by decide +kernel
theorem dX4_goOnFrom_48 : decode cX4_goOnFrom 48 = .ok (.getfield 9, 3) := by decide +kernel
theorem dX4_goOnFrom_51 : decode cX4_goOnFrom 51 = .ok (.iload 6, 2) := by decide +kernel
theorem dX4_goOnFrom_53 : decode cX4_goOnFrom 53 = .ok (.iload_n 1, 1) := by decide +kernel
theorem dX4_goOnFrom_54 : decode cX4_goOnFrom 54 = .ok (.invokevirtual 81, 3) := by decide +kernel
theorem dX4_goOnFrom_57 : decode cX4_goOnFrom 57 = .ok (.ifCond .ne 6, 3) := by decide +kernel
theorem dX4_goOnFrom_60 : decode cX4_goOnFrom 60 = .ok (.goto 103, 3) := by decide +kernel
theorem dX4_goOnFrom_63 : decode cX4_goOnFrom 63 = .ok (.aload_n 0, 1) := by decide +kernel
theorem dX4_goOnFrom_64 : decode cX4_goOnFrom 64 = .ok (.getfield 9, 3) := by decide +kernel
theorem dX4_goOnFrom_67 : decode cX4_goOnFrom 67 = .ok (.iload 6, 2) := by decide +kernel
theorem dX4_goOnFrom_69 : decode cX4_goOnFrom 69 = .ok (.iload_n 1, 1) := by decide +kernel
theorem dX4_goOnFrom_70 : decode cX4_goOnFrom 70 = .ok (.invokevirtual 85, 3) := by decide +kernel
theorem dX4_goOnFrom_73 : decode cX4_goOnFrom 73 = .ok (.istore 7, 2) := by decide +kernel
theorem dX4_goOnFrom_75 : decode cX4_goOnFrom 75 = .ok (.iload 4, 2) := by decide +kernel
theorem dX4_goOnFrom_77 : decode cX4_goOnFrom 77 = .ok (.iload 7, 2) := by decide +kernel
theorem dX4_goOnFrom_79 : decode cX4_goOnFrom 79 = .ok (.ishr, 1) := by decide +kernel
theorem dX4_goOnFrom_80 : decode cX4_goOnFrom 80 = .ok (.iconst 1, 1) := by decide +kernel
theorem dX4_goOnFrom_81 : decode cX4_goOnFrom 81 = .ok (.iand, 1) := by decide +kernel
theorem dX4_goOnFrom_82 : decode cX4_goOnFrom 82 = .ok (.ifCond .ne 81, 3) := by decide +kernel
theorem dX4_goOnFrom_85 : decode cX4_goOnFrom 85 = .ok (.aload_n 0, 1) := by decide +kernel
theorem dX4_goOnFrom_86 : decode cX4_goOnFrom 86 = .ok (.getfield 19, 3) := by decide +kernel
theorem dX4_goOnFrom_89 : decode cX4_goOnFrom 89 = .ok (.iload_n 1, 1) := by decide +kernel
theorem dX4_goOnFrom_90 : decode cX4_goOnFrom 90 = .ok (.iload 7, 2) := by decide +kernel
theorem dX4_goOnFrom_92 : decode cX4_goOnFrom 92 = .ok (.iload_n 2, 1) := by decide +kernel
theorem dX4_goOnFrom_93 : decode cX4_goOnFrom 93 = .ok (.invokevirtual 43, 3) := by decide +kernel
theorem dX4_goOnFrom_96 : decode cX4_goOnFrom 96 = .ok (.iload 6, 2) := by decide +kernel
theorem dX4_goOnFrom_98 : decode cX4_goOnFrom 98 = .ok (.if_icmp .eq 6, 3) := by decide +kernel
theorem dX4_goOnFrom_101 : decode cX4_goOnFrom 101 = .ok (.goto 62, 3) := by decide +kernel
theorem dX4_goOnFrom_104 : decode cX4_goOnFrom 104 = .ok (.aload_n 0, 1) := by decide +kernel
theorem dX4_goOnFrom_105 : decode cX4_goOnFrom 105 = .ok (.getfield 19, 3) := by decide +kernel
theorem dX4_goOnFrom_108 : decode cX4_goOnFrom 108 = .ok (.iload 6, 2) := by decide +kernel
theorem dX4_goOnFrom_110 : decode cX4_goOnFrom 110 = .ok (.iload_n 2, 1) := by decide +kernel
theorem dX4_goOnFrom_111 : decode cX4_goOnFrom 111 = .ok (.invokevirtual 49, 3) := by decide +kernel
theorem dX4_goOnFrom_114 : decode cX4_goOnFrom 114 = .ok (.istore 8, 2) := by decide +kernel
theorem dX4_goOnFrom_116 : decode cX4_goOnFrom 116 = .ok (.iload_n 3, 1) := by decide +kernel
theorem dX4_goOnFrom_117 : decode cX4_goOnFrom 117 = .ok (.aload_n 0, 1) := by decide +kernel
theorem dX4_goOnFrom_118 : decode cX4_goOnFrom 118 = .ok (.getfield 9, 3) := by decide +kernel
theorem dX4_goOnFrom_121 : decode cX4_goOnFrom 121 = .ok (.iload 6, 2) := by decide +kernel
theorem dX4_goOnFrom_123 : decode cX4_goOnFrom 123 = .ok (.iload 8, 2) := by decide +kernel
theorem dX4_goOnFrom_125 : decode cX4_goOnFrom 125 = .ok (.invokevirtual 53, 3) := by decide +kernel
theorem dX4_goOnFrom_128 : decode cX4_goOnFrom 128 = .ok (.invokestatic 58, 3) := by decide +kernel
theorem dX4_goOnFrom_131 : decode cX4_goOnFrom 131 = .ok (.istore 9, 2) := by decide +kernel
theorem dX4_goOnFrom_133 : decode cX4_goOnFrom 133 = .ok (.iload 9, 2) := by decide +kernel
theorem dX4_goOnFrom_135 : decode cX4_goOnFrom 135 = .ok (.aload_n 0, 1) := by decide +kernel
theorem dX4_goOnFrom_136 : decode cX4_goOnFrom 136 = .ok (.getfield 63, 3) := by decide +kernel
theorem dX4_goOnFrom_139 : decode cX4_goOnFrom 139 = .ok (.if_icmp .le 24, 3) := by decide +kernel
theorem dX4_goOnFrom_142 : decode cX4_goOnFrom 142 = .ok (.aload_n 0, 1) := by decide +kernel
theorem dX4_goOnFrom_143 : decode cX4_goOnFrom 143 = .ok (.iload 7, 2) := by decide +kernel
theorem dX4_goOnFrom_145 : decode cX4_goOnFrom 145 = .ok (.iload 8, 2) := by decide +kernel
theorem dX4_goOnFrom_147 : decode cX4_goOnFrom 147 = .ok (.iload 9, 2) := by decide +kernel
theorem dX4_goOnFrom_149 : decode cX4_goOnFrom 149 = .ok (.iload 4, 2) := by decide +kernel
theorem dX4_goOnFrom_151 : decode cX4_goOnFrom 151 = .ok (.iconst 1, 1) := by decide +kernel
theorem dX4_goOnFrom_152 : decode cX4_goOnFrom 152 = .ok (.iload 7, 2) := by decide +kernel
theorem dX4_goOnFrom_154 : decode cX4_goOnFrom 154 = .ok (.ishl, 1) := by decide +kernel
theorem dX4_goOnFrom_155 : decode cX4_goOnFrom 155 = .ok (.ior, 1) := by decide +kernel
theorem dX4_goOnFrom_156 : decode cX4_goOnFrom 156 = .ok (.iload 5, 2) := by decide +kernel
theorem dX4_goOnFrom_158 : decode cX4_goOnFrom 158 = .ok (.iconst 1, 1) := by decide +kernel
theorem dX4_goOnFrom_159 : decode cX4_goOnFrom 159 = .ok (.iadd, 1) := by decide +kernel
theorem dX4_goOnFrom_160 : decode cX4_goOnFrom 160 = .ok (.invokestatic 66, 3) := by decide +kernel
theorem dX4_goOnFrom_163 : decode cX4_goOnFrom 163 = .ok (.iinc 6 1, 3) := by decide +kernel
theorem dX4_goOnFrom_166 : decode cX4_goOnFrom 166 = .ok (.goto (-131), 3) := by decide +kernel
theorem dX4_goOnFrom_169 : decode cX4_goOnFrom 169 = .ok (.return_, 1) := by decide +kernel
theorem dX5_init_0 : decode cX5_init 0 = .ok (.aload_n 0, 1) := by decide +kernel
theorem dX5_init_1 : decode cX5_init 1 = .ok (.invokespecial 3, 3) := by decide +kernel
theorem dX5_init_4 : decode cX5_init 4 = .ok (.aload_n 0, 1) := by decide +kernel
theorem dX5_init_5 : decode cX5_init 5 = .ok (.new 9, 3) := by decide +kernel
theorem dX5_init_8 : decode cX5_init 8 = .ok (.dup, 1) := by decide +kernel
theorem dX5_init_9 : decode cX5_init 9 = .ok (.invokespecial 11, 3) := by decide +kernel
theorem dX5_init_12 : decode cX5_init 12 = .ok (.putfield 12, 3) := by decide +kernel
theorem dX5_init_15 : decode cX5_init 15 = .ok (.aload_n 0, 1) := by decide +kernel
theorem dX5_init_16 : decode cX5_init 16 = .ok (.iconst (-1), 1) := by decide +kernel
theorem dX5_init_17 : decode cX5_init 17 = .ok (.putfield 18, 3) := by decide +kernel
theorem dX5_init_20 : decode cX5_init 20 = .ok (.aload_n 0, 1) := by decide +kernel
theorem dX5_init_21 : decode cX5_init 21 = .ok (.aload_n 1, 1) := by decide +kernel
theorem dX5_init_22 : decode cX5_init 22 = .ok (.putfield 22, 3) := by decide +kernel
theorem dX5_init_25 : decode cX5_init 25 = .ok (.return_, 1) := by decide +kernel
theorem dX5_read_0 : decode cX5_read 0 = .ok (.aload_n 0, 1) := by decide +kernel
theorem dX5_read_1 : decode cX5_read 1 = .ok (.iconst 0, 1) := by decide +kernel
theorem dX5_read_2 : decode cX5_read 2 = .ok (.putfield 26, 3) := by decide +kernel
theorem dX5_read_5 : decode cX5_read 5 = .ok (.aload_n 0, 1) := by decide +kernel
theorem dX5_read_6 : decode cX5_read 6 = .ok (.iconst 0, 1) := by decide +kernel
theorem dX5_read_7 : decode cX5_read 7 = .ok (.putfield 29, 3) := by decide +kernel
theorem dX5_read_10 : decode cX5_read 10 = .ok (.aload_n 0, 1) := by decide +kernel
theorem dX5_read_11 : decode cX5_read 11 = .ok (.iconst (-1), 1) := by decide +kernel
theorem dX5_read_12 : decode cX5_read 12 = .ok (.putfield 18, 3) := by decide +kernel
theorem dX5_read_15 : decode cX5_read 15 = .ok (.aload_n 0, 1) := by decide +kernel
theorem dX5_read_16 : decode cX5_read 16 = .ok (.getfield 12, 3) := by decide +kernel
theorem dX5_read_19 : decode cX5_read 19 = .ok (.invokevirtual 32, 3) := by decide +kernel
theorem dX5_read_22 : decode cX5_read 22 = .ok (.aload_n 0, 1) := by decide +kernel
theorem dX5_read_23 : decode cX5_read 23 = .ok (.invokevirtual 35, 3) := by decide +kernel
theorem dX5_read_26 : decode cX5_read 26 = .ok (.iconst 0, 1) := by decide +kernel
theorem dX5_read_27 : decode cX5_read 27 = .ok (.istore_n 1, 1) := by decide +kernel
theorem dX5_read_28 : decode cX5_read 28 = .ok (.iload_n 1, 1) := by decide +kernel
theorem dX5_read_29 : decode cX5_read 29 = .ok (.sipush 400, 3) := by decide +kernel
theorem dX5_read_32 : decode cX5_read 32 = .ok (.if_icmp .ge 27, 3) := by decide +kernel
theorem dX5_read_35 : decode cX5_read 35 = .ok (.aload_n 0, 1) := by decide +kernel
theorem dX5_read_36 : decode cX5_read 36 = .ok (.getfield 29, 3) := by decide +kernel
theorem dX5_read_39 : decode cX5_read 39 = .ok (.ifCond .ne 20, 3) := by decide +kernel
theorem dX5_read_42 : decode cX5_read 42 = .ok (.aload_n 0, 1) := by decide +kernel
theorem dX5_read_43 : decode cX5_read 43 = .ok (.invokevirtual 38, 3) := by decide +kernel
theorem dX5_read_46 : decode cX5_read 46 = .ok (.ifCond .ne 13, 3) := by decide +kernel
theorem dX5_read_49 : decode cX5_read 49 = .ok (.aload_n 0, 1) := by decide +kernel
theorem dX5_read_50 : decode cX5_read 50 = .ok (.invokevirtual 42, 3) := by decide +kernel
theorem dX5_read_53 : decode cX5_read 53 = .ok (.iinc 1 1, 3) := by decide +kernel
theorem dX5_read_56 : decode cX5_read 56 = .ok (.goto (-28), 3) := by decide +kernel
theorem dX5_read_59 : decode cX5_read 59 = .ok (.aload_n 0, 1) := by decide +kernel
theorem dX5_read_60 : decode cX5_read 60 = .ok (.getfield 12, 3) := by decide +kernel
theorem dX5_read_63 : decode cX5_read 63 = .ok (.getfield 45, 3) := by decide +kernel
theorem dX5_read_66 : decode cX5_read 66 = .ok (.iconst (-1), 1) := by decide +kernel
theorem dX5_read_67 : decode cX5_read 67 = .ok (.if_icmp .ne 12, 3) := by decide +kernel
theorem dX5_read_70 : decode cX5_read 70 = .ok (.aload_n 0, 1) := by decide +kernel
theorem dX5_read_71 : decode cX5_read 71 = .ok (.iconst 1, 1) := by decide +kernel
theorem dX5_read_72 : decode cX5_read 72 = .ok (.aload_n 0, 1) := by decide +kernel
theorem dX5_read_73 : decode cX5_read 73 = .ok (.getfield 26, 3) := by decide +kernel
theorem dX5_read_76 : decode cX5_read 76 = .ok (.invokevirtual 48, 3) := by decide +kernel
theorem dX5_read_79 : decode cX5_read 79 = .ok (.aload_n 0, 1) := by decide +kernel
theorem dX5_read_80 : decode cX5_read 80 = .ok (.getfield 29, 3) := by decide +kernel
theorem dX5_read_83 : decode cX5_read 83 = .ok (.ireturn, 1) := by decide +kernel
theorem dX5_readPlaces_0 : decode cX5_readPlaces 0 = .ok (.aload_n 0, 1) := by decide +kernel
theorem dX5_readPlaces_1 : decode cX5_readPlaces 1 = .ok (.ldc 52, 2) := by decide +kernel
theorem dX5_readPlaces_3 : decode cX5_readPlaces 3 = .ok (.invokevirtual 54, 3) := by decide +kernel
theorem dX5_readPlaces_6 : decode cX5_readPlaces 6 = .ok (.ifCond .eq 24, 3) := by decide +kernel
theorem dX5_readPlaces_9 : decode cX5_readPlaces 9 = .ok (.aload_n 0, 1) := by decide +kernel
theorem dX5_readPlaces_10 : decode cX5_readPlaces 10 = .ok (.getfield 12, 3) := by decide +kernel
theorem dX5_readPlaces_13 : decode cX5_readPlaces 13 = .ok (.aload_n 0, 1) := by decide +kernel
theorem dX5_readPlaces_14 : decode cX5_readPlaces 14 = .ok (.iconst 2, 1) := by decide +kernel
theorem dX5_readPlaces_15 : decode cX5_readPlaces 15 = .ok (.bipush 12, 2) := by decide +kernel
theorem dX5_readPlaces_17 : decode cX5_readPlaces 17 = .ok (.invokevirtual 58, 3) := by decide +kernel
theorem dX5_readPlaces_20 : decode cX5_readPlaces 20 = .ok (.putfield 62, 3) := by decide +kernel
theorem dX5_readPlaces_23 : decode cX5_readPlaces 23 = .ok (.aload_n 0, 1) := by decide +kernel
theorem dX5_readPlaces_24 : decode cX5_readPlaces 24 = .ok (.invokevirtual 64, 3) := by decide +kernel
theorem dX5_readPlaces_27 : decode cX5_readPlaces 27 = .ok (.goto 12, 3) := by decide +kernel
theorem dX5_readPlaces_30 : decode cX5_readPlaces 30 = .ok (.aload_n 0, 1) := by decide +kernel
theorem dX5_readPlaces_31 : decode cX5_readPlaces 31 = .ok (.iconst 1, 1) := by decide +kernel
theorem dX5_readPlaces_32 : decode cX5_readPlaces 32 = .ok (.aload_n 0, 1) := by decide +kernel
theorem dX5_readPlaces_33 : decode cX5_readPlaces 33 = .ok (.getfield 26, 3) := by decide +kernel
theorem dX5_readPlaces_36 : decode cX5_readPlaces 36 = .ok (.invokevirtual 48, 3) := by decide +kernel
theorem dX5_readPlaces_39 : decode cX5_readPlaces 39 = .ok (.return_, 1) := by decide +kernel
theorem dX5_readClause_0 : decode cX5_readClause 0 = .ok (.aload_n 0, 1) := by decide +kernel
theorem dX5_readClause_1 : decode cX5_readClause 1 = .ok (.getfield 26, 3) := by decide +kernel
theorem dX5_readClause_4 : decode cX5_readClause 4 = .ok (.istore_n 1, 1) := by decide +kernel
theorem dX5_readClause_5 : decode cX5_readClause 5 = .ok (.aload_n 0, 1) := by decide +kernel
theorem dX5_readClause_6 : decode cX5_readClause 6 = .ok (.ldc 67, 2) := by decide +kernel
theorem dX5_readClause_8 : decode cX5_readClause 8 = .ok (.invokevirtual 54, 3) := by decide +kernel
theorem dX5_readClause_11 : decode cX5_readClause 11 = .ok (.ifCond .eq 11, 3) := by decide +kernel
theorem dX5_readClause_14 : decode cX5_readClause 14 = .ok (.aload_n 0, 1) := by decide +kernel
theorem dX5_readClause_15 : decode cX5_readClause 15 = .ok (.iload_n 1, 1) := by decide +kernel
theorem dX5_readClause_16 : decode cX5_readClause 16 = .ok (.invokevirtual 69, 3) := by decide +kernel
theorem dX5_readClause_19 : decode cX5_readClause 19 = .ok (.goto 26, 3) := by decide +kernel
theorem dX5_readClause_22 : decode cX5_readClause 22 = .ok (.aload_n 0, 1) := by decide +kernel
theorem dX5_readClause_23 : decode cX5_readClause 23 = .ok (.ldc 73, 2) := by decide +kernel
theorem dX5_readClause_25 : decode cX5_readClause 25 = .ok (.invokevirtual 54, 3) := by decide +kernel
theorem dX5_readClause_28 : decode cX5_readClause 28 = .ok (.ifCond .eq 11, 3) := by decide +kernel
theorem dX5_readClause_31 : decode cX5_readClause 31 = .ok (.aload_n 0, 1) := by decide +kernel
theorem dX5_readClause_32 : decode cX5_readClause 32 = .ok (.iload_n 1, 1) := by decide +kernel
theorem dX5_readClause_33 : decode cX5_readClause 33 = .ok (.invokevirtual 75, 3) := by decide +kernel
theorem dX5_readClause_36 : decode cX5_readClause 36 = .ok (.goto 9, 3) := by decide +kernel
theorem dX5_readClause_39 : decode cX5_readClause 39 = .ok (.aload_n 0, 1) := by decide +kernel
theorem dX5_readClause_40 : decode cX5_readClause 40 = .ok (.iconst 1, 1) := by decide +kernel
theorem dX5_readClause_41 : decode cX5_readClause 41 = .ok (.iload_n 1, 1) := by decide +kernel
theorem dX5_readClause_42 : decode cX5_readClause 42 = .ok (.invokevirtual 48, 3) := by decide +kernel
theorem dX5_readClause_45 : decode cX5_readClause 45 = .ok (.return_, 1) := by decide +kernel
theorem dX5_readOut_0 : decode cX5_readOut 0 = .ok (.aload_n 0, 1) := by decide +kernel
theorem dX5_readOut_1 : decode cX5_readOut 1 = .ok (.getfield 12, 3) := by decide +kernel
theorem dX5_readOut_4 : decode cX5_readOut 4 = .ok (.getfield 45, 3) := by decide +kernel
theorem dX5_readOut_7 : decode cX5_readOut 7 = .ok (.iconst (-1), 1) := by decide +kernel
theorem dX5_readOut_8 : decode cX5_readOut 8 = .ok (.if_icmp .eq 10, 3) := by decide +kernel
theorem dX5_readOut_11 : decode cX5_readOut 11 = .ok (.aload_n 0, 1) := by decide +kernel
theorem dX5_readOut_12 : decode cX5_readOut 12 = .ok (.iconst 3, 1) := by decide +kernel
theorem dX5_readOut_13 : decode cX5_readOut 13 = .ok (.iload_n 1, 1) := by decide +kernel
theorem dX5_readOut_14 : decode cX5_readOut 14 = .ok (.invokevirtual 48, 3) := by decide +kernel
theorem dX5_readOut_17 : decode cX5_readOut 17 = .ok (.return_, 1) := by decide +kernel
theorem dX5_readOut_18 : decode cX5_readOut 18 = .ok (.aload_n 0, 1) := by decide +kernel
theorem dX5_readOut_19 : decode cX5_readOut 19 = .ok (.getfield 12, 3) := by decide +kernel
theorem dX5_readOut_22 : decode cX5_readOut 22 = .ok (.aload_n 0, 1) := by decide +kernel
theorem dX5_readOut_23 : decode cX5_readOut 23 = .ok (.iconst 0, 1) := by decide +kernel
theorem dX5_readOut_24 : decode cX5_readOut 24 = .ok (.aload_n 0, 1) := by decide +kernel
theorem dX5_readOut_25 : decode cX5_readOut 25 = .ok (.getfield 12, 3) := by decide +kernel
theorem dX5_readOut_28 : decode cX5_readOut 28 = .ok (.getfield 62, 3) := by decide +kernel
theorem dX5_readOut_31 : decode cX5_readOut 31 = .ok (.iconst 1, 1) := by decide +kernel
theorem dX5_readOut_32 : decode cX5_readOut 32 = .ok (.isub, 1) := by decide +kernel
theorem dX5_readOut_33 : decode cX5_readOut 33 = .ok (.invokevirtual 58, 3) := by decide +kernel
theorem dX5_readOut_36 : decode cX5_readOut 36 = .ok (.putfield 45, 3) := by decide +kernel
theorem dX5_readOut_39 : decode cX5_readOut 39 = .ok (.aload_n 0, 1) := by decide +kernel
theorem dX5_readOut_40 : decode cX5_readOut 40 = .ok (.getfield 12, 3) := by decide +kernel
theorem dX5_readOut_43 : decode cX5_readOut 43 = .ok (.aload_n 0, 1) := by decide +kernel
theorem dX5_readOut_44 : decode cX5_readOut 44 = .ok (.iconst 1, 1) := by decide +kernel
theorem dX5_readOut_45 : decode cX5_readOut 45 = .ok (.bipush 9, 2) := by decide +kernel
theorem dX5_readOut_47 : decode cX5_readOut 47 = .ok (.invokevirtual 58, 3) := by decide +kernel
theorem dX5_readOut_50 : decode cX5_readOut 50 = .ok (.putfield 78, 3) := by decide +kernel
theorem dX5_readOut_53 : decode cX5_readOut 53 = .ok (.aload_n 0, 1) := by decide +kernel
theorem dX5_readOut_54 : decode cX5_readOut 54 = .ok (.invokevirtual 64, 3) := by decide +kernel
theorem dX5_readOut_57 : decode cX5_readOut 57 = .ok (.return_, 1) := by decide +kernel
theorem dX5_readWay_0 : decode cX5_readWay 0 = .ok (.aload_n 0, 1) := by decide +kernel
theorem dX5_readWay_1 : decode cX5_readWay 1 = .ok (.getfield 12, 3) := by decide +kernel
theorem dX5_readWay_4 : decode cX5_readWay 4 = .ok (.getfield 81, 3) := by decide +kernel
theorem dX5_readWay_7 : decode cX5_readWay 7 = .ok (.istore_n 2, 1) := by decide +kernel
theorem dX5_readWay_8 : decode cX5_readWay 8 = .ok (.iload_n 2, 1) := by decide +kernel
theorem dX5_readWay_9 : decode cX5_readWay 9 = .ok (.bipush 24, 2) := by decide +kernel
theorem dX5_readWay_11 : decode cX5_readWay 11 = .ok (.if_icmp .lt 10, 3) := by decide +kernel
theorem dX5_readWay_14 : decode cX5_readWay 14 = .ok (.aload_n 0, 1) := by decide +kernel
theorem dX5_readWay_15 : decode cX5_readWay 15 = .ok (.iconst 4, 1) := by decide +kernel
theorem dX5_readWay_16 : decode cX5_readWay 16 = .ok (.iload_n 1, 1) := by decide +kernel
theorem dX5_readWay_17 : decode cX5_readWay 17 = .ok (.invokevirtual 48, 3) := by decide +kernel
theorem dX5_readWay_20 : decode cX5_readWay 20 = .ok (.return_, 1) := by decide +kernel
theorem dX5_readWay_21 : decode cX5_readWay 21 = .ok (.aload_n 0, 1) := by decide +kernel
theorem dX5_readWay_22 : decode cX5_readWay 22 = .ok (.iconst 0, 1) := by decide +kernel
theorem dX5_readWay_23 : decode cX5_readWay 23 = .ok (.aload_n 0, 1) := by decide +kernel
theorem dX5_readWay_24 : decode cX5_readWay 24 = .ok (.getfield 12, 3) := by decide +kernel
theorem dX5_readWay_27 : decode cX5_readWay 27 = .ok (.getfield 62, 3) := by decide +kernel
theorem dX5_readWay_30 : decode cX5_readWay 30 = .ok (.iconst 1, 1) := by decide +kernel
theorem dX5_readWay_31 : decode cX5_readWay 31 = .ok (.isub, 1) := by decide +kernel
theorem dX5_readWay_32 : decode cX5_readWay 32 = .ok (.invokevirtual 58, 3) := by decide +kernel
theorem dX5_readWay_35 : decode cX5_readWay 35 = .ok (.istore_n 3, 1) := by decide +kernel
theorem dX5_readWay_36 : decode cX5_readWay 36 = .ok (.aload_n 0, 1) := by decide +kernel
theorem dX5_readWay_37 : decode cX5_readWay 37 = .ok (.iconst 0, 1) := by decide +kernel
theorem dX5_readWay_38 : decode cX5_readWay 38 = .ok (.aload_n 0, 1) := by decide +kernel
theorem dX5_readWay_39 : decode cX5_readWay 39 = .ok (.getfield 12, 3) := by decide +kernel
theorem dX5_readWay_42 : decode cX5_readWay 42 = .ok (.getfield 62, 3) := by decide +kernel
theorem dX5_readWay_45 : decode cX5_readWay 45 = .ok (.iconst 1, 1) := by decide +kernel
theorem dX5_readWay_46 : decode cX5_readWay 46 = .ok (.isub, 1) := by decide +kernel
theorem dX5_readWay_47 : decode cX5_readWay 47 = .ok (.invokevirtual 58, 3) := by decide +kernel
theorem dX5_readWay_50 : decode cX5_readWay 50 = .ok (.istore 4, 2) := by decide +kernel
theorem dX5_readWay_52 : decode cX5_readWay 52 = .ok (.iload_n 3, 1) := by decide +kernel
theorem dX5_readWay_53 : decode cX5_readWay 53 = .ok (.iload 4, 2) := by decide +kernel
theorem dX5_readWay_55 : decode cX5_readWay 55 = .ok (.if_icmp .ne 12, 3) := by decide +kernel
theorem dX5_readWay_58 : decode cX5_readWay 58 = .ok (.aload_n 0, 1) := by decide +kernel
theorem dX5_readWay_59 : decode cX5_readWay 59 = .ok (.iconst 5, 1) := by decide +kernel
theorem dX5_readWay_60 : decode cX5_readWay 60 = .ok (.aload_n 0, 1) := by decide +kernel
theorem dX5_readWay_61 : decode cX5_readWay 61 = .ok (.getfield 84, 3) := by decide +kernel
theorem dX5_readWay_64 : decode cX5_readWay 64 = .ok (.invokevirtual 48, 3) := by decide +kernel
theorem dX5_readWay_67 : decode cX5_readWay 67 = .ok (.aload_n 0, 1) := by decide +kernel
theorem dX5_readWay_68 : decode cX5_readWay 68 = .ok (.iconst 1, 1) := by decide +kernel
theorem dX5_readWay_69 : decode cX5_readWay 69 = .ok (.bipush 30, 2) := by decide +kernel
theorem dX5_readWay_71 : decode cX5_readWay 71 = .ok (.invokevirtual 58, 3) := by decide +kernel
theorem dX5_readWay_74 : decode cX5_readWay 74 = .ok (.istore 5, 2) := by decide +kernel
theorem dX5_readWay_76 : decode cX5_readWay 76 = .ok (.aload_n 0, 1) := by decide +kernel
theorem dX5_readWay_77 : decode cX5_readWay 77 = .ok (.getfield 12, 3) := by decide +kernel
theorem dX5_readWay_80 : decode cX5_readWay 80 = .ok (.iload_n 2, 1) := by decide +kernel
theorem dX5_readWay_81 : decode cX5_readWay 81 = .ok (.iconst 0, 1) := by decide +kernel
theorem dX5_readWay_82 : decode cX5_readWay 82 = .ok (.iload_n 3, 1) := by decide +kernel
theorem dX5_readWay_83 : decode cX5_readWay 83 = .ok (.invokevirtual 87, 3) := by decide +kernel
theorem dX5_readWay_86 : decode cX5_readWay 86 = .ok (.aload_n 0, 1) := by decide +kernel
theorem dX5_readWay_87 : decode cX5_readWay 87 = .ok (.getfield 12, 3) := by decide +kernel
theorem dX5_readWay_90 : decode cX5_readWay 90 = .ok (.iload_n 2, 1) := by decide +kernel
theorem dX5_readWay_91 : decode cX5_readWay 91 = .ok (.iconst 1, 1) := by decide +kernel
theorem dX5_readWay_92 : decode cX5_readWay 92 = .ok (.iload 4, 2) := by decide +kernel
theorem dX5_readWay_94 : decode cX5_readWay 94 = .ok (.invokevirtual 87, 3) := by decide +kernel
theorem dX5_readWay_97 : decode cX5_readWay 97 = .ok (.aload_n 0, 1) := by decide +kernel
theorem dX5_readWay_98 : decode cX5_readWay 98 = .ok (.getfield 12, 3) := by decide +kernel
theorem dX5_readWay_101 : decode cX5_readWay 101 = .ok (.iload_n 2, 1) := by decide +kernel
theorem dX5_readWay_102 : decode cX5_readWay 102 = .ok (.iconst 2, 1) := by decide +kernel
theorem dX5_readWay_103 : decode cX5_readWay 103 = .ok (.iload 5, 2) := by decide +kernel
theorem dX5_readWay_105 : decode cX5_readWay 105 = .ok (.invokevirtual 87, 3) := by decide +kernel
theorem dX5_readWay_108 : decode cX5_readWay 108 = .ok (.aload_n 0, 1) := by decide +kernel
theorem dX5_readWay_109 : decode cX5_readWay 109 = .ok (.getfield 12, 3) := by decide +kernel
theorem dX5_readWay_112 : decode cX5_readWay 112 = .ok (.iload_n 2, 1) := by decide +kernel
theorem dX5_readWay_113 : decode cX5_readWay 113 = .ok (.iconst 3, 1) := by decide +kernel
theorem dX5_readWay_114 : decode cX5_readWay 114 = .ok (.aload_n 0, 1) := by decide +kernel
theorem dX5_readWay_115 : decode cX5_readWay 115 = .ok (.ldc 91, 2) := by decide +kernel
theorem dX5_readWay_117 : decode cX5_readWay 117 = .ok (.invokevirtual 54, 3) := by decide +kernel
theorem dX5_readWay_120 : decode cX5_readWay 120 = .ok (.ifCond .eq 14, 3) := by decide +kernel
theorem dX5_readWay_123 : decode cX5_readWay 123 = .ok (.aload_n 0, 1) := by decide +kernel
theorem dX5_readWay_124 : decode cX5_readWay 124 = .ok (.iload 5, 2) := by decide +kernel
theorem dX5_readWay_126 : decode cX5_readWay 126 = .ok (.bipush 60, 2) := by decide +kernel
theorem dX5_readWay_128 : decode cX5_readWay 128 = .ok (.invokevirtual 58, 3) := by decide +kernel
theorem dX5_readWay_131 : decode cX5_readWay 131 = .ok (.goto 4, 3) := by decide +kernel
theorem dX5_readWay_134 : decode cX5_readWay 134 = .ok (.iconst (-1), 1) := by decide +kernel
theorem dX5_readWay_135 : decode cX5_readWay 135 = .ok (.invokevirtual 87, 3) := by decide +kernel
theorem dX5_readWay_138 : decode cX5_readWay 138 = .ok (.aload_n 0, 1) := by decide +kernel
theorem dX5_readWay_139 : decode cX5_readWay 139 = .ok (.getfield 12, 3) := by decide +kernel
theorem dX5_readWay_142 : decode cX5_readWay 142 = .ok (.iload_n 2, 1) := by decide +kernel
theorem dX5_readWay_143 : decode cX5_readWay 143 = .ok (.iconst 4, 1) := by decide +kernel
theorem dX5_readWay_144 : decode cX5_readWay 144 = .ok (.aload_n 0, 1) := by decide +kernel
theorem dX5_readWay_145 : decode cX5_readWay 145 = .ok (.ldc 93, 2) := by decide +kernel
theorem dX5_readWay_147 : decode cX5_readWay 147 = .ok (.invokevirtual 54, 3) := by decide +kernel
theorem dX5_readWay_150 : decode cX5_readWay 150 = .ok (.ifCond .eq 13, 3) := by decide +kernel
theorem dX5_readWay_153 : decode cX5_readWay 153 = .ok (.aload_n 0, 1) := by decide +kernel
theorem dX5_readWay_154 : decode cX5_readWay 154 = .ok (.iconst 1, 1) := by decide +kernel
theorem dX5_readWay_155 : decode cX5_readWay 155 = .ok (.bipush 9, 2) := by decide +kernel
theorem dX5_readWay_157 : decode cX5_readWay 157 = .ok (.invokevirtual 58, 3) := by decide +kernel
theorem dX5_readWay_160 : decode cX5_readWay 160 = .ok (.goto 5, 3) := by decide +kernel
theorem dX5_readWay_163 : decode cX5_readWay 163 = .ok (.bipush 9, 2) := by decide +kernel
theorem dX5_readWay_165 : decode cX5_readWay 165 = .ok (.invokevirtual 87, 3) := by decide +kernel
theorem dX5_readWay_168 : decode cX5_readWay 168 = .ok (.aload_n 0, 1) := by decide +kernel
theorem dX5_readWay_169 : decode cX5_readWay 169 = .ok (.getfield 12, 3) := by decide +kernel
theorem dX5_readWay_172 : decode cX5_readWay 172 = .ok (.iload_n 2, 1) := by decide +kernel
theorem dX5_readWay_173 : decode cX5_readWay 173 = .ok (.iconst 5, 1) := by decide +kernel
theorem dX5_readWay_174 : decode cX5_readWay 174 = .ok (.aload_n 0, 1) := by decide +kernel
theorem dX5_readWay_175 : decode cX5_readWay 175 = .ok (.ldc 95, 2) := by decide +kernel
theorem dX5_readWay_177 : decode cX5_readWay 177 = .ok (.invokevirtual 54, 3) := by decide +kernel
theorem dX5_readWay_180 : decode cX5_readWay 180 = .ok (.ifCond .eq 13, 3) := by decide +kernel
theorem dX5_readWay_183 : decode cX5_readWay 183 = .ok (.aload_n 0, 1) := by decide +kernel
theorem dX5_readWay_184 : decode cX5_readWay 184 = .ok (.iconst 0, 1) := by decide +kernel
theorem dX5_readWay_185 : decode cX5_readWay 185 = .ok (.bipush 99, 2) := by decide +kernel
theorem dX5_readWay_187 : decode cX5_readWay 187 = .ok (.invokevirtual 58, 3) := by decide +kernel
theorem dX5_readWay_190 : decode cX5_readWay 190 = .ok (.goto 5, 3) := by decide +kernel
theorem dX5_readWay_193 : decode cX5_readWay 193 = .ok (.bipush 99, 2) := by decide +kernel
theorem dX5_readWay_195 : decode cX5_readWay 195 = .ok (.invokevirtual 87, 3) := by decide +kernel
theorem dX5_readWay_198 : decode cX5_readWay 198 = .ok (.aload_n 0, 1) := by decide +kernel
theorem dX5_readWay_199 : decode cX5_readWay 199 = .ok (.getfield 12, 3) := by decide +kernel
theorem dX5_readWay_202 : decode cX5_readWay 202 = .ok (.iload_n 2, 1) := by decide +kernel
theorem dX5_readWay_203 : decode cX5_readWay 203 = .ok (.bipush 6, 2) := by decide +kernel
theorem dX5_readWay_205 : decode cX5_readWay 205 = .ok (.aload_n 0, 1) := by decide +kernel
theorem dX5_readWay_206 : decode cX5_readWay 206 = .ok (.ldc 97, 2) := by decide +kernel
theorem dX5_readWay_208 : decode cX5_readWay 208 = .ok (.invokevirtual 54, 3) := by decide +kernel
theorem dX5_readWay_211 : decode cX5_readWay 211 = .ok (.ifCond .eq 14, 3) := by decide +kernel
theorem dX5_readWay_214 : decode cX5_readWay 214 = .ok (.aload_n 0, 1) := by decide +kernel
theorem dX5_readWay_215 : decode cX5_readWay 215 = .ok (.iconst 0, 1) := by decide +kernel
theorem dX5_readWay_216 : decode cX5_readWay 216 = .ok (.sipush 999, 3) := by decide +kernel
theorem dX5_readWay_219 : decode cX5_readWay 219 = .ok (.invokevirtual 58, 3) := by decide +kernel
theorem dX5_readWay_222 : decode cX5_readWay 222 = .ok (.goto 4, 3) := by decide +kernel
theorem dX5_readWay_225 : decode cX5_readWay 225 = .ok (.iconst 0, 1) := by decide +kernel
theorem dX5_readWay_226 : decode cX5_readWay 226 = .ok (.invokevirtual 87, 3) := by decide +kernel
theorem dX5_readWay_229 : decode cX5_readWay 229 = .ok (.aload_n 0, 1) := by decide +kernel
theorem dX5_readWay_230 : decode cX5_readWay 230 = .ok (.invokevirtual 64, 3) := by decide +kernel
theorem dX5_readWay_233 : decode cX5_readWay 233 = .ok (.aload_n 0, 1) := by decide +kernel
theorem dX5_readWay_234 : decode cX5_readWay 234 = .ok (.getfield 12, 3) := by decide +kernel
theorem dX5_readWay_237 : decode cX5_readWay 237 = .ok (.iload_n 2, 1) := by decide +kernel
theorem dX5_readWay_238 : decode cX5_readWay 238 = .ok (.iconst 1, 1) := by decide +kernel
theorem dX5_readWay_239 : decode cX5_readWay 239 = .ok (.iadd, 1) := by decide +kernel
theorem dX5_readWay_240 : decode cX5_readWay 240 = .ok (.putfield 81, 3) := by decide +kernel
theorem dX5_readWay_243 : decode cX5_readWay 243 = .ok (.return_, 1) := by decide +kernel
theorem dX5_blame_0 : decode cX5_blame 0 = .ok (.aload_n 0, 1) := by decide +kernel
theorem dX5_blame_1 : decode cX5_blame 1 = .ok (.getfield 29, 3) := by decide +kernel
theorem dX5_blame_4 : decode cX5_blame 4 = .ok (.ifCond .ne 13, 3) := by decide +kernel
theorem dX5_blame_7 : decode cX5_blame 7 = .ok (.aload_n 0, 1) := by decide +kernel
theorem dX5_blame_8 : decode cX5_blame 8 = .ok (.iload_n 1, 1) := by decide +kernel
theorem dX5_blame_9 : decode cX5_blame 9 = .ok (.putfield 29, 3) := by decide +kernel
theorem dX5_blame_12 : decode cX5_blame 12 = .ok (.aload_n 0, 1) := by decide +kernel
theorem dX5_blame_13 : decode cX5_blame 13 = .ok (.iload_n 2, 1) := by decide +kernel
theorem dX5_blame_14 : decode cX5_blame 14 = .ok (.putfield 18, 3) := by decide +kernel
theorem dX5_blame_17 : decode cX5_blame 17 = .ok (.return_, 1) := by decide +kernel
theorem dX5_isLetter_0 : decode cX5_isLetter 0 = .ok (.iload_n 1, 1) := by decide +kernel
theorem dX5_isLetter_1 : decode cX5_isLetter 1 = .ok (.aload_n 0, 1) := by decide +kernel
theorem dX5_isLetter_2 : decode cX5_isLetter 2 = .ok (.getfield 22, 3) := by decide +kernel
theorem dX5_isLetter_5 : decode cX5_isLetter 5 = .ok (.getfield 99, 3) := by decide +kernel
theorem dX5_isLetter_8 : decode cX5_isLetter 8 = .ok (.if_icmp .ge 35, 3) := by decide +kernel
theorem dX5_isLetter_11 : decode cX5_isLetter 11 = .ok (.aload_n 0, 1) := by decide +kernel
theorem dX5_isLetter_12 : decode cX5_isLetter 12 = .ok (.getfield 22, 3) := by decide +kernel
theorem dX5_isLetter_15 : decode cX5_isLetter 15 = .ok (.getfield 104, 3) := by decide +kernel
theorem dX5_isLetter_18 : decode cX5_isLetter 18 = .ok (.iload_n 1, 1) := by decide +kernel
theorem dX5_isLetter_19 : decode cX5_isLetter 19 = .ok (.baload, 1) := by decide +kernel
theorem dX5_isLetter_20 : decode cX5_isLetter 20 = .ok (.bipush 97, 2) := by decide +kernel
theorem dX5_isLetter_22 : decode cX5_isLetter 22 = .ok (.if_icmp .lt 21, 3) := by decide +kernel
theorem dX5_isLetter_25 : decode cX5_isLetter 25 = .ok (.aload_n 0, 1) := by decide +kernel
theorem dX5_isLetter_26 : decode cX5_isLetter 26 = .ok (.getfield 22, 3) := by decide +kernel
theorem dX5_isLetter_29 : decode cX5_isLetter 29 = .ok (.getfield 104, 3) := by decide +kernel
theorem dX5_isLetter_32 : decode cX5_isLetter 32 = .ok (.iload_n 1, 1) := by decide +kernel
theorem dX5_isLetter_33 : decode cX5_isLetter 33 = .ok (.baload, 1) := by decide +kernel
theorem dX5_isLetter_34 : decode cX5_isLetter 34 = .ok (.bipush 122, 2) := by decide +kernel
theorem dX5_isLetter_36 : decode cX5_isLetter 36 = .ok (.if_icmp .gt 7, 3) := by decide +kernel
theorem dX5_isLetter_39 : decode cX5_isLetter 39 = .ok (.iconst 1, 1) := by decide +kernel
theorem dX5_isLetter_40 : decode cX5_isLetter 40 = .ok (.goto 4, 3) := by decide +kernel
theorem dX5_isLetter_43 : decode cX5_isLetter 43 = .ok (.iconst 0, 1) := by decide +kernel
theorem dX5_isLetter_44 : decode cX5_isLetter 44 = .ok (.ireturn, 1) := by decide +kernel
theorem dX5_isFigure_0 : decode cX5_isFigure 0 = .ok (.iload_n 1, 1) := by decide +kernel
theorem dX5_isFigure_1 : decode cX5_isFigure 1 = .ok (.aload_n 0, 1) := by decide +kernel
theorem dX5_isFigure_2 : decode cX5_isFigure 2 = .ok (.getfield 22, 3) := by decide +kernel
theorem dX5_isFigure_5 : decode cX5_isFigure 5 = .ok (.getfield 99, 3) := by decide +kernel
theorem dX5_isFigure_8 : decode cX5_isFigure 8 = .ok (.if_icmp .ge 35, 3) := by decide +kernel
theorem dX5_isFigure_11 : decode cX5_isFigure 11 = .ok (.aload_n 0, 1) := by decide +kernel
theorem dX5_isFigure_12 : decode cX5_isFigure 12 = .ok (.getfield 22, 3) := by decide +kernel
theorem dX5_isFigure_15 : decode cX5_isFigure 15 = .ok (.getfield 104, 3) := by decide +kernel
theorem dX5_isFigure_18 : decode cX5_isFigure 18 = .ok (.iload_n 1, 1) := by decide +kernel
theorem dX5_isFigure_19 : decode cX5_isFigure 19 = .ok (.baload, 1) := by decide +kernel
theorem dX5_isFigure_20 : decode cX5_isFigure 20 = .ok (.bipush 48, 2) := by decide +kernel
theorem dX5_isFigure_22 : decode cX5_isFigure 22 = .ok (.if_icmp .lt 21, 3) := by decide +kernel
theorem dX5_isFigure_25 : decode cX5_isFigure 25 = .ok (.aload_n 0, 1) := by decide +kernel
theorem dX5_isFigure_26 : decode cX5_isFigure 26 = .ok (.getfield 22, 3) := by decide +kernel
theorem dX5_isFigure_29 : decode cX5_isFigure 29 = .ok (.getfield 104, 3) := by decide +kernel
theorem dX5_isFigure_32 : decode cX5_isFigure 32 = .ok (.iload_n 1, 1) := by decide +kernel
theorem dX5_isFigure_33 : decode cX5_isFigure 33 = .ok (.baload, 1) := by decide +kernel
theorem dX5_isFigure_34 : decode cX5_isFigure 34 = .ok (.bipush 57, 2) := by decide +kernel
theorem dX5_isFigure_36 : decode cX5_isFigure 36 = .ok (.if_icmp .gt 7, 3) := by decide +kernel
theorem dX5_isFigure_39 : decode cX5_isFigure 39 = .ok (.iconst 1, 1) := by decide +kernel
theorem dX5_isFigure_40 : decode cX5_isFigure 40 = .ok (.goto 4, 3) := by decide +kernel
theorem dX5_isFigure_43 : decode cX5_isFigure 43 = .ok (.iconst 0, 1) := by decide +kernel
theorem dX5_isFigure_44 : decode cX5_isFigure 44 = .ok (.ireturn, 1) := by decide +kernel
theorem dX5_atEnd_0 : decode cX5_atEnd 0 = .ok (.aload_n 0, 1) := by decide +kernel
theorem dX5_atEnd_1 : decode cX5_atEnd 1 = .ok (.getfield 26, 3) := by decide +kernel
theorem dX5_atEnd_4 : decode cX5_atEnd 4 = .ok (.aload_n 0, 1) := by decide +kernel
theorem dX5_atEnd_5 : decode cX5_atEnd 5 = .ok (.getfield 22, 3) := by decide +kernel
theorem dX5_atEnd_8 : decode cX5_atEnd 8 = .ok (.getfield 99, 3) := by decide +kernel
theorem dX5_atEnd_11 : decode cX5_atEnd 11 = .ok (.if_icmp .ge 33, 3) := by decide +kernel
theorem dX5_atEnd_14 : decode cX5_atEnd 14 = .ok (.aload_n 0, 1) := by decide +kernel
theorem dX5_atEnd_15 : decode cX5_atEnd 15 = .ok (.getfield 22, 3) := by decide +kernel
theorem dX5_atEnd_18 : decode cX5_atEnd 18 = .ok (.getfield 104, 3) := by decide +kernel
theorem dX5_atEnd_21 : decode cX5_atEnd 21 = .ok (.aload_n 0, 1) := by decide +kernel
theorem dX5_atEnd_22 : decode cX5_atEnd 22 = .ok (.getfield 26, 3) := by decide +kernel
theorem dX5_atEnd_25 : decode cX5_atEnd 25 = .ok (.baload, 1) := by decide +kernel
theorem dX5_atEnd_26 : decode cX5_atEnd 26 = .ok (.bipush 32, 2) := by decide +kernel
theorem dX5_atEnd_28 : decode cX5_atEnd 28 = .ok (.if_icmp .ne 16, 3) := by decide +kernel
theorem dX5_atEnd_31 : decode cX5_atEnd 31 = .ok (.aload_n 0, 1) := by decide +kernel
theorem dX5_atEnd_32 : decode cX5_atEnd 32 = .ok (.dup, 1) := by decide +kernel
theorem dX5_atEnd_33 : decode cX5_atEnd 33 = .ok (.getfield 26, 3) := by decide +kernel
theorem dX5_atEnd_36 : decode cX5_atEnd 36 = .ok (.iconst 1, 1) := by decide +kernel
theorem dX5_atEnd_37 : decode cX5_atEnd 37 = .ok (.iadd, 1) := by decide +kernel
theorem dX5_atEnd_38 : decode cX5_atEnd 38 = .ok (.putfield 26, 3) := by decide +kernel
theorem dX5_atEnd_41 : decode cX5_atEnd 41 = .ok (.goto (-41), 3) := by decide +kernel
theorem dX5_atEnd_44 : decode cX5_atEnd 44 = .ok (.aload_n 0, 1) := by decide +kernel
theorem dX5_atEnd_45 : decode cX5_atEnd 45 = .ok (.getfield 26, 3) := by decide +kernel
theorem dX5_atEnd_48 : decode cX5_atEnd 48 = .ok (.aload_n 0, 1) := by decide +kernel
theorem dX5_atEnd_49 : decode cX5_atEnd 49 = .ok (.getfield 22, 3) := by decide +kernel
theorem dX5_atEnd_52 : decode cX5_atEnd 52 = .ok (.getfield 99, 3) := by decide +kernel
theorem dX5_atEnd_55 : decode cX5_atEnd 55 = .ok (.if_icmp .lt 7, 3) := by decide +kernel
theorem dX5_atEnd_58 : decode cX5_atEnd 58 = .ok (.iconst 1, 1) := by decide +kernel
theorem dX5_atEnd_59 : decode cX5_atEnd 59 = .ok (.goto 4, 3) := by decide +kernel
theorem dX5_atEnd_62 : decode cX5_atEnd 62 = .ok (.iconst 0, 1) := by decide +kernel
theorem dX5_atEnd_63 : decode cX5_atEnd 63 = .ok (.ireturn, 1) := by decide +kernel
theorem dX5_takeWord_0 : decode cX5_takeWord 0 = .ok (.aload_n 1, 1) := by decide +kernel
theorem dX5_takeWord_1 : decode cX5_takeWord 1 = .ok (.invokevirtual 108, 3) := by decide +kernel
theorem dX5_takeWord_4 : decode cX5_takeWord 4 = .ok (.istore_n 2, 1) := by decide +kernel
theorem dX5_takeWord_5 : decode cX5_takeWord 5 = .ok (.aload_n 0, 1) := by decide +kernel
theorem dX5_takeWord_6 : decode cX5_takeWord 6 = .ok (.invokevirtual 38, 3) := by decide +kernel
theorem dX5_takeWord_9 : decode cX5_takeWord 9 = .ok (.ifCond .ne 32, 3) := by decide +kernel
theorem dX5_takeWord_12 : decode cX5_takeWord 12 = .ok (.aload_n 0, 1) := by decide +kernel
theorem dX5_takeWord_13 : decode cX5_takeWord 13 = .ok (.getfield 26, 3) := by decide +kernel
theorem dX5_takeWord_16 : decode cX5_takeWord 16 = .ok (.iload_n 2, 1) := by decide +kernel
theorem dX5_takeWord_17 : decode cX5_takeWord 17 = .ok (.iadd, 1) := by decide +kernel
theorem dX5_takeWord_18 : decode cX5_takeWord 18 = .ok (.aload_n 0, 1) := by decide +kernel
theorem dX5_takeWord_19 : decode cX5_takeWord 19 = .ok (.getfield 22, 3) := by decide +kernel
theorem dX5_takeWord_22 : decode cX5_takeWord 22 = .ok (.getfield 99, 3) := by decide +kernel
theorem dX5_takeWord_25 : decode cX5_takeWord 25 = .ok (.if_icmp .gt 16, 3) := by decide +kernel
theorem dX5_takeWord_28 : decode cX5_takeWord 28 = .ok (.aload_n 0, 1) := by decide +kernel
theorem dX5_takeWord_29 : decode cX5_takeWord 29 = .ok (.aload_n 0, 1) := by decide +kernel
theorem dX5_takeWord_30 : decode cX5_takeWord 30 = .ok (.getfield 26, 3) := by decide +kernel
theorem dX5_takeWord_33 : decode cX5_takeWord 33 = .ok (.iload_n 2, 1) := by decide +kernel
theorem dX5_takeWord_34 : decode cX5_takeWord 34 = .ok (.iadd, 1) := by decide +kernel
theorem dX5_takeWord_35 : decode cX5_takeWord 35 = .ok (.invokevirtual 114, 3) := by decide +kernel
theorem dX5_takeWord_38 : decode cX5_takeWord 38 = .ok (.ifCond .eq 5, 3) := by decide +kernel
theorem dX5_takeWord_41 : decode cX5_takeWord 41 = .ok (.iconst 0, 1) := by decide +kernel
theorem dX5_takeWord_42 : decode cX5_takeWord 42 = .ok (.ireturn, 1) := by decide +kernel
theorem dX5_takeWord_43 : decode cX5_takeWord 43 = .ok (.iconst 0, 1) := by decide +kernel
theorem dX5_takeWord_44 : decode cX5_takeWord 44 = .ok (.istore_n 3, 1) := by decide +kernel
theorem dX5_takeWord_45 : decode cX5_takeWord 45 = .ok (.iload_n 3, 1) := by decide +kernel
theorem dX5_takeWord_46 : decode cX5_takeWord 46 = .ok (.iload_n 2, 1) := by decide +kernel
theorem dX5_takeWord_47 : decode cX5_takeWord 47 = .ok (.if_icmp .ge 33, 3) := by decide +kernel
theorem dX5_takeWord_50 : decode cX5_takeWord 50 = .ok (.aload_n 0, 1) := by decide +kernel
theorem dX5_takeWord_51 : decode cX5_takeWord 51 = .ok (.getfield 22, 3) := by decide +kernel
theorem dX5_takeWord_54 : decode cX5_takeWord 54 = .ok (.getfield 104, 3) := by decide +kernel
theorem dX5_takeWord_57 : decode cX5_takeWord 57 = .ok (.aload_n 0, 1) := by decide +kernel
theorem dX5_takeWord_58 : decode cX5_takeWord 58 = .ok (.getfield 26, 3) := by decide +kernel
theorem dX5_takeWord_61 : decode cX5_takeWord 61 = .ok (.iload_n 3, 1) := by decide +kernel
theorem dX5_takeWord_62 : decode cX5_takeWord 62 = .ok (.iadd, 1) := by decide +kernel
theorem dX5_takeWord_63 : decode cX5_takeWord 63 = .ok (.baload, 1) := by decide +kernel
theorem dX5_takeWord_64 : decode cX5_takeWord 64 = .ok (.aload_n 1, 1) := by decide +kernel
theorem dX5_takeWord_65 : decode cX5_takeWord 65 = .ok (.iload_n 3, 1) := by decide +kernel
theorem dX5_takeWord_66 : decode cX5_takeWord 66 = .ok (.invokevirtual 118, 3) := by decide +kernel
theorem dX5_takeWord_69 : decode cX5_takeWord 69 = .ok (.if_icmp .eq 5, 3) := by decide +kernel
theorem dX5_takeWord_72 : decode cX5_takeWord 72 = .ok (.iconst 0, 1) := by decide +kernel
theorem dX5_takeWord_73 : decode cX5_takeWord 73 = .ok (.ireturn, 1) := by decide +kernel
theorem dX5_takeWord_74 : decode cX5_takeWord 74 = .ok (.iinc 3 1, 3) := by decide +kernel
theorem dX5_takeWord_77 : decode cX5_takeWord 77 = .ok (.goto (-32), 3) := by decide +kernel
theorem dX5_takeWord_80 : decode cX5_takeWord 80 = .ok (.aload_n 0, 1) := by decide +kernel
theorem dX5_takeWord_81 : decode cX5_takeWord 81 = .ok (.dup, 1) := by decide +kernel
theorem dX5_takeWord_82 : decode cX5_takeWord 82 = .ok (.getfield 26, 3) := by decide +kernel
theorem dX5_takeWord_85 : decode cX5_takeWord 85 = .ok (.iload_n 2, 1) := by decide +kernel
theorem dX5_takeWord_86 : decode cX5_takeWord 86 = .ok (.iadd, 1) := by decide +kernel
theorem dX5_takeWord_87 : decode cX5_takeWord 87 = .ok (.putfield 26, 3) := by decide +kernel
theorem dX5_takeWord_90 : decode cX5_takeWord 90 = .ok (.iconst 1, 1) := by decide +kernel
theorem dX5_takeWord_91 : decode cX5_takeWord 91 = .ok (.ireturn, 1) := by decide +kernel
theorem dX5_number_0 : decode cX5_number 0 = .ok (.aload_n 0, 1) := by decide +kernel
theorem dX5_number_1 : decode cX5_number 1 = .ok (.invokevirtual 38, 3) := by decide +kernel
theorem dX5_number_4 : decode cX5_number 4 = .ok (.pop, 1) := by decide +kernel
theorem dX5_number_5 : decode cX5_number 5 = .ok (.aload_n 0, 1) := by decide +kernel
theorem dX5_number_6 : decode cX5_number 6 = .ok (.aload_n 0, 1) := by decide +kernel
theorem dX5_number_7 : decode cX5_number 7 = .ok (.getfield 26, 3) := by decide +kernel
theorem dX5_number_10 : decode cX5_number 10 = .ok (.putfield 84, 3) := by decide +kernel
theorem dX5_number_13 : decode cX5_number 13 = .ok (.iconst 0, 1) := by decide +kernel
theorem dX5_number_14 : decode cX5_number 14 = .ok (.istore_n 3, 1) := by decide +kernel
theorem dX5_number_15 : decode cX5_number 15 = .ok (.aload_n 0, 1) := by decide +kernel
theorem dX5_number_16 : decode cX5_number 16 = .ok (.getfield 26, 3) := by decide +kernel
theorem dX5_number_19 : decode cX5_number 19 = .ok (.aload_n 0, 1) := by decide +kernel
theorem dX5_number_20 : decode cX5_number 20 = .ok (.getfield 22, 3) := by decide +kernel
theorem dX5_number_23 : decode cX5_number 23 = .ok (.getfield 99, 3) := by decide +kernel
theorem dX5_number_26 : decode cX5_number 26 = .ok (.if_icmp .ge 61, 3) := by decide +kernel
theorem dX5_number_29 : decode cX5_number 29 = .ok (.aload_n 0, 1) := by decide +kernel
theorem dX5_number_30 : decode cX5_number 30 = .ok (.aload_n 0, 1) := by decide +kernel
theorem dX5_number_31 : decode cX5_number 31 = .ok (.getfield 26, 3) := by decide +kernel
theorem dX5_number_34 : decode cX5_number 34 = .ok (.invokevirtual 122, 3) := by decide +kernel
theorem dX5_number_37 : decode cX5_number 37 = .ok (.ifCond .eq 50, 3) := by decide +kernel
theorem dX5_number_40 : decode cX5_number 40 = .ok (.aload_n 0, 1) := by decide +kernel
theorem dX5_number_41 : decode cX5_number 41 = .ok (.getfield 26, 3) := by decide +kernel
theorem dX5_number_44 : decode cX5_number 44 = .ok (.aload_n 0, 1) := by decide +kernel
theorem dX5_number_45 : decode cX5_number 45 = .ok (.getfield 84, 3) := by decide +kernel
theorem dX5_number_48 : decode cX5_number 48 = .ok (.isub, 1) := by decide +kernel
theorem dX5_number_49 : decode cX5_number 49 = .ok (.iconst 3, 1) := by decide +kernel
theorem dX5_number_50 : decode cX5_number 50 = .ok (.if_icmp .ge 24, 3) := by decide +kernel
theorem dX5_number_53 : decode cX5_number 53 = .ok (.iload_n 3, 1) := by decide +kernel
theorem dX5_number_54 : decode cX5_number 54 = .ok (.bipush 10, 2) := by decide +kernel
theorem dX5_number_56 : decode cX5_number 56 = .ok (.imul, 1) := by decide +kernel
theorem dX5_number_57 : decode cX5_number 57 = .ok (.aload_n 0, 1) := by decide +kernel
theorem dX5_number_58 : decode cX5_number 58 = .ok (.getfield 22, 3) := by decide +kernel
theorem dX5_number_61 : decode cX5_number 61 = .ok (.getfield 104, 3) := by decide +kernel
theorem dX5_number_64 : decode cX5_number 64 = .ok (.aload_n 0, 1) := by decide +kernel
theorem dX5_number_65 : decode cX5_number 65 = .ok (.getfield 26, 3) := by decide +kernel
theorem dX5_number_68 : decode cX5_number 68 = .ok (.baload, 1) := by decide +kernel
theorem dX5_number_69 : decode cX5_number 69 = .ok (.iadd, 1) := by decide +kernel
theorem dX5_number_70 : decode cX5_number 70 = .ok (.bipush 48, 2) := by decide +kernel
theorem dX5_number_72 : decode cX5_number 72 = .ok (.isub, 1) := by decide +kernel
theorem dX5_number_73 : decode cX5_number 73 = .ok (.istore_n 3, 1) := by decide +kernel
theorem dX5_number_74 : decode cX5_number 74 = .ok (.aload_n 0, 1) := by decide +kernel
theorem dX5_number_75 : decode cX5_number 75 = .ok (.dup, 1) := by decide +kernel
theorem dX5_number_76 : decode cX5_number 76 = .ok (.getfield 26, 3) := by decide +kernel
theorem dX5_number_79 : decode cX5_number 79 = .ok (.iconst 1, 1) := by decide +kernel
theorem dX5_number_80 : decode cX5_number 80 = .ok (.iadd, 1) := by decide +kernel
theorem dX5_number_81 : decode cX5_number 81 = .ok (.putfield 26, 3) := by decide +kernel
theorem dX5_number_84 : decode cX5_number 84 = .ok (.goto (-69), 3) := by decide +kernel
theorem dX5_number_87 : decode cX5_number 87 = .ok (.aload_n 0, 1) := by decide +kernel
theorem dX5_number_88 : decode cX5_number 88 = .ok (.getfield 26, 3) := by decide +kernel
theorem dX5_number_91 : decode cX5_number 91 = .ok (.aload_n 0, 1) := by decide +kernel
theorem dX5_number_92 : decode cX5_number 92 = .ok (.getfield 84, 3) := by decide +kernel
theorem dX5_number_95 : decode cX5_number 95 = .ok (.isub, 1) := by decide +kernel
theorem dX5_number_96 : decode cX5_number 96 = .ok (.istore 4, 2) := by decide +kernel
theorem dX5_number_98 : decode cX5_number 98 = .ok (.iload 4, 2) := by decide +kernel
theorem dX5_number_100 : decode cX5_number 100 = .ok (.ifCond .ne 15, 3) := by decide +kernel
theorem dX5_number_103 : decode cX5_number 103 = .ok (.aload_n 0, 1) := by decide +kernel
theorem dX5_number_104 : decode cX5_number 104 = .ok (.iconst 1, 1) := by decide +kernel
theorem dX5_number_105 : decode cX5_number 105 = .ok (.aload_n 0, 1) := by decide +kernel
theorem dX5_number_106 : decode cX5_number 106 = .ok (.getfield 84, 3) := by decide +kernel
theorem dX5_number_109 : decode cX5_number 109 = .ok (.invokevirtual 48, 3) := by decide +kernel
theorem dX5_number_112 : decode cX5_number 112 = .ok (.goto 27, 3) := by decide +kernel
theorem dX5_number_115 : decode cX5_number 115 = .ok (.iload 4, 2) := by decide +kernel
theorem dX5_number_117 : decode cX5_number 117 = .ok (.iconst 3, 1) := by decide +kernel
theorem dX5_number_118 : decode cX5_number 118 = .ok (.if_icmp .gt 12, 3) := by decide +kernel
theorem dX5_number_121 : decode cX5_number 121 = .ok (.iload_n 3, 1) := by decide +kernel
theorem dX5_number_122 : decode cX5_number 122 = .ok (.iload_n 1, 1) := by decide +kernel
theorem dX5_number_123 : decode cX5_number 123 = .ok (.iload_n 2, 1) := by decide +kernel
theorem dX5_number_124 : decode cX5_number 124 = .ok (.invokestatic 125, 3) := by decide +kernel
theorem dX5_number_127 : decode cX5_number 127 = .ok (.ifCond .ne 12, 3) := by decide +kernel
theorem dX5_number_130 : decode cX5_number 130 = .ok (.aload_n 0, 1) := by decide +kernel
theorem dX5_number_131 : decode cX5_number 131 = .ok (.iconst 2, 1) := by decide +kernel
theorem dX5_number_132 : decode cX5_number 132 = .ok (.aload_n 0, 1) := by decide +kernel
theorem dX5_number_133 : decode cX5_number 133 = .ok (.getfield 84, 3) := by decide +kernel
theorem dX5_number_136 : decode cX5_number 136 = .ok (.invokevirtual 48, 3) := by decide +kernel
theorem dX5_number_139 : decode cX5_number 139 = .ok (.iload_n 3, 1) := by decide +kernel
theorem dX5_number_140 : decode cX5_number 140 = .ok (.ireturn, 1) := by decide +kernel
theorem dX5_takeClauseEnd_0 : decode cX5_takeClauseEnd 0 = .ok (.aload_n 0, 1) := by decide +kernel
theorem dX5_takeClauseEnd_1 : decode cX5_takeClauseEnd 1 = .ok (.invokevirtual 38, 3) := by decide +kernel
theorem dX5_takeClauseEnd_4 : decode cX5_takeClauseEnd 4 = .ok (.ifCond .ne 33, 3) := by decide +kernel
theorem dX5_takeClauseEnd_7 : decode cX5_takeClauseEnd 7 = .ok (.aload_n 0, 1) := by decide +kernel
theorem dX5_takeClauseEnd_8 : decode cX5_takeClauseEnd 8 = .ok (.getfield 22, 3) := by decide +kernel
theorem dX5_takeClauseEnd_11 : decode cX5_takeClauseEnd 11 = .ok (.getfield 104, 3) := by decide +kernel
theorem dX5_takeClauseEnd_14 : decode cX5_takeClauseEnd 14 = .ok (.aload_n 0, 1) := by decide +kernel
theorem dX5_takeClauseEnd_15 : decode cX5_takeClauseEnd 15 = .ok (.getfield 26, 3) := by decide +kernel
theorem dX5_takeClauseEnd_18 : decode cX5_takeClauseEnd 18 = .ok (.baload, 1) := by decide +kernel
theorem dX5_takeClauseEnd_19 : decode cX5_takeClauseEnd 19 = .ok (.bipush 59, 2) := by decide +kernel
theorem dX5_takeClauseEnd_21 : decode cX5_takeClauseEnd 21 = .ok (.if_icmp .ne 16, 3) := by decide +kernel
theorem dX5_takeClauseEnd_24 : decode cX5_takeClauseEnd 24 = .ok (.aload_n 0, 1) := by decide +kernel
theorem dX5_takeClauseEnd_25 : decode cX5_takeClauseEnd 25 = .ok (.dup, 1) := by decide +kernel
theorem dX5_takeClauseEnd_26 : decode cX5_takeClauseEnd 26 = .ok (.getfield 26, 3) := by decide +kernel
theorem dX5_takeClauseEnd_29 : decode cX5_takeClauseEnd 29 = .ok (.iconst 1, 1) := by decide +kernel
theorem dX5_takeClauseEnd_30 : decode cX5_takeClauseEnd 30 = .ok (.iadd, 1) := by decide +kernel
theorem dX5_takeClauseEnd_31 : decode cX5_takeClauseEnd 31 = .ok (.putfield 26, 3) := by decide +kernel
theorem dX5_takeClauseEnd_34 : decode cX5_takeClauseEnd 34 = .ok (.goto 12, 3) := by decide +kernel
theorem dX5_takeClauseEnd_37 : decode cX5_takeClauseEnd 37 = .ok (.aload_n 0, 1) := by decide +kernel
theorem dX5_takeClauseEnd_38 : decode cX5_takeClauseEnd 38 = .ok (.iconst 1, 1) := by decide +kernel
theorem dX5_takeClauseEnd_39 : decode cX5_takeClauseEnd 39 = .ok (.aload_n 0, 1) := by decide +kernel
theorem dX5_takeClauseEnd_40 : decode cX5_takeClauseEnd 40 = .ok (.getfield 26, 3) := by decide +kernel
theorem dX5_takeClauseEnd_43 : decode cX5_takeClauseEnd 43 = .ok (.invokevirtual 48, 3) := by decide +kernel
theorem dX5_takeClauseEnd_46 : decode cX5_takeClauseEnd 46 = .ok (.return_, 1) := by decide +kernel
theorem dX6_init_0 : decode cX6_init 0 = .ok (.aload_n 0, 1) := by decide +kernel
theorem dX6_init_1 : decode cX6_init 1 = .ok (.invokespecial 3, 3) := by decide +kernel
theorem dX6_init_4 : decode cX6_init 4 = .ok (.aload_n 0, 1) := by decide +kernel
theorem dX6_init_5 : decode cX6_init 5 = .ok (.bipush 12, 2) := by decide +kernel
theorem dX6_init_7 : decode cX6_init 7 = .ok (.newarray .int, 2) := by decide +kernel
theorem dX6_init_9 : decode cX6_init 9 = .ok (.putfield 9, 3) := by decide +kernel
theorem dX6_init_12 : decode cX6_init 12 = .ok (.return_, 1) := by decide +kernel
theorem dX6_append_0 : decode cX6_append 0 = .ok (.aload_n 0, 1) := by decide +kernel
theorem dX6_append_1 : decode cX6_append 1 = .ok (.getfield 15, 3) := by decide +kernel
theorem dX6_append_4 : decode cX6_append 4 = .ok (.bipush 12, 2) := by decide +kernel
theorem dX6_append_6 : decode cX6_append 6 = .ok (.if_icmp .ge 23, 3) := by decide +kernel
theorem dX6_append_9 : decode cX6_append 9 = .ok (.aload_n 0, 1) := by decide +kernel
theorem dX6_append_10 : decode cX6_append 10 = .ok (.getfield 9, 3) := by decide +kernel
theorem dX6_append_13 : decode cX6_append 13 = .ok (.aload_n 0, 1) := by decide +kernel
theorem dX6_append_14 : decode cX6_append 14 = .ok (.getfield 15, 3) := by decide +kernel
theorem dX6_append_17 : decode cX6_append 17 = .ok (.iload_n 1, 1) := by decide +kernel
theorem dX6_append_18 : decode cX6_append 18 = .ok (.iastore, 1) := by decide +kernel
theorem dX6_append_19 : decode cX6_append 19 = .ok (.aload_n 0, 1) := by decide +kernel
theorem dX6_append_20 : decode cX6_append 20 = .ok (.dup, 1) := by decide +kernel
theorem dX6_append_21 : decode cX6_append 21 = .ok (.getfield 15, 3) := by decide +kernel
theorem dX6_append_24 : decode cX6_append 24 = .ok (.iconst 1, 1) := by decide +kernel
theorem dX6_append_25 : decode cX6_append 25 = .ok (.iadd, 1) := by decide +kernel
theorem dX6_append_26 : decode cX6_append 26 = .ok (.putfield 15, 3) := by decide +kernel
theorem dX6_append_29 : decode cX6_append 29 = .ok (.return_, 1) := by decide +kernel
theorem dX7_init_0 : decode cX7_init 0 = .ok (.aload_n 0, 1) := by decide +kernel
theorem dX7_init_1 : decode cX7_init 1 = .ok (.invokespecial 3, 3) := by decide +kernel
theorem dX7_init_4 : decode cX7_init 4 = .ok (.aload_n 0, 1) := by decide +kernel
theorem dX7_init_5 : decode cX7_init 5 = .ok (.bipush 7, 2) := by decide +kernel
theorem dX7_init_7 : decode cX7_init 7 = .ok (.newarray .int, 2) := by decide +kernel
theorem dX7_init_9 : decode cX7_init 9 = .ok (.putfield 9, 3) := by decide +kernel
theorem dX7_init_12 : decode cX7_init 12 = .ok (.aload_n 0, 1) := by decide +kernel
theorem dX7_init_13 : decode cX7_init 13 = .ok (.bipush 12, 2) := by decide +kernel
theorem dX7_init_15 : decode cX7_init 15 = .ok (.newarray .int, 2) := by decide +kernel
theorem dX7_init_17 : decode cX7_init 17 = .ok (.putfield 15, 3) := by decide +kernel
theorem dX7_init_20 : decode cX7_init 20 = .ok (.aload_n 0, 1) := by decide +kernel
theorem dX7_init_21 : decode cX7_init 21 = .ok (.bipush 12, 2) := by decide +kernel
theorem dX7_init_23 : decode cX7_init 23 = .ok (.newarray .int, 2) := by decide +kernel
theorem dX7_init_25 : decode cX7_init 25 = .ok (.putfield 18, 3) := by decide +kernel
theorem dX7_init_28 : decode cX7_init 28 = .ok (.aload_n 0, 1) := by decide +kernel
theorem dX7_init_29 : decode cX7_init 29 = .ok (.bipush 12, 2) := by decide +kernel
theorem dX7_init_31 : decode cX7_init 31 = .ok (.newarray .int, 2) := by decide +kernel
theorem dX7_init_33 : decode cX7_init 33 = .ok (.putfield 21, 3) := by decide +kernel
theorem dX7_init_36 : decode cX7_init 36 = .ok (.aload_n 0, 1) := by decide +kernel
theorem dX7_init_37 : decode cX7_init 37 = .ok (.bipush 64, 2) := by decide +kernel
theorem dX7_init_39 : decode cX7_init 39 = .ok (.newarray .int, 2) := by decide +kernel
theorem dX7_init_41 : decode cX7_init 41 = .ok (.putfield 24, 3) := by decide +kernel
theorem dX7_init_44 : decode cX7_init 44 = .ok (.aload_n 0, 1) := by decide +kernel
theorem dX7_init_45 : decode cX7_init 45 = .ok (.bipush 64, 2) := by decide +kernel
theorem dX7_init_47 : decode cX7_init 47 = .ok (.newarray .int, 2) := by decide +kernel
theorem dX7_init_49 : decode cX7_init 49 = .ok (.putfield 27, 3) := by decide +kernel
theorem dX7_init_52 : decode cX7_init 52 = .ok (.aload_n 0, 1) := by decide +kernel
theorem dX7_init_53 : decode cX7_init 53 = .ok (.sipush 4200, 3) := by decide +kernel
theorem dX7_init_56 : decode cX7_init 56 = .ok (.newarray .int, 2) := by decide +kernel
theorem dX7_init_58 : decode cX7_init 58 = .ok (.putfield 30, 3) := by decide +kernel
theorem dX7_init_61 : decode cX7_init 61 = .ok (.aload_n 0, 1) := by decide +kernel
theorem dX7_init_62 : decode cX7_init 62 = .ok (.sipush 700, 3) := by decide +kernel
theorem dX7_init_65 : decode cX7_init 65 = .ok (.newarray .int, 2) := by decide +kernel
theorem dX7_init_67 : decode cX7_init 67 = .ok (.putfield 33, 3) := by decide +kernel
theorem dX7_init_70 : decode cX7_init 70 = .ok (.aload_n 0, 1) := by decide +kernel
theorem dX7_init_71 : decode cX7_init 71 = .ok (.aload_n 0, 1) := by decide +kernel
theorem dX7_init_72 : decode cX7_init 72 = .ok (.getfield 24, 3) := by decide +kernel
theorem dX7_init_75 : decode cX7_init 75 = .ok (.putfield 36, 3) := by decide +kernel
theorem dX7_init_78 : decode cX7_init 78 = .ok (.aload_n 0, 1) := by decide +kernel
theorem dX7_init_79 : decode cX7_init 79 = .ok (.aload_n 1, 1) := by decide +kernel
theorem dX7_init_80 : decode cX7_init 80 = .ok (.putfield 39, 3) := by decide +kernel
theorem dX7_init_83 : decode cX7_init 83 = .ok (.aload_n 0, 1) := by decide +kernel
theorem dX7_init_84 : decode cX7_init 84 = .ok (.aload_n 2, 1) := by decide +kernel
theorem dX7_init_85 : decode cX7_init 85 = .ok (.putfield 43, 3) := by decide +kernel
theorem dX7_init_88 : decode cX7_init 88 = .ok (.aload_n 0, 1) := by decide +kernel
theorem dX7_init_89 : decode cX7_init 89 = .ok (.aload_n 3, 1) := by decide +kernel
theorem dX7_init_90 : decode cX7_init 90 = .ok (.putfield 47, 3) := by decide +kernel
theorem dX7_init_93 : decode cX7_init 93 = .ok (.return_, 1) := by decide +kernel
theorem dX7_findStops_0 : decode cX7_findStops 0 = .ok (.aload_n 0, 1) := by decide +kernel
theorem dX7_findStops_1 : decode cX7_findStops 1 = .ok (.getfield 43, 3) := by decide +kernel
theorem dX7_findStops_4 : decode cX7_findStops 4 = .ok (.invokevirtual 51, 3) := by decide +kernel
theorem dX7_findStops_7 : decode cX7_findStops 7 = .ok (.istore_n 1, 1) := by decide +kernel
theorem dX7_findStops_8 : decode cX7_findStops 8 = .ok (.aload_n 0, 1) := by decide +kernel
theorem dX7_findStops_9 : decode cX7_findStops 9 = .ok (.iconst 0, 1) := by decide +kernel
theorem dX7_findStops_10 : decode cX7_findStops 10 = .ok (.putfield 57, 3) := by decide +kernel
theorem dX7_findStops_13 : decode cX7_findStops 13 = .ok (.iconst 0, 1) := by decide +kernel
theorem dX7_findStops_14 : decode cX7_findStops 14 = .ok (.istore_n 2, 1) := by decide +kernel
theorem dX7_findStops_15 : decode cX7_findStops 15 = .ok (.iload_n 2, 1) := by decide +kernel
theorem dX7_findStops_16 : decode cX7_findStops 16 = .ok (.bipush 12, 2) := by decide +kernel
theorem dX7_findStops_18 : decode cX7_findStops 18 = .ok (.if_icmp .ge 46, 3) := by decide +kernel
theorem dX7_findStops_21 : decode cX7_findStops 21 = .ok (.aload_n 0, 1) := by decide +kernel
theorem dX7_findStops_22 : decode cX7_findStops 22 = .ok (.getfield 57, 3) := by decide +kernel
theorem dX7_findStops_25 : decode cX7_findStops 25 = .ok (.bipush 6, 2) := by decide +kernel
theorem dX7_findStops_27 : decode cX7_findStops 27 = .ok (.if_icmp .ge 37, 3) := by decide +kernel
theorem dX7_findStops_30 : decode cX7_findStops 30 = .ok (.iload_n 1, 1) := by decide +kernel
theorem dX7_findStops_31 : decode cX7_findStops 31 = .ok (.iload_n 2, 1) := by decide +kernel
theorem dX7_findStops_32 : decode cX7_findStops 32 = .ok (.ishr, 1) := by decide +kernel
theorem dX7_findStops_33 : decode cX7_findStops 33 = .ok (.iconst 1, 1) := by decide +kernel
theorem dX7_findStops_34 : decode cX7_findStops 34 = .ok (.iand, 1) := by decide +kernel
theorem dX7_findStops_35 : decode cX7_findStops 35 = .ok (.ifCond .eq 23, 3) := by decide +kernel
theorem dX7_findStops_38 : decode cX7_findStops 38 = .ok (.aload_n 0, 1) := by decide +kernel
theorem dX7_findStops_39 : decode cX7_findStops 39 = .ok (.getfield 9, 3) := by decide +kernel
theorem dX7_findStops_42 : decode cX7_findStops 42 = .ok (.aload_n 0, 1) := by decide +kernel
theorem dX7_findStops_43 : decode cX7_findStops 43 = .ok (.getfield 57, 3) := by decide +kernel
theorem dX7_findStops_46 : decode cX7_findStops 46 = .ok (.iload_n 2, 1) := by decide +kernel
theorem dX7_findStops_47 : decode cX7_findStops 47 = .ok (.iastore, 1) := by decide +kernel
theorem dX7_findStops_48 : decode cX7_findStops 48 = .ok (.aload_n 0, 1) := by decide +kernel
theorem dX7_findStops_49 : decode cX7_findStops 49 = .ok (.dup, 1) := by decide +kernel
theorem dX7_findStops_50 : decode cX7_findStops 50 = .ok (.getfield 57, 3) := by decide +kernel
theorem dX7_findStops_53 : decode cX7_findStops 53 = .ok (.iconst 1, 1) := by decide +kernel
theorem dX7_findStops_54 : decode cX7_findStops 54 = .ok (.iadd, 1) := by decide +kernel
theorem dX7_findStops_55 : decode cX7_findStops 55 = .ok (.putfield 57, 3) := by decide +kernel
theorem dX7_findStops_58 : decode cX7_findStops 58 = .ok (.iinc 2 1, 3) := by decide +kernel
theorem dX7_findStops_61 : decode cX7_findStops 61 = .ok (.goto (-46), 3) := by decide +kernel
theorem dX7_findStops_64 : decode cX7_findStops 64 = .ok (.aload_n 0, 1) := by decide +kernel
theorem dX7_findStops_65 : decode cX7_findStops 65 = .ok (.iconst (-1), 1) := by decide +kernel
theorem dX7_findStops_66 : decode cX7_findStops 66 = .ok (.iconst 0, 1) := by decide +kernel
theorem dX7_findStops_67 : decode cX7_findStops 67 = .ok (.aload_n 0, 1) := by decide +kernel
theorem dX7_findStops_68 : decode cX7_findStops 68 = .ok (.getfield 15, 3) := by decide +kernel
theorem dX7_findStops_71 : decode cX7_findStops 71 = .ok (.invokevirtual 61, 3) := by decide +kernel
theorem dX7_findStops_74 : decode cX7_findStops 74 = .ok (.aload_n 0, 1) := by decide +kernel
theorem dX7_findStops_75 : decode cX7_findStops 75 = .ok (.iconst (-1), 1) := by decide +kernel
theorem dX7_findStops_76 : decode cX7_findStops 76 = .ok (.iconst 1, 1) := by decide +kernel
theorem dX7_findStops_77 : decode cX7_findStops 77 = .ok (.aload_n 0, 1) := by decide +kernel
theorem dX7_findStops_78 : decode cX7_findStops 78 = .ok (.getfield 18, 3) := by decide +kernel
theorem dX7_findStops_81 : decode cX7_findStops 81 = .ok (.invokevirtual 61, 3) := by decide +kernel
theorem dX7_findStops_84 : decode cX7_findStops 84 = .ok (.return_, 1) := by decide +kernel
theorem dX7_findLast_0 : decode cX7_findLast 0 = .ok (.aload_n 0, 1) := by decide +kernel
theorem dX7_findLast_1 : decode cX7_findLast 1 = .ok (.getfield 47, 3) := by decide +kernel
theorem dX7_findLast_4 : decode cX7_findLast 4 = .ok (.iload_n 1, 1) := by decide +kernel
theorem dX7_findLast_5 : decode cX7_findLast 5 = .ok (.iload_n 2, 1) := by decide +kernel
theorem dX7_findLast_6 : decode cX7_findLast 6 = .ok (.invokevirtual 65, 3) := by decide +kernel
theorem dX7_findLast_9 : decode cX7_findLast 9 = .ok (.aload_n 0, 1) := by decide +kernel
theorem dX7_findLast_10 : decode cX7_findLast 10 = .ok (.getfield 47, 3) := by decide +kernel
theorem dX7_findLast_13 : decode cX7_findLast 13 = .ok (.aload_n 0, 1) := by decide +kernel
theorem dX7_findLast_14 : decode cX7_findLast 14 = .ok (.getfield 39, 3) := by decide +kernel
theorem dX7_findLast_17 : decode cX7_findLast 17 = .ok (.getfield 71, 3) := by decide +kernel
theorem dX7_findLast_20 : decode cX7_findLast 20 = .ok (.bipush 99, 2) := by decide +kernel
theorem dX7_findLast_22 : decode cX7_findLast 22 = .ok (.invokevirtual 76, 3) := by decide +kernel
theorem dX7_findLast_25 : decode cX7_findLast 25 = .ok (.aload_n 0, 1) := by decide +kernel
theorem dX7_findLast_26 : decode cX7_findLast 26 = .ok (.getfield 47, 3) := by decide +kernel
theorem dX7_findLast_29 : decode cX7_findLast 29 = .ok (.getfield 80, 3) := by decide +kernel
theorem dX7_findLast_32 : decode cX7_findLast 32 = .ok (.iconst 0, 1) := by decide +kernel
theorem dX7_findLast_33 : decode cX7_findLast 33 = .ok (.aload_n 3, 1) := by decide +kernel
theorem dX7_findLast_34 : decode cX7_findLast 34 = .ok (.iconst 0, 1) := by decide +kernel
theorem dX7_findLast_35 : decode cX7_findLast 35 = .ok (.bipush 12, 2) := by decide +kernel
theorem dX7_findLast_37 : decode cX7_findLast 37 = .ok (.invokestatic 83, 3) := by decide +kernel
theorem dX7_findLast_40 : decode cX7_findLast 40 = .ok (.return_, 1) := by decide +kernel
theorem dX7_allStops_0 : decode cX7_allStops 0 = .ok (.iconst 1, 1) := by decide +kernel
theorem dX7_allStops_1 : decode cX7_allStops 1 = .ok (.aload_n 0, 1) := by decide +kernel
theorem dX7_allStops_2 : decode cX7_allStops 2 = .ok (.getfield 57, 3) := by decide +kernel
theorem dX7_allStops_5 : decode cX7_allStops 5 = .ok (.ishl, 1) := by decide +kernel
theorem dX7_allStops_6 : decode cX7_allStops 6 = .ok (.iconst 1, 1) := by decide +kernel
theorem dX7_allStops_7 : decode cX7_allStops 7 = .ok (.isub, 1) := by decide +kernel
theorem dX7_allStops_8 : decode cX7_allStops 8 = .ok (.ireturn, 1) := by decide +kernel
theorem dX7_stopsOf_0 : decode cX7_stopsOf 0 = .ok (.iconst 0, 1) := by decide +kernel
theorem dX7_stopsOf_1 : decode cX7_stopsOf 1 = .ok (.istore_n 2, 1) := by decide +kernel
theorem dX7_stopsOf_2 : decode cX7_stopsOf 2 = .ok (.iconst 0, 1) := by decide +kernel
theorem dX7_stopsOf_3 : decode cX7_stopsOf 3 = .ok (.istore_n 3, 1) := by decide +kernel
theorem dX7_stopsOf_4 : decode cX7_stopsOf 4 = .ok (.iload_n 3, 1) := by decide +kernel
theorem dX7_stopsOf_5 : decode cX7_stopsOf 5 = .ok (.aload_n 0, 1) := by decide +kernel
theorem dX7_stopsOf_6 : decode cX7_stopsOf 6 = .ok (.getfield 57, 3) := by decide +kernel
theorem dX7_stopsOf_9 : decode cX7_stopsOf 9 = .ok (.if_icmp .ge 24, 3) := by decide +kernel
theorem dX7_stopsOf_12 : decode cX7_stopsOf 12 = .ok (.iload_n 2, 1) := by decide +kernel
theorem dX7_stopsOf_13 : decode cX7_stopsOf 13 = .ok (.iload_n 1, 1) := by decide +kernel
theorem dX7_stopsOf_14 : decode cX7_stopsOf 14 = .ok (.aload_n 0, 1) := by decide +kernel
theorem dX7_stopsOf_15 : decode cX7_stopsOf 15 = .ok (.getfield 9, 3) := by decide +kernel
theorem dX7_stopsOf_18 : decode cX7_stopsOf 18 = .ok (.iload_n 3, 1) := by decide +kernel
theorem dX7_stopsOf_19 : decode cX7_stopsOf 19 = .ok (.iaload, 1) := by decide +kernel
theorem dX7_stopsOf_20 : decode cX7_stopsOf 20 = .ok (.ishr, 1) := by decide +kernel
theorem dX7_stopsOf_21 : decode cX7_stopsOf 21 = .ok (.iconst 1, 1) := by decide +kernel
theorem dX7_stopsOf_22 : decode cX7_stopsOf 22 = .ok (.iand, 1) := by decide +kernel
theorem dX7_stopsOf_23 : decode cX7_stopsOf 23 = .ok (.iload_n 3, 1) := by decide +kernel
theorem dX7_stopsOf_24 : decode cX7_stopsOf 24 = .ok (.ishl, 1) := by decide +kernel
theorem dX7_stopsOf_25 : decode cX7_stopsOf 25 = .ok (.ior, 1) := by decide +kernel
theorem dX7_stopsOf_26 : decode cX7_stopsOf 26 = .ok (.istore_n 2, 1) := by decide +kernel
theorem dX7_stopsOf_27 : decode cX7_stopsOf 27 = .ok (.iinc 3 1, 3) := by decide +kernel
theorem dX7_stopsOf_30 : decode cX7_stopsOf 30 = .ok (.goto (-26), 3) := by decide +kernel
theorem dX7_stopsOf_33 : decode cX7_stopsOf 33 = .ok (.iload_n 2, 1) := by decide +kernel
theorem dX7_stopsOf_34 : decode cX7_stopsOf 34 = .ok (.ireturn, 1) := by decide +kernel
theorem dX7_placesOf_0 : decode cX7_placesOf 0 = .ok (.iconst 0, 1) := by decide +kernel
theorem dX7_placesOf_1 : decode cX7_placesOf 1 = .ok (.istore_n 2, 1) := by decide +kernel
theorem dX7_placesOf_2 : decode cX7_placesOf 2 = .ok (.iconst 0, 1) := by decide +kernel
theorem dX7_placesOf_3 : decode cX7_placesOf 3 = .ok (.istore_n 3, 1) := by decide +kernel
theorem dX7_placesOf_4 : decode cX7_placesOf 4 = .ok (.iload_n 3, 1) := by decide +kernel
theorem dX7_placesOf_5 : decode cX7_placesOf 5 = .ok (.aload_n 0, 1) := by decide +kernel
theorem dX7_placesOf_6 : decode cX7_placesOf 6 = .ok (.getfield 57, 3) := by decide +kernel
theorem dX7_placesOf_9 : decode cX7_placesOf 9 = .ok (.if_icmp .ge 24, 3) := by decide +kernel
theorem dX7_placesOf_12 : decode cX7_placesOf 12 = .ok (.iload_n 2, 1) := by decide +kernel
theorem dX7_placesOf_13 : decode cX7_placesOf 13 = .ok (.iload_n 1, 1) := by decide +kernel
theorem dX7_placesOf_14 : decode cX7_placesOf 14 = .ok (.iload_n 3, 1) := by decide +kernel
theorem dX7_placesOf_15 : decode cX7_placesOf 15 = .ok (.ishr, 1) := by decide +kernel
theorem dX7_placesOf_16 : decode cX7_placesOf 16 = .ok (.iconst 1, 1) := by decide +kernel
theorem dX7_placesOf_17 : decode cX7_placesOf 17 = .ok (.iand, 1) := by decide +kernel
theorem dX7_placesOf_18 : decode cX7_placesOf 18 = .ok (.aload_n 0, 1) := by decide +kernel
theorem dX7_placesOf_19 : decode cX7_placesOf 19 = .ok (.getfield 9, 3) := by decide +kernel
theorem dX7_placesOf_22 : decode cX7_placesOf 22 = .ok (.iload_n 3, 1) := by decide +kernel
theorem dX7_placesOf_23 : decode cX7_placesOf 23 = .ok (.iaload, 1) := by decide +kernel
theorem dX7_placesOf_24 : decode cX7_placesOf 24 = .ok (.ishl, 1) := by decide +kernel
theorem dX7_placesOf_25 : decode cX7_placesOf 25 = .ok (.ior, 1) := by decide +kernel
theorem dX7_placesOf_26 : decode cX7_placesOf 26 = .ok (.istore_n 2, 1) := by decide +kernel
theorem dX7_placesOf_27 : decode cX7_placesOf 27 = .ok (.iinc 3 1, 3) := by decide +kernel
theorem dX7_placesOf_30 : decode cX7_placesOf 30 = .ok (.goto (-26), 3) := by decide +kernel
theorem dX7_placesOf_33 : decode cX7_placesOf 33 = .ok (.iload_n 2, 1) := by decide +kernel
theorem dX7_placesOf_34 : decode cX7_placesOf 34 = .ok (.ireturn, 1) := by decide +kernel
theorem dX7_weigh_0 : decode cX7_weigh 0 = .ok (.aload_n 0, 1) := by decide +kernel
theorem dX7_weigh_1 : decode cX7_weigh 1 = .ok (.aload_n 1, 1) := by decide +kernel
theorem dX7_weigh_2 : decode cX7_weigh 2 = .ok (.putfield 36, 3) := by decide +kernel
theorem dX7_weigh_5 : decode cX7_weigh 5 = .ok (.aload_n 0, 1) := by decide +kernel
theorem dX7_weigh_6 : decode cX7_weigh 6 = .ok (.iload 5, 2) := by decide +kernel
theorem dX7_weigh_8 : decode cX7_weigh 8 = .ok (.putfield 89, 3) := by decide +kernel
theorem dX7_weigh_11 : decode cX7_weigh 11 = .ok (.aload_n 0, 1) := by decide +kernel
theorem dX7_weigh_12 : decode cX7_weigh 12 = .ok (.dup, 1) := by decide +kernel
theorem dX7_weigh_13 : decode cX7_weigh 13 = .ok (.getfield 92, 3) := by decide +kernel
theorem dX7_weigh_16 : decode cX7_weigh 16 = .ok (.iconst 1, 1) := by decide +kernel
theorem dX7_weigh_17 : decode cX7_weigh 17 = .ok (.iadd, 1) := by decide +kernel
theorem dX7_weigh_18 : decode cX7_weigh 18 = .ok (.putfield 92, 3) := by decide +kernel
theorem dX7_weigh_21 : decode cX7_weigh 21 = .ok (.aload_n 0, 1) := by decide +kernel
theorem dX7_weigh_22 : decode cX7_weigh 22 = .ok (.getfield 36, 3) := by decide +kernel
theorem dX7_weigh_25 : decode cX7_weigh 25 = .ok (.iconst (-1), 1) := by decide +kernel
theorem dX7_weigh_26 : decode cX7_weigh 26 = .ok (.invokestatic 95, 3) := by decide +kernel
theorem dX7_weigh_29 : decode cX7_weigh 29 = .ok (.aload_n 0, 1) := by decide +kernel
theorem dX7_weigh_30 : decode cX7_weigh 30 = .ok (.iload_n 3, 1) := by decide +kernel
theorem dX7_weigh_31 : decode cX7_weigh 31 = .ok (.aload_n 0, 1) := by decide +kernel
theorem dX7_weigh_32 : decode cX7_weigh 32 = .ok (.getfield 43, 3) := by decide +kernel
theorem dX7_weigh_35 : decode cX7_weigh 35 = .ok (.getfield 101, 3) := by decide +kernel
theorem dX7_weigh_38 : decode cX7_weigh 38 = .ok (.iload_n 2, 1) := by decide +kernel
theorem dX7_weigh_39 : decode cX7_weigh 39 = .ok (.baload, 1) := by decide +kernel
theorem dX7_weigh_40 : decode cX7_weigh 40 = .ok (.aload_n 0, 1) := by decide +kernel
theorem dX7_weigh_41 : decode cX7_weigh 41 = .ok (.getfield 21, 3) := by decide +kernel
theorem dX7_weigh_44 : decode cX7_weigh 44 = .ok (.invokevirtual 61, 3) := by decide +kernel
theorem dX7_weigh_47 : decode cX7_weigh 47 = .ok (.aload_n 0, 1) := by decide +kernel
theorem dX7_weigh_48 : decode cX7_weigh 48 = .ok (.getfield 9, 3) := by decide +kernel
theorem dX7_weigh_51 : decode cX7_weigh 51 = .ok (.aload_n 0, 1) := by decide +kernel
theorem dX7_weigh_52 : decode cX7_weigh 52 = .ok (.getfield 57, 3) := by decide +kernel
theorem dX7_weigh_55 : decode cX7_weigh 55 = .ok (.aload_n 0, 1) := by decide +kernel
theorem dX7_weigh_56 : decode cX7_weigh 56 = .ok (.getfield 43, 3) := by decide +kernel
theorem dX7_weigh_59 : decode cX7_weigh 59 = .ok (.getfield 105, 3) := by decide +kernel
theorem dX7_weigh_62 : decode cX7_weigh 62 = .ok (.iload_n 2, 1) := by decide +kernel
theorem dX7_weigh_63 : decode cX7_weigh 63 = .ok (.iaload, 1) := by decide +kernel
theorem dX7_weigh_64 : decode cX7_weigh 64 = .ok (.iastore, 1) := by decide +kernel
theorem dX7_weigh_65 : decode cX7_weigh 65 = .ok (.iload 4, 2) := by decide +kernel
theorem dX7_weigh_67 : decode cX7_weigh 67 = .ok (.aload_n 0, 1) := by decide +kernel
theorem dX7_weigh_68 : decode cX7_weigh 68 = .ok (.getfield 21, 3) := by decide +kernel
theorem dX7_weigh_71 : decode cX7_weigh 71 = .ok (.aload_n 0, 1) := by decide +kernel
theorem dX7_weigh_72 : decode cX7_weigh 72 = .ok (.getfield 43, 3) := by decide +kernel
theorem dX7_weigh_75 : decode cX7_weigh 75 = .ok (.getfield 105, 3) := by decide +kernel
theorem dX7_weigh_78 : decode cX7_weigh 78 = .ok (.iload_n 2, 1) := by decide +kernel
theorem dX7_weigh_79 : decode cX7_weigh 79 = .ok (.iaload, 1) := by decide +kernel
theorem dX7_weigh_80 : decode cX7_weigh 80 = .ok (.iaload, 1) := by decide +kernel
theorem dX7_weigh_81 : decode cX7_weigh 81 = .ok (.if_icmp .gt 16, 3) := by decide +kernel
theorem dX7_weigh_84 : decode cX7_weigh 84 = .ok (.aload_n 0, 1) := by decide +kernel
theorem dX7_weigh_85 : decode cX7_weigh 85 = .ok (.aload_n 0, 1) := by decide +kernel
theorem dX7_weigh_86 : decode cX7_weigh 86 = .ok (.getfield 57, 3) := by decide +kernel
theorem dX7_weigh_89 : decode cX7_weigh 89 = .ok (.iload 4, 2) := by decide +kernel
theorem dX7_weigh_91 : decode cX7_weigh 91 = .ok (.iconst 0, 1) := by decide +kernel
theorem dX7_weigh_92 : decode cX7_weigh 92 = .ok (.iconst 0, 1) := by decide +kernel
theorem dX7_weigh_93 : decode cX7_weigh 93 = .ok (.iconst 0, 1) := by decide +kernel
theorem dX7_weigh_94 : decode cX7_weigh 94 = .ok (.invokestatic 108, 3) := by decide +kernel
theorem dX7_weigh_97 : decode cX7_weigh 97 = .ok (.return_, 1) := by decide +kernel
theorem dX7_goOnFrom_0 : decode cX7_goOnFrom 0 = .ok (.aload_n 0, 1) := by decide +kernel
theorem dX7_goOnFrom_1 : decode cX7_goOnFrom 1 = .ok (.getfield 36, 3) := by decide +kernel
theorem dX7_goOnFrom_4 : decode cX7_goOnFrom 4 = .ok (.iload_n 3, 1) := by decide +kernel
theorem dX7_goOnFrom_5 : decode cX7_goOnFrom 5 = .ok (.aload_n 0, 1) := by decide +kernel
theorem dX7_goOnFrom_6 : decode cX7_goOnFrom 6 = .ok (.getfield 36, 3) := by decide +kernel
theorem dX7_goOnFrom_9 : decode cX7_goOnFrom 9 = .ok (.iload_n 3, 1) := by decide +kernel
theorem dX7_goOnFrom_10 : decode cX7_goOnFrom 10 = .ok (.iaload, 1) := by decide +kernel
theorem dX7_goOnFrom_11 : decode cX7_goOnFrom 11 = .ok (.iload 4, 2) := by decide +kernel
theorem dX7_goOnFrom_13 : decode cX7_goOnFrom 13 = .ok (.invokestatic 112, 3) := by decide +kernel
theorem dX7_goOnFrom_16 : decode cX7_goOnFrom 16 = .ok (.iastore, 1) := by decide +kernel
theorem dX7_goOnFrom_17 : decode cX7_goOnFrom 17 = .ok (.iload_n 3, 1) := by decide +kernel
theorem dX7_goOnFrom_18 : decode cX7_goOnFrom 18 = .ok (.aload_n 0, 1) := by decide +kernel
theorem dX7_goOnFrom_19 : decode cX7_goOnFrom 19 = .ok (.getfield 89, 3) := by decide +kernel
theorem dX7_goOnFrom_22 : decode cX7_goOnFrom 22 = .ok (.if_icmp .eq 12, 3) := by decide +kernel
theorem dX7_goOnFrom_25 : decode cX7_goOnFrom 25 = .ok (.iload 5, 2) := by decide +kernel
theorem dX7_goOnFrom_27 : decode cX7_goOnFrom 27 = .ok (.aload_n 0, 1) := by decide +kernel
theorem dX7_goOnFrom_28 : decode cX7_goOnFrom 28 = .ok (.getfield 57, 3) := by decide +kernel
theorem dX7_goOnFrom_31 : decode cX7_goOnFrom 31 = .ok (.if_icmp .lt 4, 3) := by decide +kernel
theorem dX7_goOnFrom_34 : decode cX7_goOnFrom 34 = .ok (.return_, 1) := by decide +kernel
theorem dX7_goOnFrom_35 : decode cX7_goOnFrom 35 = .ok (.aload_n 0, 1) := by decide +kernel
theorem dX7_goOnFrom_36 : decode cX7_goOnFrom 36 = .ok (.iload_n 1, 1) := by decide +kernel
theorem dX7_goOnFrom_37 : decode cX7_goOnFrom 37 = .ok (.iload_n 2, 1) := by decide +kernel
theorem dX7_goOnFrom_38 : decode cX7_goOnFrom 38 = .ok (.invokevirtual 118, 3) := by decide +kernel
theorem dX7_goOnFrom_41 : decode cX7_goOnFrom 41 = .ok (.istore 6, 2) := by decide +kernel
theorem dX7_goOnFrom_43 : decode cX7_goOnFrom 43 = .ok (.iconst 0, 1) := by decide +kernel
theorem dX7_goOnFrom_44 : decode cX7_goOnFrom 44 = .ok (.istore 7, 2) := by decide +kernel
theorem dX7_goOnFrom_46 : decode cX7_goOnFrom 46 = .ok (.iload 7, 2) := by decide +kernel
theorem dX7_goOnFrom_48 : decode cX7_goOnFrom 48 = .ok (.aload_n 0, 1) := by decide +kernel
theorem dX7_goOnFrom_49 : decode cX7_goOnFrom 49 = .ok (.getfield 57, 3) := by decide +kernel
theorem dX7_goOnFrom_52 : decode cX7_goOnFrom 52 = .ok (.if_icmp .ge 103, 3) := by decide +kernel
theorem dX7_goOnFrom_55 : decode cX7_goOnFrom 55 = .ok (.iload_n 3, 1) := by decide +kernel
theorem dX7_goOnFrom_56 : decode cX7_goOnFrom 56 = .ok (.iconst 1, 1) := by decide +kernel
theorem dX7_goOnFrom_57 : decode cX7_goOnFrom 57 = .ok (.iload 7, 2) := by decide +kernel
theorem dX7_goOnFrom_59 : decode cX7_goOnFrom 59 = .ok (.ishl, 1) := by decide +kernel
theorem dX7_goOnFrom_60 : decode cX7_goOnFrom 60 = .ok (.ior, 1) := by decide +kernel
theorem dX7_goOnFrom_61 : decode cX7_goOnFrom 61 = .ok (.istore 8, 2) := by decide +kernel
theorem dX7_goOnFrom_63 : decode cX7_goOnFrom 63 = .ok (.aload_n 0, 1) := by decide +kernel
theorem dX7_goOnFrom_64 : decode cX7_goOnFrom 64 = .ok (.getfield 30, 3) := by decide +kernel
theorem dX7_goOnFrom_67 : decode cX7_goOnFrom 67 = .ok (.iload 6, 2) := by decide +kernel
theorem dX7_goOnFrom_69 : decode cX7_goOnFrom 69 = .ok (.iload 7, 2) := by decide +kernel
theorem dX7_goOnFrom_71 : decode cX7_goOnFrom 71 = .ok (.iadd, 1) := by decide +kernel
theorem dX7_goOnFrom_72 : decode cX7_goOnFrom 72 = .ok (.iaload, 1) := by decide +kernel
theorem dX7_goOnFrom_73 : decode cX7_goOnFrom 73 = .ok (.istore 9, 2) := by decide +kernel
theorem dX7_goOnFrom_75 : decode cX7_goOnFrom 75 = .ok (.iload 8, 2) := by decide +kernel
theorem dX7_goOnFrom_77 : decode cX7_goOnFrom 77 = .ok (.iload_n 3, 1) := by decide +kernel
theorem dX7_goOnFrom_78 : decode cX7_goOnFrom 78 = .ok (.if_icmp .eq 71, 3) := by decide +kernel
theorem dX7_goOnFrom_81 : decode cX7_goOnFrom 81 = .ok (.iload 8, 2) := by decide +kernel
theorem dX7_goOnFrom_83 : decode cX7_goOnFrom 83 = .ok (.aload_n 0, 1) := by decide +kernel
theorem dX7_goOnFrom_84 : decode cX7_goOnFrom 84 = .ok (.getfield 89, 3) := by decide +kernel
theorem dX7_goOnFrom_87 : decode cX7_goOnFrom 87 = .ok (.iconst (-1), 1) := by decide +kernel
theorem dX7_goOnFrom_88 : decode cX7_goOnFrom 88 = .ok (.ixor, 1) := by decide +kernel
theorem dX7_goOnFrom_89 : decode cX7_goOnFrom 89 = .ok (.iand, 1) := by decide +kernel
theorem dX7_goOnFrom_90 : decode cX7_goOnFrom 90 = .ok (.ifCond .ne 59, 3) := by decide +kernel
theorem dX7_goOnFrom_93 : decode cX7_goOnFrom 93 = .ok (.iload 9, 2) := by decide +kernel
theorem dX7_goOnFrom_95 : decode cX7_goOnFrom 95 = .ok (.iconst (-1), 1) := by decide +kernel
theorem dX7_goOnFrom_96 : decode cX7_goOnFrom 96 = .ok (.if_icmp .ne 6, 3) := by decide +kernel
theorem dX7_goOnFrom_99 : decode cX7_goOnFrom 99 = .ok (.goto 50, 3) := by decide +kernel
theorem dX7_goOnFrom_102 : decode cX7_goOnFrom 102 = .ok (.iload 9, 2) := by decide +kernel
theorem dX7_goOnFrom_104 : decode cX7_goOnFrom 104 = .ok (.aload_n 0, 1) := by decide +kernel
theorem dX7_goOnFrom_105 : decode cX7_goOnFrom 105 = .ok (.getfield 21, 3) := by decide +kernel
theorem dX7_goOnFrom_108 : decode cX7_goOnFrom 108 = .ok (.aload_n 0, 1) := by decide +kernel
theorem dX7_goOnFrom_109 : decode cX7_goOnFrom 109 = .ok (.getfield 9, 3) := by decide +kernel
theorem dX7_goOnFrom_112 : decode cX7_goOnFrom 112 = .ok (.iload 7, 2) := by decide +kernel
theorem dX7_goOnFrom_114 : decode cX7_goOnFrom 114 = .ok (.iaload, 1) := by decide +kernel
theorem dX7_goOnFrom_115 : decode cX7_goOnFrom 115 = .ok (.iaload, 1) := by decide +kernel
theorem dX7_goOnFrom_116 : decode cX7_goOnFrom 116 = .ok (.if_icmp .gt 33, 3) := by decide +kernel
theorem dX7_goOnFrom_119 : decode cX7_goOnFrom 119 = .ok (.aload_n 0, 1) := by decide +kernel
theorem dX7_goOnFrom_120 : decode cX7_goOnFrom 120 = .ok (.iload 7, 2) := by decide +kernel
theorem dX7_goOnFrom_122 : decode cX7_goOnFrom 122 = .ok (.iload 9, 2) := by decide +kernel
theorem dX7_goOnFrom_124 : decode cX7_goOnFrom 124 = .ok (.iload 8, 2) := by decide +kernel
theorem dX7_goOnFrom_126 : decode cX7_goOnFrom 126 = .ok (.iload 4, 2) := by decide +kernel
theorem dX7_goOnFrom_128 : decode cX7_goOnFrom 128 = .ok (.aload_n 0, 1) := by decide +kernel
theorem dX7_goOnFrom_129 : decode cX7_goOnFrom 129 = .ok (.aload_n 0, 1) := by decide +kernel
theorem dX7_goOnFrom_130 : decode cX7_goOnFrom 130 = .ok (.getfield 9, 3) := by decide +kernel
theorem dX7_goOnFrom_133 : decode cX7_goOnFrom 133 = .ok (.iload 7, 2) := by decide +kernel
theorem dX7_goOnFrom_135 : decode cX7_goOnFrom 135 = .ok (.iaload, 1) := by decide +kernel
theorem dX7_goOnFrom_136 : decode cX7_goOnFrom 136 = .ok (.iload 9, 2) := by decide +kernel
theorem dX7_goOnFrom_138 : decode cX7_goOnFrom 138 = .ok (.invokevirtual 121, 3) := by decide +kernel
theorem dX7_goOnFrom_141 : decode cX7_goOnFrom 141 = .ok (.iadd, 1) := by decide +kernel
theorem dX7_goOnFrom_142 : decode cX7_goOnFrom 142 = .ok (.iload 5, 2) := by decide +kernel
theorem dX7_goOnFrom_144 : decode cX7_goOnFrom 144 = .ok (.iconst 1, 1) := by decide +kernel
theorem dX7_goOnFrom_145 : decode cX7_goOnFrom 145 = .ok (.iadd, 1) := by decide +kernel
theorem dX7_goOnFrom_146 : decode cX7_goOnFrom 146 = .ok (.invokestatic 108, 3) := by decide +kernel
theorem dX7_goOnFrom_149 : decode cX7_goOnFrom 149 = .ok (.iinc 7 1, 3) := by decide +kernel
theorem dX7_goOnFrom_152 : decode cX7_goOnFrom 152 = .ok (.goto (-106), 3) := by decide +kernel
theorem dX7_goOnFrom_155 : decode cX7_goOnFrom 155 = .ok (.return_, 1) := by decide +kernel
theorem dX7_soonestRow_0 : decode cX7_soonestRow 0 = .ok (.iload_n 1, 1) := by decide +kernel
theorem dX7_soonestRow_1 : decode cX7_soonestRow 1 = .ok (.bipush 100, 2) := by decide +kernel
theorem dX7_soonestRow_3 : decode cX7_soonestRow 3 = .ok (.imul, 1) := by decide +kernel
theorem dX7_soonestRow_4 : decode cX7_soonestRow 4 = .ok (.iload_n 2, 1) := by decide +kernel
theorem dX7_soonestRow_5 : decode cX7_soonestRow 5 = .ok (.iadd, 1) := by decide +kernel
theorem dX7_soonestRow_6 : decode cX7_soonestRow 6 = .ok (.istore_n 3, 1) := by decide +kernel
theorem dX7_soonestRow_7 : decode cX7_soonestRow 7 = .ok (.aload_n 0, 1) := by decide +kernel
theorem dX7_soonestRow_8 : decode cX7_soonestRow 8 = .ok (.getfield 33, 3) := by decide +kernel
theorem dX7_soonestRow_11 : decode cX7_soonestRow 11 = .ok (.iload_n 3, 1) := by decide +kernel
theorem dX7_soonestRow_12 : decode cX7_soonestRow 12 = .ok (.iaload, 1) := by decide +kernel
theorem dX7_soonestRow_13 : decode cX7_soonestRow 13 = .ok (.aload_n 0, 1) := by decide +kernel
theorem dX7_soonestRow_14 : decode cX7_soonestRow 14 = .ok (.getfield 92, 3) := by decide +kernel
theorem dX7_soonestRow_17 : decode cX7_soonestRow 17 = .ok (.if_icmp .eq 72, 3) := by decide +kernel
theorem dX7_soonestRow_20 : decode cX7_soonestRow 20 = .ok (.aload_n 0, 1) := by decide +kernel
theorem dX7_soonestRow_21 : decode cX7_soonestRow 21 = .ok (.getfield 33, 3) := by decide +kernel
theorem dX7_soonestRow_24 : decode cX7_soonestRow 24 = .ok (.iload_n 3, 1) := by decide +kernel
theorem dX7_soonestRow_25 : decode cX7_soonestRow 25 = .ok (.aload_n 0, 1) := by decide +kernel
theorem dX7_soonestRow_26 : decode cX7_soonestRow 26 = .ok (.getfield 92, 3) := by decide +kernel
theorem dX7_soonestRow_29 : decode cX7_soonestRow 29 = .ok (.iastore, 1) := by decide +kernel
theorem dX7_soonestRow_30 : decode cX7_soonestRow 30 = .ok (.aload_n 0, 1) := by decide +kernel
theorem dX7_soonestRow_31 : decode cX7_soonestRow 31 = .ok (.getfield 47, 3) := by decide +kernel
theorem dX7_soonestRow_34 : decode cX7_soonestRow 34 = .ok (.aload_n 0, 1) := by decide +kernel
theorem dX7_soonestRow_35 : decode cX7_soonestRow 35 = .ok (.getfield 9, 3) := by decide +kernel
theorem dX7_soonestRow_38 : decode cX7_soonestRow 38 = .ok (.iload_n 1, 1) := by decide +kernel
theorem dX7_soonestRow_39 : decode cX7_soonestRow 39 = .ok (.iaload, 1) := by decide +kernel
theorem dX7_soonestRow_40 : decode cX7_soonestRow 40 = .ok (.iload_n 2, 1) := by decide +kernel
theorem dX7_soonestRow_41 : decode cX7_soonestRow 41 = .ok (.invokevirtual 124, 3) := by decide +kernel
theorem dX7_soonestRow_44 : decode cX7_soonestRow 44 = .ok (.iconst 0, 1) := by decide +kernel
theorem dX7_soonestRow_45 : decode cX7_soonestRow 45 = .ok (.istore 4, 2) := by decide +kernel
theorem dX7_soonestRow_47 : decode cX7_soonestRow 47 = .ok (.iload 4, 2) := by decide +kernel
theorem dX7_soonestRow_49 : decode cX7_soonestRow 49 = .ok (.aload_n 0, 1) := by decide +kernel
theorem dX7_soonestRow_50 : decode cX7_soonestRow 50 = .ok (.getfield 57, 3) := by decide +kernel
theorem dX7_soonestRow_53 : decode cX7_soonestRow 53 = .ok (.if_icmp .ge 36, 3) := by decide +kernel
theorem dX7_soonestRow_56 : decode cX7_soonestRow 56 = .ok (.aload_n 0, 1) := by decide +kernel
theorem dX7_soonestRow_57 : decode cX7_soonestRow 57 = .ok (.getfield 30, 3) := by decide +kernel
theorem dX7_soonestRow_60 : decode cX7_soonestRow 60 = .ok (.iload_n 3, 1) := by decide +kernel
theorem dX7_soonestRow_61 : decode cX7_soonestRow 61 = .ok (.bipush 6, 2) := by decide +kernel
theorem dX7_soonestRow_63 : decode cX7_soonestRow 63 = .ok (.imul, 1) := by decide +kernel
theorem dX7_soonestRow_64 : decode cX7_soonestRow 64 = .ok (.iload 4, 2) := by decide +kernel
theorem dX7_soonestRow_66 : decode cX7_soonestRow 66 = .ok (.iadd, 1) := by decide +kernel
theorem dX7_soonestRow_67 : decode cX7_soonestRow 67 = .ok (.aload_n 0, 1) := by decide +kernel
theorem dX7_soonestRow_68 : decode cX7_soonestRow 68 = .ok (.getfield 47, 3) := by decide +kernel
theorem dX7_soonestRow_71 : decode cX7_soonestRow 71 = .ok (.getfield 127, 3) := by decide +kernel
theorem dX7_soonestRow_74 : decode cX7_soonestRow 74 = .ok (.aload_n 0, 1) := by decide +kernel
theorem dX7_soonestRow_75 : decode cX7_soonestRow 75 = .ok (.getfield 9, 3) := by decide +kernel
theorem dX7_soonestRow_78 : decode cX7_soonestRow 78 = .ok (.iload 4, 2) := by decide +kernel
theorem dX7_soonestRow_80 : decode cX7_soonestRow 80 = .ok (.iaload, 1) := by decide +kernel
theorem dX7_soonestRow_81 : decode cX7_soonestRow 81 = .ok (.iaload, 1) := by decide +kernel
theorem dX7_soonestRow_82 : decode cX7_soonestRow 82 = .ok (.iastore, 1) := by decide +kernel
theorem dX7_soonestRow_83 : decode cX7_soonestRow 83 = .ok (.iinc 4 1, 3) := by decide +kernel
theorem dX7_soonestRow_86 : decode cX7_soonestRow 86 = .ok (.goto (-39), 3) := by decide +kernel
theorem dX7_soonestRow_89 : decode cX7_soonestRow 89 = .ok (.iload_n 3, 1) := by decide +kernel
theorem dX7_soonestRow_90 : decode cX7_soonestRow 90 = .ok (.bipush 6, 2) := by decide +kernel
theorem dX7_soonestRow_92 : decode cX7_soonestRow 92 = .ok (.imul, 1) := by decide +kernel
theorem dX7_soonestRow_93 : decode cX7_soonestRow 93 = .ok (.ireturn, 1) := by decide +kernel
theorem dX7_upWhenTold_0 : decode cX7_upWhenTold 0 = .ok (.iconst 0, 1) := by decide +kernel
theorem dX7_upWhenTold_1 : decode cX7_upWhenTold 1 = .ok (.istore_n 3, 1) := by decide +kernel
theorem dX7_upWhenTold_2 : decode cX7_upWhenTold 2 = .ok (.iconst 0, 1) := by decide +kernel
theorem dX7_upWhenTold_3 : decode cX7_upWhenTold 3 = .ok (.istore 4, 2) := by decide +kernel
theorem dX7_upWhenTold_5 : decode cX7_upWhenTold 5 = .ok (.iload 4, 2) := by decide +kernel
theorem dX7_upWhenTold_7 : decode cX7_upWhenTold 7 = .ok (.aload_n 0, 1) := by decide +kernel
theorem dX7_upWhenTold_8 : decode cX7_upWhenTold 8 = .ok (.getfield 43, 3) := by decide +kernel
theorem dX7_upWhenTold_11 : decode cX7_upWhenTold 11 = .ok (.getfield 130, 3) := by decide +kernel
theorem dX7_upWhenTold_14 : decode cX7_upWhenTold 14 = .ok (.if_icmp .ge 79, 3) := by decide +kernel
theorem dX7_upWhenTold_17 : decode cX7_upWhenTold 17 = .ok (.aload_n 0, 1) := by decide +kernel
theorem dX7_upWhenTold_18 : decode cX7_upWhenTold 18 = .ok (.getfield 43, 3) := by decide +kernel
theorem dX7_upWhenTold_21 : decode cX7_upWhenTold 21 = .ok (.getfield 105, 3) := by decide +kernel
theorem dX7_upWhenTold_24 : decode cX7_upWhenTold 24 = .ok (.iload 4, 2) := by decide +kernel
theorem dX7_upWhenTold_26 : decode cX7_upWhenTold 26 = .ok (.iaload, 1) := by decide +kernel
theorem dX7_upWhenTold_27 : decode cX7_upWhenTold 27 = .ok (.iload_n 1, 1) := by decide +kernel
theorem dX7_upWhenTold_28 : decode cX7_upWhenTold 28 = .ok (.if_icmp .ne 59, 3) := by decide +kernel
theorem dX7_upWhenTold_31 : decode cX7_upWhenTold 31 = .ok (.aload_n 0, 1) := by decide +kernel
theorem dX7_upWhenTold_32 : decode cX7_upWhenTold 32 = .ok (.getfield 43, 3) := by decide +kernel
theorem dX7_upWhenTold_35 : decode cX7_upWhenTold 35 = .ok (.getfield 133, 3) := by decide +kernel
theorem dX7_upWhenTold_38 : decode cX7_upWhenTold 38 = .ok (.iload 4, 2) := by decide +kernel
theorem dX7_upWhenTold_40 : decode cX7_upWhenTold 40 = .ok (.baload, 1) := by decide +kernel
theorem dX7_upWhenTold_41 : decode cX7_upWhenTold 41 = .ok (.ifCond .ne 46, 3) := by decide +kernel
theorem dX7_upWhenTold_44 : decode cX7_upWhenTold 44 = .ok (.iload_n 3, 1) := by decide +kernel
theorem dX7_upWhenTold_45 : decode cX7_upWhenTold 45 = .ok (.iload_n 2, 1) := by decide +kernel
theorem dX7_upWhenTold_46 : decode cX7_upWhenTold 46 = .ok (.aload_n 0, 1) := by decide +kernel
theorem dX7_upWhenTold_47 : decode cX7_upWhenTold 47 = .ok (.getfield 43, 3) := by decide +kernel
theorem dX7_upWhenTold_50 : decode cX7_upWhenTold 50 = .ok (.getfield 101, 3) := by decide +kernel
theorem dX7_upWhenTold_53 : decode cX7_upWhenTold 53 = .ok (.iload 4, 2) := by decide +kernel
theorem dX7_upWhenTold_55 : decode cX7_upWhenTold 55 = .ok (.baload, 1) := by decide +kernel
theorem dX7_upWhenTold_56 : decode cX7_upWhenTold 56 = .ok (.ifCond .eq 12, 3) := by decide +kernel
theorem dX7_upWhenTold_59 : decode cX7_upWhenTold 59 = .ok (.aload_n 0, 1) := by decide +kernel
theorem dX7_upWhenTold_60 : decode cX7_upWhenTold 60 = .ok (.getfield 18, 3) := by decide +kernel
theorem dX7_upWhenTold_63 : decode cX7_upWhenTold 63 = .ok (.iload_n 1, 1) := by decide +kernel
theorem dX7_upWhenTold_64 : decode cX7_upWhenTold 64 = .ok (.iaload, 1) := by decide +kernel
theorem dX7_upWhenTold_65 : decode cX7_upWhenTold 65 = .ok (.goto 9, 3) := by decide +kernel
theorem dX7_upWhenTold_68 : decode cX7_upWhenTold 68 = .ok (.aload_n 0, 1) := by decide +kernel
theorem dX7_upWhenTold_69 : decode cX7_upWhenTold 69 = .ok (.getfield 15, 3) := by decide +kernel
theorem dX7_upWhenTold_72 : decode cX7_upWhenTold 72 = .ok (.iload_n 1, 1) := by decide +kernel
theorem dX7_upWhenTold_73 : decode cX7_upWhenTold 73 = .ok (.iaload, 1) := by decide +kernel
theorem dX7_upWhenTold_74 : decode cX7_upWhenTold 74 = .ok (.if_icmp .gt 7, 3) := by decide +kernel
theorem dX7_upWhenTold_77 : decode cX7_upWhenTold 77 = .ok (.iconst 1, 1) := by decide +kernel
theorem dX7_upWhenTold_78 : decode cX7_upWhenTold 78 = .ok (.goto 4, 3) := by decide +kernel
theorem dX7_upWhenTold_81 : decode cX7_upWhenTold 81 = .ok (.iconst 0, 1) := by decide +kernel
theorem dX7_upWhenTold_82 : decode cX7_upWhenTold 82 = .ok (.invokestatic 136, 3) := by decide +kernel
theorem dX7_upWhenTold_85 : decode cX7_upWhenTold 85 = .ok (.iadd, 1) := by decide +kernel
theorem dX7_upWhenTold_86 : decode cX7_upWhenTold 86 = .ok (.istore_n 3, 1) := by decide +kernel
theorem dX7_upWhenTold_87 : decode cX7_upWhenTold 87 = .ok (.iinc 4 1, 3) := by decide +kernel
theorem dX7_upWhenTold_90 : decode cX7_upWhenTold 90 = .ok (.goto (-85), 3) := by decide +kernel
theorem dX7_upWhenTold_93 : decode cX7_upWhenTold 93 = .ok (.iload_n 3, 1) := by decide +kernel
theorem dX7_upWhenTold_94 : decode cX7_upWhenTold 94 = .ok (.ireturn, 1) := by decide +kernel
theorem dX7_bestOfOne_0 : decode cX7_bestOfOne 0 = .ok (.iconst (-1), 1) := by decide +kernel
theorem dX7_bestOfOne_1 : decode cX7_bestOfOne 1 = .ok (.istore_n 1, 1) := by decide +kernel
theorem dX7_bestOfOne_2 : decode cX7_bestOfOne 2 = .ok (.iconst 0, 1) := by decide +kernel
theorem dX7_bestOfOne_3 : decode cX7_bestOfOne 3 = .ok (.istore_n 2, 1) := by decide +kernel
theorem dX7_bestOfOne_4 : decode cX7_bestOfOne 4 = .ok (.iload_n 2, 1) := by decide +kernel
theorem dX7_bestOfOne_5 : decode cX7_bestOfOne 5 = .ok (.aload_n 0, 1) := by decide +kernel
theorem dX7_bestOfOne_6 : decode cX7_bestOfOne 6 = .ok (.invokevirtual 140, 3) := by decide +kernel
theorem dX7_bestOfOne_9 : decode cX7_bestOfOne 9 = .ok (.if_icmp .gt 41, 3) := by decide +kernel
theorem dX7_bestOfOne_12 : decode cX7_bestOfOne 12 = .ok (.aload_n 0, 1) := by decide +kernel
theorem dX7_bestOfOne_13 : decode cX7_bestOfOne 13 = .ok (.getfield 24, 3) := by decide +kernel
theorem dX7_bestOfOne_16 : decode cX7_bestOfOne 16 = .ok (.iload_n 2, 1) := by decide +kernel
theorem dX7_bestOfOne_17 : decode cX7_bestOfOne 17 = .ok (.iaload, 1) := by decide +kernel
theorem dX7_bestOfOne_18 : decode cX7_bestOfOne 18 = .ok (.iconst (-1), 1) := by decide +kernel
theorem dX7_bestOfOne_19 : decode cX7_bestOfOne 19 = .ok (.if_icmp .eq 25, 3) := by decide +kernel
theorem dX7_bestOfOne_22 : decode cX7_bestOfOne 22 = .ok (.iload_n 1, 1) := by decide +kernel
theorem dX7_bestOfOne_23 : decode cX7_bestOfOne 23 = .ok (.iconst (-1), 1) := by decide +kernel
theorem dX7_bestOfOne_24 : decode cX7_bestOfOne 24 = .ok (.if_icmp .eq 18, 3) := by decide +kernel
theorem dX7_bestOfOne_27 : decode cX7_bestOfOne 27 = .ok (.aload_n 0, 1) := by decide +kernel
theorem dX7_bestOfOne_28 : decode cX7_bestOfOne 28 = .ok (.getfield 24, 3) := by decide +kernel
theorem dX7_bestOfOne_31 : decode cX7_bestOfOne 31 = .ok (.iload_n 2, 1) := by decide +kernel
theorem dX7_bestOfOne_32 : decode cX7_bestOfOne 32 = .ok (.iaload, 1) := by decide +kernel
theorem dX7_bestOfOne_33 : decode cX7_bestOfOne 33 = .ok (.aload_n 0, 1) := by decide +kernel
theorem dX7_bestOfOne_34 : decode cX7_bestOfOne 34 = .ok (.getfield 24, 3) := by decide +kernel
theorem dX7_bestOfOne_37 : decode cX7_bestOfOne 37 = .ok (.iload_n 1, 1) := by decide +kernel
theorem dX7_bestOfOne_38 : decode cX7_bestOfOne 38 = .ok (.iaload, 1) := by decide +kernel
theorem dX7_bestOfOne_39 : decode cX7_bestOfOne 39 = .ok (.if_icmp .le 5, 3) := by decide +kernel
theorem dX7_bestOfOne_42 : decode cX7_bestOfOne 42 = .ok (.iload_n 2, 1) := by decide +kernel
theorem dX7_bestOfOne_43 : decode cX7_bestOfOne 43 = .ok (.istore_n 1, 1) := by decide +kernel
theorem dX7_bestOfOne_44 : decode cX7_bestOfOne 44 = .ok (.iinc 2 1, 3) := by decide +kernel
theorem dX7_bestOfOne_47 : decode cX7_bestOfOne 47 = .ok (.goto (-43), 3) := by decide +kernel
theorem dX7_bestOfOne_50 : decode cX7_bestOfOne 50 = .ok (.iload_n 1, 1) := by decide +kernel
theorem dX7_bestOfOne_51 : decode cX7_bestOfOne 51 = .ok (.ireturn, 1) := by decide +kernel
theorem dX7_bestOfTwo_0 : decode cX7_bestOfTwo 0 = .ok (.iconst (-1), 1) := by decide +kernel
theorem dX7_bestOfTwo_1 : decode cX7_bestOfTwo 1 = .ok (.istore_n 2, 1) := by decide +kernel
theorem dX7_bestOfTwo_2 : decode cX7_bestOfTwo 2 = .ok (.iconst (-1), 1) := by decide +kernel
theorem dX7_bestOfTwo_3 : decode cX7_bestOfTwo 3 = .ok (.istore_n 3, 1) := by decide +kernel
theorem dX7_bestOfTwo_4 : decode cX7_bestOfTwo 4 = .ok (.iconst (-1), 1) := by decide +kernel
theorem dX7_bestOfTwo_5 : decode cX7_bestOfTwo 5 = .ok (.istore 4, 2) := by decide +kernel
theorem dX7_bestOfTwo_7 : decode cX7_bestOfTwo 7 = .ok (.iconst 0, 1) := by decide +kernel
theorem dX7_bestOfTwo_8 : decode cX7_bestOfTwo 8 = .ok (.istore 5, 2) := by decide +kernel
theorem dX7_bestOfTwo_10 : decode cX7_bestOfTwo 10 = .ok (.iload 5, 2) := by decide +kernel
theorem dX7_bestOfTwo_12 : decode cX7_bestOfTwo 12 = .ok (.aload_n 0, 1) := by decide +kernel
theorem dX7_bestOfTwo_13 : decode cX7_bestOfTwo 13 = .ok (.invokevirtual 140, 3) := by decide +kernel
theorem dX7_bestOfTwo_16 : decode cX7_bestOfTwo 16 = .ok (.if_icmp .gt 103, 3) := by decide +kernel
theorem dX7_bestOfTwo_19 : decode cX7_bestOfTwo 19 = .ok (.iconst 0, 1) := by decide +kernel
theorem dX7_bestOfTwo_20 : decode cX7_bestOfTwo 20 = .ok (.istore 6, 2) := by decide +kernel
theorem dX7_bestOfTwo_22 : decode cX7_bestOfTwo 22 = .ok (.iload 6, 2) := by decide +kernel
theorem dX7_bestOfTwo_24 : decode cX7_bestOfTwo 24 = .ok (.aload_n 0, 1) := by decide +kernel
theorem dX7_bestOfTwo_25 : decode cX7_bestOfTwo 25 = .ok (.invokevirtual 140, 3) := by decide +kernel
theorem dX7_bestOfTwo_28 : decode cX7_bestOfTwo 28 = .ok (.if_icmp .gt 85, 3) := by decide +kernel
theorem dX7_bestOfTwo_31 : decode cX7_bestOfTwo 31 = .ok (.iload 5, 2) := by decide +kernel
theorem dX7_bestOfTwo_33 : decode cX7_bestOfTwo 33 = .ok (.iload 6, 2) := by decide +kernel
theorem dX7_bestOfTwo_35 : decode cX7_bestOfTwo 35 = .ok (.iand, 1) := by decide +kernel
theorem dX7_bestOfTwo_36 : decode cX7_bestOfTwo 36 = .ok (.ifCond .ne 71, 3) := by decide +kernel
theorem dX7_bestOfTwo_39 : decode cX7_bestOfTwo 39 = .ok (.aload_n 0, 1) := by decide +kernel
theorem dX7_bestOfTwo_40 : decode cX7_bestOfTwo 40 = .ok (.getfield 24, 3) := by decide +kernel
theorem dX7_bestOfTwo_43 : decode cX7_bestOfTwo 43 = .ok (.iload 5, 2) := by decide +kernel
theorem dX7_bestOfTwo_45 : decode cX7_bestOfTwo 45 = .ok (.iaload, 1) := by decide +kernel
theorem dX7_bestOfTwo_46 : decode cX7_bestOfTwo 46 = .ok (.iconst (-1), 1) := by decide +kernel
theorem dX7_bestOfTwo_47 : decode cX7_bestOfTwo 47 = .ok (.if_icmp .eq 60, 3) := by decide +kernel
theorem dX7_bestOfTwo_50 : decode cX7_bestOfTwo 50 = .ok (.aload_n 0, 1) := by decide +kernel
theorem dX7_bestOfTwo_51 : decode cX7_bestOfTwo 51 = .ok (.getfield 27, 3) := by decide +kernel
theorem dX7_bestOfTwo_54 : decode cX7_bestOfTwo 54 = .ok (.iload 6, 2) := by decide +kernel
theorem dX7_bestOfTwo_56 : decode cX7_bestOfTwo 56 = .ok (.iaload, 1) := by decide +kernel
theorem dX7_bestOfTwo_57 : decode cX7_bestOfTwo 57 = .ok (.iconst (-1), 1) := by decide +kernel
theorem dX7_bestOfTwo_58 : decode cX7_bestOfTwo 58 = .ok (.if_icmp .ne 6, 3) := by decide +kernel
theorem dX7_bestOfTwo_61 : decode cX7_bestOfTwo 61 = .ok (.goto 46, 3) := by decide +kernel
theorem dX7_bestOfTwo_64 : decode cX7_bestOfTwo 64 = .ok (.aload_n 0, 1) := by decide +kernel
theorem dX7_bestOfTwo_65 : decode cX7_bestOfTwo 65 = .ok (.getfield 24, 3) := by decide +kernel
theorem dX7_bestOfTwo_68 : decode cX7_bestOfTwo 68 = .ok (.iload 5, 2) := by decide +kernel
theorem dX7_bestOfTwo_70 : decode cX7_bestOfTwo 70 = .ok (.iaload, 1) := by decide +kernel
theorem dX7_bestOfTwo_71 : decode cX7_bestOfTwo 71 = .ok (.aload_n 0, 1) := by decide +kernel
theorem dX7_bestOfTwo_72 : decode cX7_bestOfTwo 72 = .ok (.getfield 27, 3) := by decide +kernel
theorem dX7_bestOfTwo_75 : decode cX7_bestOfTwo 75 = .ok (.iload 6, 2) := by decide +kernel
theorem dX7_bestOfTwo_77 : decode cX7_bestOfTwo 77 = .ok (.iaload, 1) := by decide +kernel
theorem dX7_bestOfTwo_78 : decode cX7_bestOfTwo 78 = .ok (.iadd, 1) := by decide +kernel
theorem dX7_bestOfTwo_79 : decode cX7_bestOfTwo 79 = .ok (.iload 4, 2) := by decide +kernel
theorem dX7_bestOfTwo_81 : decode cX7_bestOfTwo 81 = .ok (.if_icmp .le 26, 3) := by decide +kernel
theorem dX7_bestOfTwo_84 : decode cX7_bestOfTwo 84 = .ok (.aload_n 0, 1) := by decide +kernel
theorem dX7_bestOfTwo_85 : decode cX7_bestOfTwo 85 = .ok (.getfield 24, 3) := by decide +kernel
theorem dX7_bestOfTwo_88 : decode cX7_bestOfTwo 88 = .ok (.iload 5, 2) := by decide +kernel
theorem dX7_bestOfTwo_90 : decode cX7_bestOfTwo 90 = .ok (.iaload, 1) := by decide +kernel
theorem dX7_bestOfTwo_91 : decode cX7_bestOfTwo 91 = .ok (.aload_n 0, 1) := by decide +kernel
theorem dX7_bestOfTwo_92 : decode cX7_bestOfTwo 92 = .ok (.getfield 27, 3) := by decide +kernel
theorem dX7_bestOfTwo_95 : decode cX7_bestOfTwo 95 = .ok (.iload 6, 2) := by decide +kernel
theorem dX7_bestOfTwo_97 : decode cX7_bestOfTwo 97 = .ok (.iaload, 1) := by decide +kernel
theorem dX7_bestOfTwo_98 : decode cX7_bestOfTwo 98 = .ok (.iadd, 1) := by decide +kernel
theorem dX7_bestOfTwo_99 : decode cX7_bestOfTwo 99 = .ok (.istore 4, 2) := by decide +kernel
theorem dX7_bestOfTwo_101 : decode cX7_bestOfTwo 101 = .ok (.iload 5, 2) := by decide +kernel
theorem dX7_bestOfTwo_103 : decode cX7_bestOfTwo 103 = .ok (.istore_n 2, 1) := by decide +kernel
theorem dX7_bestOfTwo_104 : decode cX7_bestOfTwo 104 = .ok (.iload 6, 2) := by decide +kernel
theorem dX7_bestOfTwo_106 : decode cX7_bestOfTwo 106 = .ok (.istore_n 3, 1) := by decide +kernel
theorem dX7_bestOfTwo_107 : decode cX7_bestOfTwo 107 = .ok (.iinc 6 1, 3) := by decide +kernel
theorem dX7_bestOfTwo_110 : decode cX7_bestOfTwo 110 = .ok (.goto (-88), 3) := by decide +kernel
theorem dX7_bestOfTwo_113 : decode cX7_bestOfTwo 113 = .ok (.iinc 5 1, 3) := by decide +kernel
theorem dX7_bestOfTwo_116 : decode cX7_bestOfTwo 116 = .ok (.goto (-106), 3) := by decide +kernel
theorem dX7_bestOfTwo_119 : decode cX7_bestOfTwo 119 = .ok (.iload 4, 2) := by decide +kernel
theorem dX7_bestOfTwo_121 : decode cX7_bestOfTwo 121 = .ok (.iconst (-1), 1) := by decide +kernel
theorem dX7_bestOfTwo_122 : decode cX7_bestOfTwo 122 = .ok (.if_icmp .eq 8, 3) := by decide +kernel
theorem dX7_bestOfTwo_125 : decode cX7_bestOfTwo 125 = .ok (.iload_n 1, 1) := by decide +kernel
theorem dX7_bestOfTwo_126 : decode cX7_bestOfTwo 126 = .ok (.iconst 2, 1) := by decide +kernel
theorem dX7_bestOfTwo_127 : decode cX7_bestOfTwo 127 = .ok (.if_icmp .ne 6, 3) := by decide +kernel
theorem dX7_bestOfTwo_130 : decode cX7_bestOfTwo 130 = .ok (.iload 4, 2) := by decide +kernel
theorem dX7_bestOfTwo_132 : decode cX7_bestOfTwo 132 = .ok (.ireturn, 1) := by decide +kernel
theorem dX7_bestOfTwo_133 : decode cX7_bestOfTwo 133 = .ok (.aload_n 0, 1) := by decide +kernel
theorem dX7_bestOfTwo_134 : decode cX7_bestOfTwo 134 = .ok (.iload_n 1, 1) := by decide +kernel
theorem dX7_bestOfTwo_135 : decode cX7_bestOfTwo 135 = .ok (.ifCond .ne 7, 3) := by decide +kernel
theorem dX7_bestOfTwo_138 : decode cX7_bestOfTwo 138 = .ok (.iload_n 2, 1) := by decide +kernel
theorem dX7_bestOfTwo_139 : decode cX7_bestOfTwo 139 = .ok (.goto 4, 3) := by decide +kernel
theorem dX7_bestOfTwo_142 : decode cX7_bestOfTwo 142 = .ok (.iload_n 3, 1) := by decide +kernel
theorem dX7_bestOfTwo_143 : decode cX7_bestOfTwo 143 = .ok (.invokevirtual 143, 3) := by decide +kernel
theorem dX7_bestOfTwo_146 : decode cX7_bestOfTwo 146 = .ok (.ireturn, 1) := by decide +kernel
theorem dX7_lateFor_0 : decode cX7_lateFor 0 = .ok (.aload_n 0, 1) := by decide +kernel
theorem dX7_lateFor_1 : decode cX7_lateFor 1 = .ok (.iload_n 2, 1) := by decide +kernel
theorem dX7_lateFor_2 : decode cX7_lateFor 2 = .ok (.aload_n 0, 1) := by decide +kernel
theorem dX7_lateFor_3 : decode cX7_lateFor 3 = .ok (.getfield 43, 3) := by decide +kernel
theorem dX7_lateFor_6 : decode cX7_lateFor 6 = .ok (.getfield 101, 3) := by decide +kernel
theorem dX7_lateFor_9 : decode cX7_lateFor 9 = .ok (.iload_n 1, 1) := by decide +kernel
theorem dX7_lateFor_10 : decode cX7_lateFor 10 = .ok (.baload, 1) := by decide +kernel
theorem dX7_lateFor_11 : decode cX7_lateFor 11 = .ok (.aload_n 0, 1) := by decide +kernel
theorem dX7_lateFor_12 : decode cX7_lateFor 12 = .ok (.getfield 21, 3) := by decide +kernel
theorem dX7_lateFor_15 : decode cX7_lateFor 15 = .ok (.invokevirtual 61, 3) := by decide +kernel
theorem dX7_lateFor_18 : decode cX7_lateFor 18 = .ok (.aload_n 0, 1) := by decide +kernel
theorem dX7_lateFor_19 : decode cX7_lateFor 19 = .ok (.getfield 21, 3) := by decide +kernel
theorem dX7_lateFor_22 : decode cX7_lateFor 22 = .ok (.iload_n 3, 1) := by decide +kernel
theorem dX7_lateFor_23 : decode cX7_lateFor 23 = .ok (.iaload, 1) := by decide +kernel
theorem dX7_lateFor_24 : decode cX7_lateFor 24 = .ok (.iconst (-1), 1) := by decide +kernel
theorem dX7_lateFor_25 : decode cX7_lateFor 25 = .ok (.if_icmp .ne 5, 3) := by decide +kernel
theorem dX7_lateFor_28 : decode cX7_lateFor 28 = .ok (.iconst 0, 1) := by decide +kernel
theorem dX7_lateFor_29 : decode cX7_lateFor 29 = .ok (.ireturn, 1) := by decide +kernel
theorem dX7_lateFor_30 : decode cX7_lateFor 30 = .ok (.aload_n 0, 1) := by decide +kernel
theorem dX7_lateFor_31 : decode cX7_lateFor 31 = .ok (.getfield 47, 3) := by decide +kernel
theorem dX7_lateFor_34 : decode cX7_lateFor 34 = .ok (.iload_n 3, 1) := by decide +kernel
theorem dX7_lateFor_35 : decode cX7_lateFor 35 = .ok (.aload_n 0, 1) := by decide +kernel
theorem dX7_lateFor_36 : decode cX7_lateFor 36 = .ok (.getfield 21, 3) := by decide +kernel
theorem dX7_lateFor_39 : decode cX7_lateFor 39 = .ok (.iload_n 3, 1) := by decide +kernel
theorem dX7_lateFor_40 : decode cX7_lateFor 40 = .ok (.iaload, 1) := by decide +kernel
theorem dX7_lateFor_41 : decode cX7_lateFor 41 = .ok (.invokevirtual 76, 3) := by decide +kernel
theorem dX7_lateFor_44 : decode cX7_lateFor 44 = .ok (.aload_n 0, 1) := by decide +kernel
theorem dX7_lateFor_45 : decode cX7_lateFor 45 = .ok (.getfield 47, 3) := by decide +kernel
theorem dX7_lateFor_48 : decode cX7_lateFor 48 = .ok (.getfield 80, 3) := by decide +kernel
theorem dX7_lateFor_51 : decode cX7_lateFor 51 = .ok (.aload_n 0, 1) := by decide +kernel
theorem dX7_lateFor_52 : decode cX7_lateFor 52 = .ok (.getfield 43, 3) := by decide +kernel
theorem dX7_lateFor_55 : decode cX7_lateFor 55 = .ok (.getfield 105, 3) := by decide +kernel
theorem dX7_lateFor_58 : decode cX7_lateFor 58 = .ok (.iload_n 1, 1) := by decide +kernel
theorem dX7_lateFor_59 : decode cX7_lateFor 59 = .ok (.iaload, 1) := by decide +kernel
theorem dX7_lateFor_60 : decode cX7_lateFor 60 = .ok (.iaload, 1) := by decide +kernel
theorem dX7_lateFor_61 : decode cX7_lateFor 61 = .ok (.iconst 1, 1) := by decide +kernel
theorem dX7_lateFor_62 : decode cX7_lateFor 62 = .ok (.iadd, 1) := by decide +kernel
theorem dX7_lateFor_63 : decode cX7_lateFor 63 = .ok (.ireturn, 1) := by decide +kernel
theorem dX8_init_0 : decode cX8_init 0 = .ok (.aload_n 0, 1) := by decide +kernel
theorem dX8_init_1 : decode cX8_init 1 = .ok (.invokespecial 3, 3) := by decide +kernel
theorem dX8_init_4 : decode cX8_init 4 = .ok (.aload_n 0, 1) := by decide +kernel
theorem dX8_init_5 : decode cX8_init 5 = .ok (.sipush 400, 3) := by decide +kernel
theorem dX8_init_8 : decode cX8_init 8 = .ok (.newarray .byte, 2) := by decide +kernel
theorem dX8_init_10 : decode cX8_init 10 = .ok (.putfield 9, 3) := by decide +kernel
theorem dX8_init_13 : decode cX8_init 13 = .ok (.return_, 1) := by decide +kernel
theorem dX8_append_0 : decode cX8_append 0 = .ok (.iload_n 1, 1) := by decide +kernel
theorem dX8_append_1 : decode cX8_append 1 = .ok (.iconst 1, 1) := by decide +kernel
theorem dX8_append_2 : decode cX8_append 2 = .ok (.isub, 1) := by decide +kernel
theorem dX8_append_3 : decode cX8_append 3 = .ok (.istore 4, 2) := by decide +kernel
theorem dX8_append_5 : decode cX8_append 5 = .ok (.iload 4, 2) := by decide +kernel
theorem dX8_append_7 : decode cX8_append 7 = .ok (.ifCond .lt 47, 3) := by decide +kernel
theorem dX8_append_10 : decode cX8_append 10 = .ok (.aload_n 0, 1) := by decide +kernel
theorem dX8_append_11 : decode cX8_append 11 = .ok (.getfield 15, 3) := by decide +kernel
theorem dX8_append_14 : decode cX8_append 14 = .ok (.sipush 400, 3) := by decide +kernel
theorem dX8_append_17 : decode cX8_append 17 = .ok (.if_icmp .ge 37, 3) := by decide +kernel
theorem dX8_append_20 : decode cX8_append 20 = .ok (.aload_n 0, 1) := by decide +kernel
theorem dX8_append_21 : decode cX8_append 21 = .ok (.getfield 9, 3) := by decide +kernel
theorem dX8_append_24 : decode cX8_append 24 = .ok (.aload_n 0, 1) := by decide +kernel
theorem dX8_append_25 : decode cX8_append 25 = .ok (.getfield 15, 3) := by decide +kernel
theorem dX8_append_28 : decode cX8_append 28 = .ok (.lload_n 2, 1) := by decide +kernel
theorem dX8_append_29 : decode cX8_append 29 = .ok (.bipush 8, 2) := by decide +kernel
theorem dX8_append_31 : decode cX8_append 31 = .ok (.iload 4, 2) := by decide +kernel
theorem dX8_append_33 : decode cX8_append 33 = .ok (.imul, 1) := by decide +kernel
theorem dX8_append_34 : decode cX8_append 34 = .ok (.lshr, 1) := by decide +kernel
theorem dX8_append_35 : decode cX8_append 35 = .ok (.l2i, 1) := by decide +kernel
theorem dX8_append_36 : decode cX8_append 36 = .ok (.i2b, 1) := by decide +kernel
theorem dX8_append_37 : decode cX8_append 37 = .ok (.bastore, 1) := by decide +kernel
theorem dX8_append_38 : decode cX8_append 38 = .ok (.aload_n 0, 1) := by decide +kernel
theorem dX8_append_39 : decode cX8_append 39 = .ok (.dup, 1) := by decide +kernel
theorem dX8_append_40 : decode cX8_append 40 = .ok (.getfield 15, 3) := by decide +kernel
theorem dX8_append_43 : decode cX8_append 43 = .ok (.iconst 1, 1) := by decide +kernel
theorem dX8_append_44 : decode cX8_append 44 = .ok (.iadd, 1) := by decide +kernel
theorem dX8_append_45 : decode cX8_append 45 = .ok (.putfield 15, 3) := by decide +kernel
theorem dX8_append_48 : decode cX8_append 48 = .ok (.iinc 4 (-1), 3) := by decide +kernel
theorem dX8_append_51 : decode cX8_append 51 = .ok (.goto (-46), 3) := by decide +kernel
theorem dX8_append_54 : decode cX8_append 54 = .ok (.return_, 1) := by decide +kernel
theorem dX9_init_0 : decode cX9_init 0 = .ok (.aload_n 0, 1) := by decide +kernel
theorem dX9_init_1 : decode cX9_init 1 = .ok (.invokespecial 3, 3) := by decide +kernel
theorem dX9_init_4 : decode cX9_init 4 = .ok (.aload_n 0, 1) := by decide +kernel
theorem dX9_init_5 : decode cX9_init 5 = .ok (.bipush 24, 2) := by decide +kernel
theorem dX9_init_7 : decode cX9_init 7 = .ok (.newarray .int, 2) := by decide +kernel
theorem dX9_init_9 : decode cX9_init 9 = .ok (.putfield 9, 3) := by decide +kernel
theorem dX9_init_12 : decode cX9_init 12 = .ok (.aload_n 0, 1) := by decide +kernel
theorem dX9_init_13 : decode cX9_init 13 = .ok (.bipush 24, 2) := by decide +kernel
theorem dX9_init_15 : decode cX9_init 15 = .ok (.newarray .int, 2) := by decide +kernel
theorem dX9_init_17 : decode cX9_init 17 = .ok (.putfield 15, 3) := by decide +kernel
theorem dX9_init_20 : decode cX9_init 20 = .ok (.aload_n 0, 1) := by decide +kernel
theorem dX9_init_21 : decode cX9_init 21 = .ok (.bipush 24, 2) := by decide +kernel
theorem dX9_init_23 : decode cX9_init 23 = .ok (.newarray .int, 2) := by decide +kernel
theorem dX9_init_25 : decode cX9_init 25 = .ok (.putfield 18, 3) := by decide +kernel
theorem dX9_init_28 : decode cX9_init 28 = .ok (.aload_n 0, 1) := by decide +kernel
theorem dX9_init_29 : decode cX9_init 29 = .ok (.bipush 24, 2) := by decide +kernel
theorem dX9_init_31 : decode cX9_init 31 = .ok (.newarray .int, 2) := by decide +kernel
theorem dX9_init_33 : decode cX9_init 33 = .ok (.putfield 21, 3) := by decide +kernel
theorem dX9_init_36 : decode cX9_init 36 = .ok (.aload_n 0, 1) := by decide +kernel
theorem dX9_init_37 : decode cX9_init 37 = .ok (.bipush 12, 2) := by decide +kernel
theorem dX9_init_39 : decode cX9_init 39 = .ok (.newarray .int, 2) := by decide +kernel
theorem dX9_init_41 : decode cX9_init 41 = .ok (.putfield 24, 3) := by decide +kernel
theorem dX9_init_44 : decode cX9_init 44 = .ok (.aload_n 0, 1) := by decide +kernel
theorem dX9_init_45 : decode cX9_init 45 = .ok (.bipush 12, 2) := by decide +kernel
theorem dX9_init_47 : decode cX9_init 47 = .ok (.newarray .int, 2) := by decide +kernel
theorem dX9_init_49 : decode cX9_init 49 = .ok (.putfield 27, 3) := by decide +kernel
theorem dX9_init_52 : decode cX9_init 52 = .ok (.aload_n 0, 1) := by decide +kernel
theorem dX9_init_53 : decode cX9_init 53 = .ok (.aload_n 1, 1) := by decide +kernel
theorem dX9_init_54 : decode cX9_init 54 = .ok (.putfield 30, 3) := by decide +kernel
theorem dX9_init_57 : decode cX9_init 57 = .ok (.aload_n 0, 1) := by decide +kernel
theorem dX9_init_58 : decode cX9_init 58 = .ok (.aload_n 2, 1) := by decide +kernel
theorem dX9_init_59 : decode cX9_init 59 = .ok (.putfield 34, 3) := by decide +kernel
theorem dX9_init_62 : decode cX9_init 62 = .ok (.return_, 1) := by decide +kernel
theorem dX9_prepare_0 : decode cX9_prepare 0 = .ok (.aload_n 0, 1) := by decide +kernel
theorem dX9_prepare_1 : decode cX9_prepare 1 = .ok (.iload_n 1, 1) := by decide +kernel
theorem dX9_prepare_2 : decode cX9_prepare 2 = .ok (.iload_n 2, 1) := by decide +kernel
theorem dX9_prepare_3 : decode cX9_prepare 3 = .ok (.iconst (-1), 1) := by decide +kernel
theorem dX9_prepare_4 : decode cX9_prepare 4 = .ok (.iconst (-1), 1) := by decide +kernel
theorem dX9_prepare_5 : decode cX9_prepare 5 = .ok (.invokevirtual 38, 3) := by decide +kernel
theorem dX9_prepare_8 : decode cX9_prepare 8 = .ok (.return_, 1) := by decide +kernel
theorem dX9_prepareMarked_0 : decode cX9_prepareMarked 0 = .ok (.iload_n 2, 1) := by decide +kernel
theorem dX9_prepareMarked_1 : decode cX9_prepareMarked 1 = .ok (.ifCond .eq 7, 3) := by decide +kernel
theorem dX9_prepareMarked_4 : decode cX9_prepareMarked 4 = .ok (.iconst 2, 1) := by decide +kernel
theorem dX9_prepareMarked_5 : decode cX9_prepareMarked 5 = .ok (.goto 4, 3) := by decide +kernel
theorem dX9_prepareMarked_8 : decode cX9_prepareMarked 8 = .ok (.iconst 1, 1) := by decide +kernel
theorem dX9_prepareMarked_9 : decode cX9_prepareMarked 9 = .ok (.istore 5, 2) := by decide +kernel
theorem dX9_prepareMarked_11 : decode cX9_prepareMarked 11 = .ok (.iconst 0, 1) := by decide +kernel
theorem dX9_prepareMarked_12 : decode cX9_prepareMarked 12 = .ok (.istore 6, 2) := by decide +kernel
theorem dX9_prepareMarked_14 : decode cX9_prepareMarked 14 = .ok (.iload 6, 2) := by decide +kernel
theorem dX9_prepareMarked_16 : decode cX9_prepareMarked 16 = .ok (.aload_n 0, 1) := by decide +kernel
theorem dX9_prepareMarked_17 : decode cX9_prepareMarked 17 = .ok (.getfield 30, 3) := by decide +kernel
theorem dX9_prepareMarked_20 : decode cX9_prepareMarked 20 = .ok (.getfield 42, 3) := by decide +kernel
theorem dX9_prepareMarked_23 : decode cX9_prepareMarked 23 = .ok (.if_icmp .ge 127, 3) := by decide +kernel
theorem dX9_prepareMarked_26 : decode cX9_prepareMarked 26 = .ok (.aload_n 0, 1) := by decide +kernel
theorem dX9_prepareMarked_27 : decode cX9_prepareMarked 27 = .ok (.getfield 30, 3) := by decide +kernel
theorem dX9_prepareMarked_30 : decode cX9_prepareMarked 30 = .ok (.iload 6, 2) := by decide +kernel
theorem dX9_prepareMarked_32 : decode cX9_prepareMarked 32 = .ok (.iconst 3, 1) := by decide +kernel
theorem dX9_prepareMarked_33 : decode cX9_prepareMarked 33 = .ok (.invokevirtual 48, 3) := by decide +kernel
theorem dX9_prepareMarked_36 : decode cX9_prepareMarked 36 = .ok (.istore 7, 2) := by decide +kernel
theorem dX9_prepareMarked_38 : decode cX9_prepareMarked 38 = .ok (.aload_n 0, 1) := by decide +kernel
theorem dX9_prepareMarked_39 : decode cX9_prepareMarked 39 = .ok (.getfield 9, 3) := by decide +kernel
theorem dX9_prepareMarked_42 : decode cX9_prepareMarked 42 = .ok (.iload 6, 2) := by decide +kernel
theorem dX9_prepareMarked_44 : decode cX9_prepareMarked 44 = .ok (.iload 5, 2) := by decide +kernel
theorem dX9_prepareMarked_46 : decode cX9_prepareMarked 46 = .ok (.aload_n 0, 1) := by decide +kernel
theorem dX9_prepareMarked_47 : decode cX9_prepareMarked 47 = .ok (.getfield 30, 3) := by decide +kernel
theorem dX9_prepareMarked_50 : decode cX9_prepareMarked 50 = .ok (.iload 6, 2) := by decide +kernel
theorem dX9_prepareMarked_52 : decode cX9_prepareMarked 52 = .ok (.iconst 2, 1) := by decide +kernel
theorem dX9_prepareMarked_53 : decode cX9_prepareMarked 53 = .ok (.invokevirtual 48, 3) := by decide +kernel
theorem dX9_prepareMarked_56 : decode cX9_prepareMarked 56 = .ok (.imul, 1) := by decide +kernel
theorem dX9_prepareMarked_57 : decode cX9_prepareMarked 57 = .ok (.iastore, 1) := by decide +kernel
theorem dX9_prepareMarked_58 : decode cX9_prepareMarked 58 = .ok (.aload_n 0, 1) := by decide +kernel
theorem dX9_prepareMarked_59 : decode cX9_prepareMarked 59 = .ok (.getfield 15, 3) := by decide +kernel
theorem dX9_prepareMarked_62 : decode cX9_prepareMarked 62 = .ok (.iload 6, 2) := by decide +kernel
theorem dX9_prepareMarked_64 : decode cX9_prepareMarked 64 = .ok (.iload 7, 2) := by decide +kernel
theorem dX9_prepareMarked_66 : decode cX9_prepareMarked 66 = .ok (.iconst (-1), 1) := by decide +kernel
theorem dX9_prepareMarked_67 : decode cX9_prepareMarked 67 = .ok (.if_icmp .ne 7, 3) := by decide +kernel
theorem dX9_prepareMarked_70 : decode cX9_prepareMarked 70 = .ok (.iconst (-1), 1) := by decide +kernel
theorem dX9_prepareMarked_71 : decode cX9_prepareMarked 71 = .ok (.goto 8, 3) := by decide +kernel
theorem dX9_prepareMarked_74 : decode cX9_prepareMarked 74 = .ok (.iload 5, 2) := by decide +kernel
theorem dX9_prepareMarked_76 : decode cX9_prepareMarked 76 = .ok (.iload 7, 2) := by decide +kernel
theorem dX9_prepareMarked_78 : decode cX9_prepareMarked 78 = .ok (.imul, 1) := by decide +kernel
theorem dX9_prepareMarked_79 : decode cX9_prepareMarked 79 = .ok (.iastore, 1) := by decide +kernel
theorem dX9_prepareMarked_80 : decode cX9_prepareMarked 80 = .ok (.aload_n 0, 1) := by decide +kernel
theorem dX9_prepareMarked_81 : decode cX9_prepareMarked 81 = .ok (.getfield 18, 3) := by decide +kernel
theorem dX9_prepareMarked_84 : decode cX9_prepareMarked 84 = .ok (.iload 6, 2) := by decide +kernel
theorem dX9_prepareMarked_86 : decode cX9_prepareMarked 86 = .ok (.aload_n 0, 1) := by decide +kernel
theorem dX9_prepareMarked_87 : decode cX9_prepareMarked 87 = .ok (.getfield 30, 3) := by decide +kernel
theorem dX9_prepareMarked_90 : decode cX9_prepareMarked 90 = .ok (.iload 6, 2) := by decide +kernel
theorem dX9_prepareMarked_92 : decode cX9_prepareMarked 92 = .ok (.iload_n 3, 1) := by decide +kernel
theorem dX9_prepareMarked_93 : decode cX9_prepareMarked 93 = .ok (.invokevirtual 52, 3) := by decide +kernel
theorem dX9_prepareMarked_96 : decode cX9_prepareMarked 96 = .ok (.ifCond .eq 12, 3) := by decide +kernel
theorem dX9_prepareMarked_99 : decode cX9_prepareMarked 99 = .ok (.iload_n 1, 1) := by decide +kernel
theorem dX9_prepareMarked_100 : decode cX9_prepareMarked 100 = .ok (.iload 4, 2) := by decide +kernel
theorem dX9_prepareMarked_102 : decode cX9_prepareMarked 102 = .ok (.invokestatic 56, 3) := by decide +kernel
theorem dX9_prepareMarked_105 : decode cX9_prepareMarked 105 = .ok (.goto 4, 3) := by decide +kernel
theorem dX9_prepareMarked_108 : decode cX9_prepareMarked 108 = .ok (.iload_n 1, 1) := by decide +kernel
theorem dX9_prepareMarked_109 : decode cX9_prepareMarked 109 = .ok (.iastore, 1) := by decide +kernel
theorem dX9_prepareMarked_110 : decode cX9_prepareMarked 110 = .ok (.aload_n 0, 1) := by decide +kernel
theorem dX9_prepareMarked_111 : decode cX9_prepareMarked 111 = .ok (.getfield 21, 3) := by decide +kernel
theorem dX9_prepareMarked_114 : decode cX9_prepareMarked 114 = .ok (.iload 6, 2) := by decide +kernel
theorem dX9_prepareMarked_116 : decode cX9_prepareMarked 116 = .ok (.aload_n 0, 1) := by decide +kernel
theorem dX9_prepareMarked_117 : decode cX9_prepareMarked 117 = .ok (.getfield 34, 3) := by decide +kernel
theorem dX9_prepareMarked_120 : decode cX9_prepareMarked 120 = .ok (.getfield 61, 3) := by decide +kernel
theorem dX9_prepareMarked_123 : decode cX9_prepareMarked 123 = .ok (.iload 6, 2) := by decide +kernel
theorem dX9_prepareMarked_125 : decode cX9_prepareMarked 125 = .ok (.baload, 1) := by decide +kernel
theorem dX9_prepareMarked_126 : decode cX9_prepareMarked 126 = .ok (.ifCond .eq 7, 3) := by decide +kernel
theorem dX9_prepareMarked_129 : decode cX9_prepareMarked 129 = .ok (.iconst (-1), 1) := by decide +kernel
theorem dX9_prepareMarked_130 : decode cX9_prepareMarked 130 = .ok (.goto 13, 3) := by decide +kernel
theorem dX9_prepareMarked_133 : decode cX9_prepareMarked 133 = .ok (.aload_n 0, 1) := by decide +kernel
theorem dX9_prepareMarked_134 : decode cX9_prepareMarked 134 = .ok (.getfield 30, 3) := by decide +kernel
theorem dX9_prepareMarked_137 : decode cX9_prepareMarked 137 = .ok (.iload 6, 2) := by decide +kernel
theorem dX9_prepareMarked_139 : decode cX9_prepareMarked 139 = .ok (.iconst 5, 1) := by decide +kernel
theorem dX9_prepareMarked_140 : decode cX9_prepareMarked 140 = .ok (.invokevirtual 48, 3) := by decide +kernel
theorem dX9_prepareMarked_143 : decode cX9_prepareMarked 143 = .ok (.iastore, 1) := by decide +kernel
theorem dX9_prepareMarked_144 : decode cX9_prepareMarked 144 = .ok (.iinc 6 1, 3) := by decide +kernel
theorem dX9_prepareMarked_147 : decode cX9_prepareMarked 147 = .ok (.goto (-133), 3) := by decide +kernel
theorem dX9_prepareMarked_150 : decode cX9_prepareMarked 150 = .ok (.return_, 1) := by decide +kernel
theorem dX9_through_0 : decode cX9_through 0 = .ok (.iload_n 2, 1) := by decide +kernel
theorem dX9_through_1 : decode cX9_through 1 = .ok (.aload_n 0, 1) := by decide +kernel
theorem dX9_through_2 : decode cX9_through 2 = .ok (.getfield 9, 3) := by decide +kernel
theorem dX9_through_5 : decode cX9_through 5 = .ok (.iload_n 1, 1) := by decide +kernel
theorem dX9_through_6 : decode cX9_through 6 = .ok (.iaload, 1) := by decide +kernel
theorem dX9_through_7 : decode cX9_through 7 = .ok (.iadd, 1) := by decide +kernel
theorem dX9_through_8 : decode cX9_through 8 = .ok (.istore_n 3, 1) := by decide +kernel
theorem dX9_through_9 : decode cX9_through 9 = .ok (.iload_n 3, 1) := by decide +kernel
theorem dX9_through_10 : decode cX9_through 10 = .ok (.aload_n 0, 1) := by decide +kernel
theorem dX9_through_11 : decode cX9_through 11 = .ok (.getfield 18, 3) := by decide +kernel
theorem dX9_through_14 : decode cX9_through 14 = .ok (.iload_n 1, 1) := by decide +kernel
theorem dX9_through_15 : decode cX9_through 15 = .ok (.iaload, 1) := by decide +kernel
theorem dX9_through_16 : decode cX9_through 16 = .ok (.if_icmp .le 24, 3) := by decide +kernel
theorem dX9_through_19 : decode cX9_through 19 = .ok (.aload_n 0, 1) := by decide +kernel
theorem dX9_through_20 : decode cX9_through 20 = .ok (.getfield 15, 3) := by decide +kernel
theorem dX9_through_23 : decode cX9_through 23 = .ok (.iload_n 1, 1) := by decide +kernel
theorem dX9_through_24 : decode cX9_through 24 = .ok (.iaload, 1) := by decide +kernel
theorem dX9_through_25 : decode cX9_through 25 = .ok (.iconst (-1), 1) := by decide +kernel
theorem dX9_through_26 : decode cX9_through 26 = .ok (.if_icmp .ne 5, 3) := by decide +kernel
theorem dX9_through_29 : decode cX9_through 29 = .ok (.iconst (-1), 1) := by decide +kernel
theorem dX9_through_30 : decode cX9_through 30 = .ok (.ireturn, 1) := by decide +kernel
theorem dX9_through_31 : decode cX9_through 31 = .ok (.iload_n 2, 1) := by decide +kernel
theorem dX9_through_32 : decode cX9_through 32 = .ok (.aload_n 0, 1) := by decide +kernel
theorem dX9_through_33 : decode cX9_through 33 = .ok (.getfield 15, 3) := by decide +kernel
theorem dX9_through_36 : decode cX9_through 36 = .ok (.iload_n 1, 1) := by decide +kernel
theorem dX9_through_37 : decode cX9_through 37 = .ok (.iaload, 1) := by decide +kernel
theorem dX9_through_38 : decode cX9_through 38 = .ok (.iadd, 1) := by decide +kernel
theorem dX9_through_39 : decode cX9_through 39 = .ok (.istore_n 3, 1) := by decide +kernel
theorem dX9_through_40 : decode cX9_through 40 = .ok (.iload_n 3, 1) := by decide +kernel
theorem dX9_through_41 : decode cX9_through 41 = .ok (.aload_n 0, 1) := by decide +kernel
theorem dX9_through_42 : decode cX9_through 42 = .ok (.getfield 21, 3) := by decide +kernel
theorem dX9_through_45 : decode cX9_through 45 = .ok (.iload_n 1, 1) := by decide +kernel
theorem dX9_through_46 : decode cX9_through 46 = .ok (.iaload, 1) := by decide +kernel
theorem dX9_through_47 : decode cX9_through 47 = .ok (.if_icmp .gt 7, 3) := by decide +kernel
theorem dX9_through_50 : decode cX9_through 50 = .ok (.iload_n 3, 1) := by decide +kernel
theorem dX9_through_51 : decode cX9_through 51 = .ok (.goto 4, 3) := by decide +kernel
theorem dX9_through_54 : decode cX9_through 54 = .ok (.iconst (-1), 1) := by decide +kernel
theorem dX9_through_55 : decode cX9_through 55 = .ok (.ireturn, 1) := by decide +kernel
theorem dX9_lastInto_0 : decode cX9_lastInto 0 = .ok (.iload_n 2, 1) := by decide +kernel
theorem dX9_lastInto_1 : decode cX9_lastInto 1 = .ok (.aload_n 0, 1) := by decide +kernel
theorem dX9_lastInto_2 : decode cX9_lastInto 2 = .ok (.getfield 21, 3) := by decide +kernel
theorem dX9_lastInto_5 : decode cX9_lastInto 5 = .ok (.iload_n 1, 1) := by decide +kernel
theorem dX9_lastInto_6 : decode cX9_lastInto 6 = .ok (.iaload, 1) := by decide +kernel
theorem dX9_lastInto_7 : decode cX9_lastInto 7 = .ok (.if_icmp .ge 7, 3) := by decide +kernel
theorem dX9_lastInto_10 : decode cX9_lastInto 10 = .ok (.iload_n 2, 1) := by decide +kernel
theorem dX9_lastInto_11 : decode cX9_lastInto 11 = .ok (.goto 9, 3) := by decide +kernel
theorem dX9_lastInto_14 : decode cX9_lastInto 14 = .ok (.aload_n 0, 1) := by decide +kernel
theorem dX9_lastInto_15 : decode cX9_lastInto 15 = .ok (.getfield 21, 3) := by decide +kernel
theorem dX9_lastInto_18 : decode cX9_lastInto 18 = .ok (.iload_n 1, 1) := by decide +kernel
theorem dX9_lastInto_19 : decode cX9_lastInto 19 = .ok (.iaload, 1) := by decide +kernel
theorem dX9_lastInto_20 : decode cX9_lastInto 20 = .ok (.istore_n 3, 1) := by decide +kernel
theorem dX9_lastInto_21 : decode cX9_lastInto 21 = .ok (.iload_n 3, 1) := by decide +kernel
theorem dX9_lastInto_22 : decode cX9_lastInto 22 = .ok (.aload_n 0, 1) := by decide +kernel
theorem dX9_lastInto_23 : decode cX9_lastInto 23 = .ok (.getfield 18, 3) := by decide +kernel
theorem dX9_lastInto_26 : decode cX9_lastInto 26 = .ok (.iload_n 1, 1) := by decide +kernel
theorem dX9_lastInto_27 : decode cX9_lastInto 27 = .ok (.iaload, 1) := by decide +kernel
theorem dX9_lastInto_28 : decode cX9_lastInto 28 = .ok (.if_icmp .ge 7, 3) := by decide +kernel
theorem dX9_lastInto_31 : decode cX9_lastInto 31 = .ok (.iload_n 3, 1) := by decide +kernel
theorem dX9_lastInto_32 : decode cX9_lastInto 32 = .ok (.goto 9, 3) := by decide +kernel
theorem dX9_lastInto_35 : decode cX9_lastInto 35 = .ok (.aload_n 0, 1) := by decide +kernel
theorem dX9_lastInto_36 : decode cX9_lastInto 36 = .ok (.getfield 18, 3) := by decide +kernel
theorem dX9_lastInto_39 : decode cX9_lastInto 39 = .ok (.iload_n 1, 1) := by decide +kernel
theorem dX9_lastInto_40 : decode cX9_lastInto 40 = .ok (.iaload, 1) := by decide +kernel
theorem dX9_lastInto_41 : decode cX9_lastInto 41 = .ok (.aload_n 0, 1) := by decide +kernel
theorem dX9_lastInto_42 : decode cX9_lastInto 42 = .ok (.getfield 9, 3) := by decide +kernel
theorem dX9_lastInto_45 : decode cX9_lastInto 45 = .ok (.iload_n 1, 1) := by decide +kernel
theorem dX9_lastInto_46 : decode cX9_lastInto 46 = .ok (.iaload, 1) := by decide +kernel
theorem dX9_lastInto_47 : decode cX9_lastInto 47 = .ok (.isub, 1) := by decide +kernel
theorem dX9_lastInto_48 : decode cX9_lastInto 48 = .ok (.istore 4, 2) := by decide +kernel
theorem dX9_lastInto_50 : decode cX9_lastInto 50 = .ok (.aload_n 0, 1) := by decide +kernel
theorem dX9_lastInto_51 : decode cX9_lastInto 51 = .ok (.getfield 15, 3) := by decide +kernel
theorem dX9_lastInto_54 : decode cX9_lastInto 54 = .ok (.iload_n 1, 1) := by decide +kernel
theorem dX9_lastInto_55 : decode cX9_lastInto 55 = .ok (.iaload, 1) := by decide +kernel
theorem dX9_lastInto_56 : decode cX9_lastInto 56 = .ok (.iconst (-1), 1) := by decide +kernel
theorem dX9_lastInto_57 : decode cX9_lastInto 57 = .ok (.if_icmp .eq 26, 3) := by decide +kernel
theorem dX9_lastInto_60 : decode cX9_lastInto 60 = .ok (.iload_n 3, 1) := by decide +kernel
theorem dX9_lastInto_61 : decode cX9_lastInto 61 = .ok (.aload_n 0, 1) := by decide +kernel
theorem dX9_lastInto_62 : decode cX9_lastInto 62 = .ok (.getfield 15, 3) := by decide +kernel
theorem dX9_lastInto_65 : decode cX9_lastInto 65 = .ok (.iload_n 1, 1) := by decide +kernel
theorem dX9_lastInto_66 : decode cX9_lastInto 66 = .ok (.iaload, 1) := by decide +kernel
theorem dX9_lastInto_67 : decode cX9_lastInto 67 = .ok (.isub, 1) := by decide +kernel
theorem dX9_lastInto_68 : decode cX9_lastInto 68 = .ok (.iload 4, 2) := by decide +kernel
theorem dX9_lastInto_70 : decode cX9_lastInto 70 = .ok (.if_icmp .le 13, 3) := by decide +kernel
theorem dX9_lastInto_73 : decode cX9_lastInto 73 = .ok (.iload_n 3, 1) := by decide +kernel
theorem dX9_lastInto_74 : decode cX9_lastInto 74 = .ok (.aload_n 0, 1) := by decide +kernel
theorem dX9_lastInto_75 : decode cX9_lastInto 75 = .ok (.getfield 15, 3) := by decide +kernel
theorem dX9_lastInto_78 : decode cX9_lastInto 78 = .ok (.iload_n 1, 1) := by decide +kernel
theorem dX9_lastInto_79 : decode cX9_lastInto 79 = .ok (.iaload, 1) := by decide +kernel
theorem dX9_lastInto_80 : decode cX9_lastInto 80 = .ok (.isub, 1) := by decide +kernel
theorem dX9_lastInto_81 : decode cX9_lastInto 81 = .ok (.istore 4, 2) := by decide +kernel
theorem dX9_lastInto_83 : decode cX9_lastInto 83 = .ok (.iload 4, 2) := by decide +kernel
theorem dX9_lastInto_85 : decode cX9_lastInto 85 = .ok (.ifCond .ge 7, 3) := by decide +kernel
theorem dX9_lastInto_88 : decode cX9_lastInto 88 = .ok (.iconst (-1), 1) := by decide +kernel
theorem dX9_lastInto_89 : decode cX9_lastInto 89 = .ok (.goto 5, 3) := by decide +kernel
theorem dX9_lastInto_92 : decode cX9_lastInto 92 = .ok (.iload 4, 2) := by decide +kernel
theorem dX9_lastInto_94 : decode cX9_lastInto 94 = .ok (.ireturn, 1) := by decide +kernel
theorem dX9_spread_0 : decode cX9_spread 0 = .ok (.aload_n 0, 1) := by decide +kernel
theorem dX9_spread_1 : decode cX9_spread 1 = .ok (.getfield 24, 3) := by decide +kernel
theorem dX9_spread_4 : decode cX9_spread 4 = .ok (.iconst (-1), 1) := by decide +kernel
theorem dX9_spread_5 : decode cX9_spread 5 = .ok (.invokestatic 67, 3) := by decide +kernel
theorem dX9_spread_8 : decode cX9_spread 8 = .ok (.aload_n 0, 1) := by decide +kernel
theorem dX9_spread_9 : decode cX9_spread 9 = .ok (.getfield 24, 3) := by decide +kernel
theorem dX9_spread_12 : decode cX9_spread 12 = .ok (.iload_n 1, 1) := by decide +kernel
theorem dX9_spread_13 : decode cX9_spread 13 = .ok (.iload_n 2, 1) := by decide +kernel
theorem dX9_spread_14 : decode cX9_spread 14 = .ok (.iastore, 1) := by decide +kernel
theorem dX9_spread_15 : decode cX9_spread 15 = .ok (.iconst 1, 1) := by decide +kernel
theorem dX9_spread_16 : decode cX9_spread 16 = .ok (.istore_n 3, 1) := by decide +kernel
theorem dX9_spread_17 : decode cX9_spread 17 = .ok (.iconst 0, 1) := by decide +kernel
theorem dX9_spread_18 : decode cX9_spread 18 = .ok (.istore 4, 2) := by decide +kernel
theorem dX9_spread_20 : decode cX9_spread 20 = .ok (.iload 4, 2) := by decide +kernel
theorem dX9_spread_22 : decode cX9_spread 22 = .ok (.bipush 12, 2) := by decide +kernel
theorem dX9_spread_24 : decode cX9_spread 24 = .ok (.if_icmp .ge 106, 3) := by decide +kernel
theorem dX9_spread_27 : decode cX9_spread 27 = .ok (.iload_n 3, 1) := by decide +kernel
theorem dX9_spread_28 : decode cX9_spread 28 = .ok (.ifCond .eq 102, 3) := by decide +kernel
theorem dX9_spread_31 : decode cX9_spread 31 = .ok (.iconst 0, 1) := by decide +kernel
theorem dX9_spread_32 : decode cX9_spread 32 = .ok (.istore_n 3, 1) := by decide +kernel
theorem dX9_spread_33 : decode cX9_spread 33 = .ok (.iconst 0, 1) := by decide +kernel
theorem dX9_spread_34 : decode cX9_spread 34 = .ok (.istore 5, 2) := by decide +kernel
theorem dX9_spread_36 : decode cX9_spread 36 = .ok (.iload 5, 2) := by decide +kernel
theorem dX9_spread_38 : decode cX9_spread 38 = .ok (.aload_n 0, 1) := by decide +kernel
theorem dX9_spread_39 : decode cX9_spread 39 = .ok (.getfield 30, 3) := by decide +kernel
theorem dX9_spread_42 : decode cX9_spread 42 = .ok (.getfield 42, 3) := by decide +kernel
theorem dX9_spread_45 : decode cX9_spread 45 = .ok (.if_icmp .ge 79, 3) := by decide +kernel
theorem dX9_spread_48 : decode cX9_spread 48 = .ok (.aload_n 0, 1) := by decide +kernel
theorem dX9_spread_49 : decode cX9_spread 49 = .ok (.getfield 30, 3) := by decide +kernel
theorem dX9_spread_52 : decode cX9_spread 52 = .ok (.iload 5, 2) := by decide +kernel
theorem dX9_spread_54 : decode cX9_spread 54 = .ok (.iconst 0, 1) := by decide +kernel
theorem dX9_spread_55 : decode cX9_spread 55 = .ok (.invokevirtual 48, 3) := by decide +kernel
theorem dX9_spread_58 : decode cX9_spread 58 = .ok (.istore 6, 2) := by decide +kernel
theorem dX9_spread_60 : decode cX9_spread 60 = .ok (.aload_n 0, 1) := by decide +kernel
theorem dX9_spread_61 : decode cX9_spread 61 = .ok (.getfield 30, 3) := by decide +kernel
theorem dX9_spread_64 : decode cX9_spread 64 = .ok (.iload 5, 2) := by decide +kernel
theorem dX9_spread_66 : decode cX9_spread 66 = .ok (.iconst 1, 1) := by decide +kernel
theorem dX9_spread_67 : decode cX9_spread 67 = .ok (.invokevirtual 48, 3) := by decide +kernel
theorem dX9_spread_70 : decode cX9_spread 70 = .ok (.istore 7, 2) := by decide +kernel
theorem dX9_spread_72 : decode cX9_spread 72 = .ok (.aload_n 0, 1) := by decide +kernel
theorem dX9_spread_73 : decode cX9_spread 73 = .ok (.iload 5, 2) := by decide +kernel
theorem dX9_spread_75 : decode cX9_spread 75 = .ok (.iload 6, 2) := by decide +kernel
theorem dX9_spread_77 : decode cX9_spread 77 = .ok (.iload 7, 2) := by decide +kernel
theorem dX9_spread_79 : decode cX9_spread 79 = .ok (.invokevirtual 73, 3) := by decide +kernel
theorem dX9_spread_82 : decode cX9_spread 82 = .ok (.ifCond .ne 7, 3) := by decide +kernel
theorem dX9_spread_85 : decode cX9_spread 85 = .ok (.iload_n 3, 1) := by decide +kernel
theorem dX9_spread_86 : decode cX9_spread 86 = .ok (.ifCond .eq 7, 3) := by decide +kernel
theorem dX9_spread_89 : decode cX9_spread 89 = .ok (.iconst 1, 1) := by decide +kernel
theorem dX9_spread_90 : decode cX9_spread 90 = .ok (.goto 4, 3) := by decide +kernel
theorem dX9_spread_93 : decode cX9_spread 93 = .ok (.iconst 0, 1) := by decide +kernel
theorem dX9_spread_94 : decode cX9_spread 94 = .ok (.istore_n 3, 1) := by decide +kernel
theorem dX9_spread_95 : decode cX9_spread 95 = .ok (.aload_n 0, 1) := by decide +kernel
theorem dX9_spread_96 : decode cX9_spread 96 = .ok (.iload 5, 2) := by decide +kernel
theorem dX9_spread_98 : decode cX9_spread 98 = .ok (.iload 7, 2) := by decide +kernel
theorem dX9_spread_100 : decode cX9_spread 100 = .ok (.iload 6, 2) := by decide +kernel
theorem dX9_spread_102 : decode cX9_spread 102 = .ok (.invokevirtual 73, 3) := by decide +kernel
theorem dX9_spread_105 : decode cX9_spread 105 = .ok (.ifCond .ne 7, 3) := by decide +kernel
theorem dX9_spread_108 : decode cX9_spread 108 = .ok (.iload_n 3, 1) := by decide +kernel
theorem dX9_spread_109 : decode cX9_spread 109 = .ok (.ifCond .eq 7, 3) := by decide +kernel
theorem dX9_spread_112 : decode cX9_spread 112 = .ok (.iconst 1, 1) := by decide +kernel
theorem dX9_spread_113 : decode cX9_spread 113 = .ok (.goto 4, 3) := by decide +kernel
theorem dX9_spread_116 : decode cX9_spread 116 = .ok (.iconst 0, 1) := by decide +kernel
theorem dX9_spread_117 : decode cX9_spread 117 = .ok (.istore_n 3, 1) := by decide +kernel
theorem dX9_spread_118 : decode cX9_spread 118 = .ok (.iinc 5 1, 3) := by decide +kernel
theorem dX9_spread_121 : decode cX9_spread 121 = .ok (.goto (-85), 3) := by decide +kernel
theorem dX9_spread_124 : decode cX9_spread 124 = .ok (.iinc 4 1, 3) := by decide +kernel
theorem dX9_spread_127 : decode cX9_spread 127 = .ok (.goto (-107), 3) := by decide +kernel
theorem dX9_spread_130 : decode cX9_spread 130 = .ok (.return_, 1) := by decide +kernel
theorem dX9_comesSooner_0 : decode cX9_comesSooner 0 = .ok (.aload_n 0, 1) := by decide +kernel
theorem dX9_comesSooner_1 : decode cX9_comesSooner 1 = .ok (.getfield 24, 3) := by decide +kernel
theorem dX9_comesSooner_4 : decode cX9_comesSooner 4 = .ok (.iload_n 2, 1) := by decide +kernel
theorem dX9_comesSooner_5 : decode cX9_comesSooner 5 = .ok (.iaload, 1) := by decide +kernel
theorem dX9_comesSooner_6 : decode cX9_comesSooner 6 = .ok (.iconst (-1), 1) := by decide +kernel
theorem dX9_comesSooner_7 : decode cX9_comesSooner 7 = .ok (.if_icmp .ne 5, 3) := by decide +kernel
theorem dX9_comesSooner_10 : decode cX9_comesSooner 10 = .ok (.iconst 0, 1) := by decide +kernel
theorem dX9_comesSooner_11 : decode cX9_comesSooner 11 = .ok (.ireturn, 1) := by decide +kernel
theorem dX9_comesSooner_12 : decode cX9_comesSooner 12 = .ok (.aload_n 0, 1) := by decide +kernel
theorem dX9_comesSooner_13 : decode cX9_comesSooner 13 = .ok (.iload_n 1, 1) := by decide +kernel
theorem dX9_comesSooner_14 : decode cX9_comesSooner 14 = .ok (.aload_n 0, 1) := by decide +kernel
theorem dX9_comesSooner_15 : decode cX9_comesSooner 15 = .ok (.getfield 24, 3) := by decide +kernel
theorem dX9_comesSooner_18 : decode cX9_comesSooner 18 = .ok (.iload_n 2, 1) := by decide +kernel
theorem dX9_comesSooner_19 : decode cX9_comesSooner 19 = .ok (.iaload, 1) := by decide +kernel
theorem dX9_comesSooner_20 : decode cX9_comesSooner 20 = .ok (.invokevirtual 77, 3) := by decide +kernel
theorem dX9_comesSooner_23 : decode cX9_comesSooner 23 = .ok (.istore 4, 2) := by decide +kernel
theorem dX9_comesSooner_25 : decode cX9_comesSooner 25 = .ok (.iload 4, 2) := by decide +kernel
theorem dX9_comesSooner_27 : decode cX9_comesSooner 27 = .ok (.iconst (-1), 1) := by decide +kernel
theorem dX9_comesSooner_28 : decode cX9_comesSooner 28 = .ok (.if_icmp .eq 24, 3) := by decide +kernel
theorem dX9_comesSooner_31 : decode cX9_comesSooner 31 = .ok (.aload_n 0, 1) := by decide +kernel
theorem dX9_comesSooner_32 : decode cX9_comesSooner 32 = .ok (.getfield 24, 3) := by decide +kernel
theorem dX9_comesSooner_35 : decode cX9_comesSooner 35 = .ok (.iload_n 3, 1) := by decide +kernel
theorem dX9_comesSooner_36 : decode cX9_comesSooner 36 = .ok (.iaload, 1) := by decide +kernel
theorem dX9_comesSooner_37 : decode cX9_comesSooner 37 = .ok (.iconst (-1), 1) := by decide +kernel
theorem dX9_comesSooner_38 : decode cX9_comesSooner 38 = .ok (.if_icmp .eq 16, 3) := by decide +kernel
theorem dX9_comesSooner_41 : decode cX9_comesSooner 41 = .ok (.aload_n 0, 1) := by decide +kernel
theorem dX9_comesSooner_42 : decode cX9_comesSooner 42 = .ok (.getfield 24, 3) := by decide +kernel
theorem dX9_comesSooner_45 : decode cX9_comesSooner 45 = .ok (.iload_n 3, 1) := by decide +kernel
theorem dX9_comesSooner_46 : decode cX9_comesSooner 46 = .ok (.iaload, 1) := by decide +kernel
theorem dX9_comesSooner_47 : decode cX9_comesSooner 47 = .ok (.iload 4, 2) := by decide +kernel
theorem dX9_comesSooner_49 : decode cX9_comesSooner 49 = .ok (.if_icmp .gt 5, 3) := by decide +kernel
theorem dX9_comesSooner_52 : decode cX9_comesSooner 52 = .ok (.iconst 0, 1) := by decide +kernel
theorem dX9_comesSooner_53 : decode cX9_comesSooner 53 = .ok (.ireturn, 1) := by decide +kernel
theorem dX9_comesSooner_54 : decode cX9_comesSooner 54 = .ok (.aload_n 0, 1) := by decide +kernel
theorem dX9_comesSooner_55 : decode cX9_comesSooner 55 = .ok (.getfield 24, 3) := by decide +kernel
theorem dX9_comesSooner_58 : decode cX9_comesSooner 58 = .ok (.iload_n 3, 1) := by decide +kernel
theorem dX9_comesSooner_59 : decode cX9_comesSooner 59 = .ok (.iload 4, 2) := by decide +kernel
theorem dX9_comesSooner_61 : decode cX9_comesSooner 61 = .ok (.iastore, 1) := by decide +kernel
theorem dX9_comesSooner_62 : decode cX9_comesSooner 62 = .ok (.iconst 1, 1) := by decide +kernel
theorem dX9_comesSooner_63 : decode cX9_comesSooner 63 = .ok (.ireturn, 1) := by decide +kernel
theorem dX9_gather_0 : decode cX9_gather 0 = .ok (.aload_n 0, 1) := by decide +kernel
theorem dX9_gather_1 : decode cX9_gather 1 = .ok (.getfield 27, 3) := by decide +kernel
theorem dX9_gather_4 : decode cX9_gather 4 = .ok (.iconst (-1), 1) := by decide +kernel
theorem dX9_gather_5 : decode cX9_gather 5 = .ok (.invokestatic 67, 3) := by decide +kernel
theorem dX9_gather_8 : decode cX9_gather 8 = .ok (.iload_n 1, 1) := by decide +kernel
theorem dX9_gather_9 : decode cX9_gather 9 = .ok (.iconst (-1), 1) := by decide +kernel
theorem dX9_gather_10 : decode cX9_gather 10 = .ok (.if_icmp .ne 4, 3) := by decide +kernel
theorem dX9_gather_13 : decode cX9_gather 13 = .ok (.return_, 1) := by decide +kernel
theorem dX9_gather_14 : decode cX9_gather 14 = .ok (.aload_n 0, 1) := by decide +kernel
theorem dX9_gather_15 : decode cX9_gather 15 = .ok (.getfield 27, 3) := by decide +kernel
theorem dX9_gather_18 : decode cX9_gather 18 = .ok (.iload_n 1, 1) := by decide +kernel
theorem dX9_gather_19 : decode cX9_gather 19 = .ok (.iload_n 2, 1) := by decide +kernel
theorem dX9_gather_20 : decode cX9_gather 20 = .ok (.iastore, 1) := by decide +kernel
theorem dX9_gather_21 : decode cX9_gather 21 = .ok (.iconst 1, 1) := by decide +kernel
theorem dX9_gather_22 : decode cX9_gather 22 = .ok (.istore_n 3, 1) := by decide +kernel
theorem dX9_gather_23 : decode cX9_gather 23 = .ok (.iconst 0, 1) := by decide +kernel
theorem dX9_gather_24 : decode cX9_gather 24 = .ok (.istore 4, 2) := by decide +kernel
theorem dX9_gather_26 : decode cX9_gather 26 = .ok (.iload 4, 2) := by decide +kernel
theorem dX9_gather_28 : decode cX9_gather 28 = .ok (.bipush 12, 2) := by decide +kernel
theorem dX9_gather_30 : decode cX9_gather 30 = .ok (.if_icmp .ge 106, 3) := by decide +kernel
theorem dX9_gather_33 : decode cX9_gather 33 = .ok (.iload_n 3, 1) := by decide +kernel
theorem dX9_gather_34 : decode cX9_gather 34 = .ok (.ifCond .eq 102, 3) := by decide +kernel
theorem dX9_gather_37 : decode cX9_gather 37 = .ok (.iconst 0, 1) := by decide +kernel
theorem dX9_gather_38 : decode cX9_gather 38 = .ok (.istore_n 3, 1) := by decide +kernel
theorem dX9_gather_39 : decode cX9_gather 39 = .ok (.iconst 0, 1) := by decide +kernel
theorem dX9_gather_40 : decode cX9_gather 40 = .ok (.istore 5, 2) := by decide +kernel
theorem dX9_gather_42 : decode cX9_gather 42 = .ok (.iload 5, 2) := by decide +kernel
theorem dX9_gather_44 : decode cX9_gather 44 = .ok (.aload_n 0, 1) := by decide +kernel
theorem dX9_gather_45 : decode cX9_gather 45 = .ok (.getfield 30, 3) := by decide +kernel
theorem dX9_gather_48 : decode cX9_gather 48 = .ok (.getfield 42, 3) := by decide +kernel
theorem dX9_gather_51 : decode cX9_gather 51 = .ok (.if_icmp .ge 79, 3) := by decide +kernel
theorem dX9_gather_54 : decode cX9_gather 54 = .ok (.aload_n 0, 1) := by decide +kernel
theorem dX9_gather_55 : decode cX9_gather 55 = .ok (.getfield 30, 3) := by decide +kernel
theorem dX9_gather_58 : decode cX9_gather 58 = .ok (.iload 5, 2) := by decide +kernel
theorem dX9_gather_60 : decode cX9_gather 60 = .ok (.iconst 0, 1) := by decide +kernel
theorem dX9_gather_61 : decode cX9_gather 61 = .ok (.invokevirtual 48, 3) := by decide +kernel
theorem dX9_gather_64 : decode cX9_gather 64 = .ok (.istore 6, 2) := by decide +kernel
theorem dX9_gather_66 : decode cX9_gather 66 = .ok (.aload_n 0, 1) := by decide +kernel
theorem dX9_gather_67 : decode cX9_gather 67 = .ok (.getfield 30, 3) := by decide +kernel
theorem dX9_gather_70 : decode cX9_gather 70 = .ok (.iload 5, 2) := by decide +kernel
theorem dX9_gather_72 : decode cX9_gather 72 = .ok (.iconst 1, 1) := by decide +kernel
theorem dX9_gather_73 : decode cX9_gather 73 = .ok (.invokevirtual 48, 3) := by decide +kernel
theorem dX9_gather_76 : decode cX9_gather 76 = .ok (.istore 7, 2) := by decide +kernel
theorem dX9_gather_78 : decode cX9_gather 78 = .ok (.aload_n 0, 1) := by decide +kernel
theorem dX9_gather_79 : decode cX9_gather 79 = .ok (.iload 5, 2) := by decide +kernel
theorem dX9_gather_81 : decode cX9_gather 81 = .ok (.iload 6, 2) := by decide +kernel
theorem dX9_gather_83 : decode cX9_gather 83 = .ok (.iload 7, 2) := by decide +kernel
theorem dX9_gather_85 : decode cX9_gather 85 = .ok (.invokevirtual 80, 3) := by decide +kernel
theorem dX9_gather_88 : decode cX9_gather 88 = .ok (.ifCond .ne 7, 3) := by decide +kernel
theorem dX9_gather_91 : decode cX9_gather 91 = .ok (.iload_n 3, 1) := by decide +kernel
theorem dX9_gather_92 : decode cX9_gather 92 = .ok (.ifCond .eq 7, 3) := by decide +kernel
theorem dX9_gather_95 : decode cX9_gather 95 = .ok (.iconst 1, 1) := by decide +kernel
theorem dX9_gather_96 : decode cX9_gather 96 = .ok (.goto 4, 3) := by decide +kernel
theorem dX9_gather_99 : decode cX9_gather 99 = .ok (.iconst 0, 1) := by decide +kernel
theorem dX9_gather_100 : decode cX9_gather 100 = .ok (.istore_n 3, 1) := by decide +kernel
theorem dX9_gather_101 : decode cX9_gather 101 = .ok (.aload_n 0, 1) := by decide +kernel
theorem dX9_gather_102 : decode cX9_gather 102 = .ok (.iload 5, 2) := by decide +kernel
theorem dX9_gather_104 : decode cX9_gather 104 = .ok (.iload 7, 2) := by decide +kernel
theorem dX9_gather_106 : decode cX9_gather 106 = .ok (.iload 6, 2) := by decide +kernel
theorem dX9_gather_108 : decode cX9_gather 108 = .ok (.invokevirtual 80, 3) := by decide +kernel
theorem dX9_gather_111 : decode cX9_gather 111 = .ok (.ifCond .ne 7, 3) := by decide +kernel
theorem dX9_gather_114 : decode cX9_gather 114 = .ok (.iload_n 3, 1) := by decide +kernel
theorem dX9_gather_115 : decode cX9_gather 115 = .ok (.ifCond .eq 7, 3) := by decide +kernel
theorem dX9_gather_118 : decode cX9_gather 118 = .ok (.iconst 1, 1) := by decide +kernel
theorem dX9_gather_119 : decode cX9_gather 119 = .ok (.goto 4, 3) := by decide +kernel
theorem dX9_gather_122 : decode cX9_gather 122 = .ok (.iconst 0, 1) := by decide +kernel
theorem dX9_gather_123 : decode cX9_gather 123 = .ok (.istore_n 3, 1) := by decide +kernel
theorem dX9_gather_124 : decode cX9_gather 124 = .ok (.iinc 5 1, 3) := by decide +kernel
theorem dX9_gather_127 : decode cX9_gather 127 = .ok (.goto (-85), 3) := by decide +kernel
theorem dX9_gather_130 : decode cX9_gather 130 = .ok (.iinc 4 1, 3) := by decide +kernel
theorem dX9_gather_133 : decode cX9_gather 133 = .ok (.goto (-107), 3) := by decide +kernel
theorem dX9_gather_136 : decode cX9_gather 136 = .ok (.return_, 1) := by decide +kernel
theorem dX9_leavesLater_0 : decode cX9_leavesLater 0 = .ok (.aload_n 0, 1) := by decide +kernel
theorem dX9_leavesLater_1 : decode cX9_leavesLater 1 = .ok (.getfield 27, 3) := by decide +kernel
theorem dX9_leavesLater_4 : decode cX9_leavesLater 4 = .ok (.iload_n 3, 1) := by decide +kernel
theorem dX9_leavesLater_5 : decode cX9_leavesLater 5 = .ok (.iaload, 1) := by decide +kernel
theorem dX9_leavesLater_6 : decode cX9_leavesLater 6 = .ok (.iconst (-1), 1) := by decide +kernel
theorem dX9_leavesLater_7 : decode cX9_leavesLater 7 = .ok (.if_icmp .ne 5, 3) := by decide +kernel
theorem dX9_leavesLater_10 : decode cX9_leavesLater 10 = .ok (.iconst 0, 1) := by decide +kernel
theorem dX9_leavesLater_11 : decode cX9_leavesLater 11 = .ok (.ireturn, 1) := by decide +kernel
theorem dX9_leavesLater_12 : decode cX9_leavesLater 12 = .ok (.aload_n 0, 1) := by decide +kernel
theorem dX9_leavesLater_13 : decode cX9_leavesLater 13 = .ok (.iload_n 1, 1) := by decide +kernel
theorem dX9_leavesLater_14 : decode cX9_leavesLater 14 = .ok (.aload_n 0, 1) := by decide +kernel
theorem dX9_leavesLater_15 : decode cX9_leavesLater 15 = .ok (.getfield 27, 3) := by decide +kernel
theorem dX9_leavesLater_18 : decode cX9_leavesLater 18 = .ok (.iload_n 3, 1) := by decide +kernel
theorem dX9_leavesLater_19 : decode cX9_leavesLater 19 = .ok (.iaload, 1) := by decide +kernel
theorem dX9_leavesLater_20 : decode cX9_leavesLater 20 = .ok (.invokevirtual 83, 3) := by decide +kernel
theorem dX9_leavesLater_23 : decode cX9_leavesLater 23 = .ok (.istore 4, 2) := by decide +kernel
theorem dX9_leavesLater_25 : decode cX9_leavesLater 25 = .ok (.iload 4, 2) := by decide +kernel
theorem dX9_leavesLater_27 : decode cX9_leavesLater 27 = .ok (.aload_n 0, 1) := by decide +kernel
theorem dX9_leavesLater_28 : decode cX9_leavesLater 28 = .ok (.getfield 27, 3) := by decide +kernel
theorem dX9_leavesLater_31 : decode cX9_leavesLater 31 = .ok (.iload_n 2, 1) := by decide +kernel
theorem dX9_leavesLater_32 : decode cX9_leavesLater 32 = .ok (.iaload, 1) := by decide +kernel
theorem dX9_leavesLater_33 : decode cX9_leavesLater 33 = .ok (.if_icmp .gt 5, 3) := by decide +kernel
theorem dX9_leavesLater_36 : decode cX9_leavesLater 36 = .ok (.iconst 0, 1) := by decide +kernel
theorem dX9_leavesLater_37 : decode cX9_leavesLater 37 = .ok (.ireturn, 1) := by decide +kernel
theorem dX9_leavesLater_38 : decode cX9_leavesLater 38 = .ok (.aload_n 0, 1) := by decide +kernel
theorem dX9_leavesLater_39 : decode cX9_leavesLater 39 = .ok (.getfield 27, 3) := by decide +kernel
theorem dX9_leavesLater_42 : decode cX9_leavesLater 42 = .ok (.iload_n 2, 1) := by decide +kernel
theorem dX9_leavesLater_43 : decode cX9_leavesLater 43 = .ok (.iload 4, 2) := by decide +kernel
theorem dX9_leavesLater_45 : decode cX9_leavesLater 45 = .ok (.iastore, 1) := by decide +kernel
theorem dX9_leavesLater_46 : decode cX9_leavesLater 46 = .ok (.iconst 1, 1) := by decide +kernel
theorem dX9_leavesLater_47 : decode cX9_leavesLater 47 = .ok (.ireturn, 1) := by decide +kernel
theorem dX9_choice_0 : decode cX9_choice 0 = .ok (.iconst (-1), 1) := by decide +kernel
theorem dX9_choice_1 : decode cX9_choice 1 = .ok (.istore 4, 2) := by decide +kernel
theorem dX9_choice_3 : decode cX9_choice 3 = .ok (.iconst (-1), 1) := by decide +kernel
theorem dX9_choice_4 : decode cX9_choice 4 = .ok (.istore 5, 2) := by decide +kernel
theorem dX9_choice_6 : decode cX9_choice 6 = .ok (.iconst 0, 1) := by decide +kernel
theorem dX9_choice_7 : decode cX9_choice 7 = .ok (.istore 6, 2) := by decide +kernel
theorem dX9_choice_9 : decode cX9_choice 9 = .ok (.iload 6, 2) := by decide +kernel
theorem dX9_choice_11 : decode cX9_choice 11 = .ok (.aload_n 0, 1) := by decide +kernel
theorem dX9_choice_12 : decode cX9_choice 12 = .ok (.getfield 30, 3) := by decide +kernel
theorem dX9_choice_15 : decode cX9_choice 15 = .ok (.getfield 42, 3) := by decide +kernel
theorem dX9_choice_18 : decode cX9_choice 18 = .ok (.if_icmp .ge 75, 3) := by decide +kernel
theorem dX9_choice_21 : decode cX9_choice 21 = .ok (.aload_n 0, 1) := by decide +kernel
theorem dX9_choice_22 : decode cX9_choice 22 = .ok (.getfield 30, 3) := by decide +kernel
theorem dX9_choice_25 : decode cX9_choice 25 = .ok (.iload 6, 2) := by decide +kernel
theorem dX9_choice_27 : decode cX9_choice 27 = .ok (.iload_n 1, 1) := by decide +kernel
theorem dX9_choice_28 : decode cX9_choice 28 = .ok (.invokevirtual 52, 3) := by decide +kernel
theorem dX9_choice_31 : decode cX9_choice 31 = .ok (.ifCond .eq 56, 3) := by decide +kernel
theorem dX9_choice_34 : decode cX9_choice 34 = .ok (.aload_n 0, 1) := by decide +kernel
theorem dX9_choice_35 : decode cX9_choice 35 = .ok (.getfield 30, 3) := by decide +kernel
theorem dX9_choice_38 : decode cX9_choice 38 = .ok (.iload 6, 2) := by decide +kernel
theorem dX9_choice_40 : decode cX9_choice 40 = .ok (.iload_n 1, 1) := by decide +kernel
theorem dX9_choice_41 : decode cX9_choice 41 = .ok (.invokevirtual 86, 3) := by decide +kernel
theorem dX9_choice_44 : decode cX9_choice 44 = .ok (.iload_n 2, 1) := by decide +kernel
theorem dX9_choice_45 : decode cX9_choice 45 = .ok (.if_icmp .eq 6, 3) := by decide +kernel
theorem dX9_choice_48 : decode cX9_choice 48 = .ok (.goto 39, 3) := by decide +kernel
theorem dX9_choice_51 : decode cX9_choice 51 = .ok (.aload_n 0, 1) := by decide +kernel
theorem dX9_choice_52 : decode cX9_choice 52 = .ok (.iload 6, 2) := by decide +kernel
theorem dX9_choice_54 : decode cX9_choice 54 = .ok (.iload_n 3, 1) := by decide +kernel
theorem dX9_choice_55 : decode cX9_choice 55 = .ok (.invokevirtual 77, 3) := by decide +kernel
theorem dX9_choice_58 : decode cX9_choice 58 = .ok (.istore 7, 2) := by decide +kernel
theorem dX9_choice_60 : decode cX9_choice 60 = .ok (.iload 7, 2) := by decide +kernel
theorem dX9_choice_62 : decode cX9_choice 62 = .ok (.iconst (-1), 1) := by decide +kernel
theorem dX9_choice_63 : decode cX9_choice 63 = .ok (.if_icmp .eq 24, 3) := by decide +kernel
theorem dX9_choice_66 : decode cX9_choice 66 = .ok (.iload 4, 2) := by decide +kernel
theorem dX9_choice_68 : decode cX9_choice 68 = .ok (.iconst (-1), 1) := by decide +kernel
theorem dX9_choice_69 : decode cX9_choice 69 = .ok (.if_icmp .eq 10, 3) := by decide +kernel
theorem dX9_choice_72 : decode cX9_choice 72 = .ok (.iload 7, 2) := by decide +kernel
theorem dX9_choice_74 : decode cX9_choice 74 = .ok (.iload 5, 2) := by decide +kernel
theorem dX9_choice_76 : decode cX9_choice 76 = .ok (.if_icmp .ge 11, 3) := by decide +kernel
theorem dX9_choice_79 : decode cX9_choice 79 = .ok (.iload 6, 2) := by decide +kernel
theorem dX9_choice_81 : decode cX9_choice 81 = .ok (.istore 4, 2) := by decide +kernel
theorem dX9_choice_83 : decode cX9_choice 83 = .ok (.iload 7, 2) := by decide +kernel
theorem dX9_choice_85 : decode cX9_choice 85 = .ok (.istore 5, 2) := by decide +kernel
theorem dX9_choice_87 : decode cX9_choice 87 = .ok (.iinc 6 1, 3) := by decide +kernel
theorem dX9_choice_90 : decode cX9_choice 90 = .ok (.goto (-81), 3) := by decide +kernel
theorem dX9_choice_93 : decode cX9_choice 93 = .ok (.iload 4, 2) := by decide +kernel
theorem dX9_choice_95 : decode cX9_choice 95 = .ok (.ireturn, 1) := by decide +kernel
theorem dX9_countWaysFrom_0 : decode cX9_countWaysFrom 0 = .ok (.iconst 0, 1) := by decide +kernel
theorem dX9_countWaysFrom_1 : decode cX9_countWaysFrom 1 = .ok (.istore_n 2, 1) := by decide +kernel
theorem dX9_countWaysFrom_2 : decode cX9_countWaysFrom 2 = .ok (.iload_n 2, 1) := by decide +kernel
theorem dX9_countWaysFrom_3 : decode cX9_countWaysFrom 3 = .ok (.aload_n 0, 1) := by decide +kernel
theorem dX9_countWaysFrom_4 : decode cX9_countWaysFrom 4 = .ok (.getfield 30, 3) := by decide +kernel
theorem dX9_countWaysFrom_7 : decode cX9_countWaysFrom 7 = .ok (.getfield 42, 3) := by decide +kernel
theorem dX9_countWaysFrom_10 : decode cX9_countWaysFrom 10 = .ok (.if_icmp .ge 55, 3) := by decide +kernel
theorem dX9_countWaysFrom_13 : decode cX9_countWaysFrom 13 = .ok (.aload_n 0, 1) := by decide +kernel
theorem dX9_countWaysFrom_14 : decode cX9_countWaysFrom 14 = .ok (.getfield 9, 3) := by decide +kernel
theorem dX9_countWaysFrom_17 : decode cX9_countWaysFrom 17 = .ok (.iload_n 2, 1) := by decide +kernel
theorem dX9_countWaysFrom_18 : decode cX9_countWaysFrom 18 = .ok (.iconst 1, 1) := by decide +kernel
theorem dX9_countWaysFrom_19 : decode cX9_countWaysFrom 19 = .ok (.iastore, 1) := by decide +kernel
theorem dX9_countWaysFrom_20 : decode cX9_countWaysFrom 20 = .ok (.aload_n 0, 1) := by decide +kernel
theorem dX9_countWaysFrom_21 : decode cX9_countWaysFrom 21 = .ok (.getfield 15, 3) := by decide +kernel
theorem dX9_countWaysFrom_24 : decode cX9_countWaysFrom 24 = .ok (.iload_n 2, 1) := by decide +kernel
theorem dX9_countWaysFrom_25 : decode cX9_countWaysFrom 25 = .ok (.iconst (-1), 1) := by decide +kernel
theorem dX9_countWaysFrom_26 : decode cX9_countWaysFrom 26 = .ok (.iastore, 1) := by decide +kernel
theorem dX9_countWaysFrom_27 : decode cX9_countWaysFrom 27 = .ok (.aload_n 0, 1) := by decide +kernel
theorem dX9_countWaysFrom_28 : decode cX9_countWaysFrom 28 = .ok (.getfield 18, 3) := by decide +kernel
theorem dX9_countWaysFrom_31 : decode cX9_countWaysFrom 31 = .ok (.iload_n 2, 1) := by decide +kernel
theorem dX9_countWaysFrom_32 : decode cX9_countWaysFrom 32 = .ok (.bipush 99, 2) := by decide +kernel
theorem dX9_countWaysFrom_34 : decode cX9_countWaysFrom 34 = .ok (.iastore, 1) := by decide +kernel
theorem dX9_countWaysFrom_35 : decode cX9_countWaysFrom 35 = .ok (.aload_n 0, 1) := by decide +kernel
theorem dX9_countWaysFrom_36 : decode cX9_countWaysFrom 36 = .ok (.getfield 21, 3) := by decide +kernel
theorem dX9_countWaysFrom_39 : decode cX9_countWaysFrom 39 = .ok (.iload_n 2, 1) := by decide +kernel
theorem dX9_countWaysFrom_40 : decode cX9_countWaysFrom 40 = .ok (.aload_n 0, 1) := by decide +kernel
theorem dX9_countWaysFrom_41 : decode cX9_countWaysFrom 41 = .ok (.getfield 34, 3) := by decide +kernel
theorem dX9_countWaysFrom_44 : decode cX9_countWaysFrom 44 = .ok (.getfield 61, 3) := by decide +kernel
theorem dX9_countWaysFrom_47 : decode cX9_countWaysFrom 47 = .ok (.iload_n 2, 1) := by decide +kernel
theorem dX9_countWaysFrom_48 : decode cX9_countWaysFrom 48 = .ok (.baload, 1) := by decide +kernel
theorem dX9_countWaysFrom_49 : decode cX9_countWaysFrom 49 = .ok (.ifCond .eq 7, 3) := by decide +kernel
theorem dX9_countWaysFrom_52 : decode cX9_countWaysFrom 52 = .ok (.iconst (-1), 1) := by decide +kernel
theorem dX9_countWaysFrom_53 : decode cX9_countWaysFrom 53 = .ok (.goto 5, 3) := by decide +kernel
theorem dX9_countWaysFrom_56 : decode cX9_countWaysFrom 56 = .ok (.bipush 99, 2) := by decide +kernel
theorem dX9_countWaysFrom_58 : decode cX9_countWaysFrom 58 = .ok (.iastore, 1) := by decide +kernel
theorem dX9_countWaysFrom_59 : decode cX9_countWaysFrom 59 = .ok (.iinc 2 1, 3) := by decide +kernel
theorem dX9_countWaysFrom_62 : decode cX9_countWaysFrom 62 = .ok (.goto (-60), 3) := by decide +kernel
theorem dX9_countWaysFrom_65 : decode cX9_countWaysFrom 65 = .ok (.aload_n 0, 1) := by decide +kernel
theorem dX9_countWaysFrom_66 : decode cX9_countWaysFrom 66 = .ok (.iload_n 1, 1) := by decide +kernel
theorem dX9_countWaysFrom_67 : decode cX9_countWaysFrom 67 = .ok (.iconst 0, 1) := by decide +kernel
theorem dX9_countWaysFrom_68 : decode cX9_countWaysFrom 68 = .ok (.invokevirtual 89, 3) := by decide +kernel
theorem dX9_countWaysFrom_71 : decode cX9_countWaysFrom 71 = .ok (.return_, 1) := by decide +kernel
