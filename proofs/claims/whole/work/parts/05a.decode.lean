theorem dX0_init_0 : decode cX0_init 0 = .ok (.aload_n 0, 1) := by decide +kernel
theorem dX0_init_1 : decode cX0_init 1 = .ok (.invokespecial 3, 3) := by decide +kernel
theorem dX0_init_4 : decode cX0_init 4 = .ok (.aload_n 0, 1) := by decide +kernel
theorem dX0_init_5 : decode cX0_init 5 = .ok (.iconst 4, 1) := by decide +kernel
theorem dX0_init_6 : decode cX0_init 6 = .ok (.putfield 9, 3) := by decide +kernel
theorem dX0_init_9 : decode cX0_init 9 = .ok (.aload_n 0, 1) := by decide +kernel
theorem dX0_init_10 : decode cX0_init 10 = .ok (.iconst 0, 1) := by decide +kernel
theorem dX0_init_11 : decode cX0_init 11 = .ok (.putfield 15, 3) := by decide +kernel
theorem dX0_init_14 : decode cX0_init 14 = .ok (.aload_n 0, 1) := by decide +kernel
theorem dX0_init_15 : decode cX0_init 15 = .ok (.bipush 6, 2) := by decide +kernel
theorem dX0_init_17 : decode cX0_init 17 = .ok (.newarray .int, 2) := by decide +kernel
theorem dX0_init_19 : decode cX0_init 19 = .ok (.putfield 18, 3) := by decide +kernel
theorem dX0_init_22 : decode cX0_init 22 = .ok (.aload_n 0, 1) := by decide +kernel
theorem dX0_init_23 : decode cX0_init 23 = .ok (.new 22, 3) := by decide +kernel
theorem dX0_init_26 : decode cX0_init 26 = .ok (.dup, 1) := by decide +kernel
theorem dX0_init_27 : decode cX0_init 27 = .ok (.invokespecial 24, 3) := by decide +kernel
theorem dX0_init_30 : decode cX0_init 30 = .ok (.putfield 25, 3) := by decide +kernel
theorem dX0_init_33 : decode cX0_init 33 = .ok (.aload_n 0, 1) := by decide +kernel
theorem dX0_init_34 : decode cX0_init 34 = .ok (.iconst 0, 1) := by decide +kernel
theorem dX0_init_35 : decode cX0_init 35 = .ok (.putfield 29, 3) := by decide +kernel
theorem dX0_init_38 : decode cX0_init 38 = .ok (.aload_n 0, 1) := by decide +kernel
theorem dX0_init_39 : decode cX0_init 39 = .ok (.bipush 8, 2) := by decide +kernel
theorem dX0_init_41 : decode cX0_init 41 = .ok (.newarray .int, 2) := by decide +kernel
theorem dX0_init_43 : decode cX0_init 43 = .ok (.putfield 32, 3) := by decide +kernel
theorem dX0_init_46 : decode cX0_init 46 = .ok (.aload_n 0, 1) := by decide +kernel
theorem dX0_init_47 : decode cX0_init 47 = .ok (.bipush 8, 2) := by decide +kernel
theorem dX0_init_49 : decode cX0_init 49 = .ok (.newarray .int, 2) := by decide +kernel
theorem dX0_init_51 : decode cX0_init 51 = .ok (.putfield 35, 3) := by decide +kernel
theorem dX0_init_54 : decode cX0_init 54 = .ok (.aload_n 0, 1) := by decide +kernel
theorem dX0_init_55 : decode cX0_init 55 = .ok (.iconst 0, 1) := by decide +kernel
theorem dX0_init_56 : decode cX0_init 56 = .ok (.putfield 38, 3) := by decide +kernel
theorem dX0_init_59 : decode cX0_init 59 = .ok (.return_, 1) := by decide +kernel
theorem dX0_restart_0 : decode cX0_restart 0 = .ok (.aload_n 0, 1) := by decide +kernel
theorem dX0_restart_1 : decode cX0_restart 1 = .ok (.iload_n 1, 1) := by decide +kernel
theorem dX0_restart_2 : decode cX0_restart 2 = .ok (.putfield 9, 3) := by decide +kernel
theorem dX0_restart_5 : decode cX0_restart 5 = .ok (.aload_n 0, 1) := by decide +kernel
theorem dX0_restart_6 : decode cX0_restart 6 = .ok (.iconst 0, 1) := by decide +kernel
theorem dX0_restart_7 : decode cX0_restart 7 = .ok (.putfield 15, 3) := by decide +kernel
theorem dX0_restart_10 : decode cX0_restart 10 = .ok (.iconst 0, 1) := by decide +kernel
theorem dX0_restart_11 : decode cX0_restart 11 = .ok (.istore_n 2, 1) := by decide +kernel
theorem dX0_restart_12 : decode cX0_restart 12 = .ok (.iload_n 2, 1) := by decide +kernel
theorem dX0_restart_13 : decode cX0_restart 13 = .ok (.bipush 6, 2) := by decide +kernel
theorem dX0_restart_15 : decode cX0_restart 15 = .ok (.if_icmp .ge 18, 3) := by decide +kernel
theorem dX0_restart_18 : decode cX0_restart 18 = .ok (.aload_n 0, 1) := by decide +kernel
theorem dX0_restart_19 : decode cX0_restart 19 = .ok (.getfield 18, 3) := by decide +kernel
theorem dX0_restart_22 : decode cX0_restart 22 = .ok (.iload_n 2, 1) := by decide +kernel
theorem dX0_restart_23 : decode cX0_restart 23 = .ok (.iconst 0, 1) := by decide +kernel
theorem dX0_restart_24 : decode cX0_restart 24 = .ok (.invokestatic 42, 3) := by decide +kernel
theorem dX0_restart_27 : decode cX0_restart 27 = .ok (.iinc 2 1, 3) := by decide +kernel
theorem dX0_restart_30 : decode cX0_restart 30 = .ok (.goto (-18), 3) := by decide +kernel
theorem dX0_restart_33 : decode cX0_restart 33 = .ok (.aload_n 0, 1) := by decide +kernel
theorem dX0_restart_34 : decode cX0_restart 34 = .ok (.getfield 25, 3) := by decide +kernel
theorem dX0_restart_37 : decode cX0_restart 37 = .ok (.invokevirtual 46, 3) := by decide +kernel
theorem dX0_restart_40 : decode cX0_restart 40 = .ok (.aload_n 0, 1) := by decide +kernel
theorem dX0_restart_41 : decode cX0_restart 41 = .ok (.iconst 0, 1) := by decide +kernel
theorem dX0_restart_42 : decode cX0_restart 42 = .ok (.putfield 29, 3) := by decide +kernel
theorem dX0_restart_45 : decode cX0_restart 45 = .ok (.return_, 1) := by decide +kernel
theorem dX0_copyFrom_0 : decode cX0_copyFrom 0 = .ok (.aload_n 0, 1) := by decide +kernel
theorem dX0_copyFrom_1 : decode cX0_copyFrom 1 = .ok (.aload_n 1, 1) := by decide +kernel
theorem dX0_copyFrom_2 : decode cX0_copyFrom 2 = .ok (.getfield 9, 3) := by decide +kernel
theorem dX0_copyFrom_5 : decode cX0_copyFrom 5 = .ok (.putfield 9, 3) := by decide +kernel
theorem dX0_copyFrom_8 : decode cX0_copyFrom 8 = .ok (.aload_n 0, 1) := by decide +kernel
theorem dX0_copyFrom_9 : decode cX0_copyFrom 9 = .ok (.aload_n 1, 1) := by decide +kernel
theorem dX0_copyFrom_10 : decode cX0_copyFrom 10 = .ok (.getfield 15, 3) := by decide +kernel
theorem dX0_copyFrom_13 : decode cX0_copyFrom 13 = .ok (.putfield 15, 3) := by decide +kernel
theorem dX0_copyFrom_16 : decode cX0_copyFrom 16 = .ok (.aload_n 1, 1) := by decide +kernel
theorem dX0_copyFrom_17 : decode cX0_copyFrom 17 = .ok (.getfield 18, 3) := by decide +kernel
theorem dX0_copyFrom_20 : decode cX0_copyFrom 20 = .ok (.aload_n 0, 1) := by decide +kernel
theorem dX0_copyFrom_21 : decode cX0_copyFrom 21 = .ok (.getfield 18, 3) := by decide +kernel
theorem dX0_copyFrom_24 : decode cX0_copyFrom 24 = .ok (.invokestatic 49, 3) := by decide +kernel
theorem dX0_copyFrom_27 : decode cX0_copyFrom 27 = .ok (.aload_n 0, 1) := by decide +kernel
theorem dX0_copyFrom_28 : decode cX0_copyFrom 28 = .ok (.getfield 25, 3) := by decide +kernel
theorem dX0_copyFrom_31 : decode cX0_copyFrom 31 = .ok (.aload_n 1, 1) := by decide +kernel
theorem dX0_copyFrom_32 : decode cX0_copyFrom 32 = .ok (.getfield 25, 3) := by decide +kernel
theorem dX0_copyFrom_35 : decode cX0_copyFrom 35 = .ok (.invokevirtual 53, 3) := by decide +kernel
theorem dX0_copyFrom_38 : decode cX0_copyFrom 38 = .ok (.aload_n 0, 1) := by decide +kernel
theorem dX0_copyFrom_39 : decode cX0_copyFrom 39 = .ok (.aload_n 1, 1) := by decide +kernel
theorem dX0_copyFrom_40 : decode cX0_copyFrom 40 = .ok (.getfield 29, 3) := by decide +kernel
theorem dX0_copyFrom_43 : decode cX0_copyFrom 43 = .ok (.putfield 29, 3) := by decide +kernel
theorem dX0_copyFrom_46 : decode cX0_copyFrom 46 = .ok (.aload_n 1, 1) := by decide +kernel
theorem dX0_copyFrom_47 : decode cX0_copyFrom 47 = .ok (.getfield 32, 3) := by decide +kernel
theorem dX0_copyFrom_50 : decode cX0_copyFrom 50 = .ok (.aload_n 0, 1) := by decide +kernel
theorem dX0_copyFrom_51 : decode cX0_copyFrom 51 = .ok (.getfield 32, 3) := by decide +kernel
theorem dX0_copyFrom_54 : decode cX0_copyFrom 54 = .ok (.invokestatic 49, 3) := by decide +kernel
theorem dX0_copyFrom_57 : decode cX0_copyFrom 57 = .ok (.aload_n 1, 1) := by decide +kernel
theorem dX0_copyFrom_58 : decode cX0_copyFrom 58 = .ok (.getfield 35, 3) := by decide +kernel
theorem dX0_copyFrom_61 : decode cX0_copyFrom 61 = .ok (.aload_n 0, 1) := by decide +kernel
theorem dX0_copyFrom_62 : decode cX0_copyFrom 62 = .ok (.getfield 35, 3) := by decide +kernel
theorem dX0_copyFrom_65 : decode cX0_copyFrom 65 = .ok (.invokestatic 49, 3) := by decide +kernel
theorem dX0_copyFrom_68 : decode cX0_copyFrom 68 = .ok (.return_, 1) := by decide +kernel
theorem dX0_temperOf_0 : decode cX0_temperOf 0 = .ok (.aload_n 0, 1) := by decide +kernel
theorem dX0_temperOf_1 : decode cX0_temperOf 1 = .ok (.getfield 18, 3) := by decide +kernel
theorem dX0_temperOf_4 : decode cX0_temperOf 4 = .ok (.iload_n 1, 1) := by decide +kernel
theorem dX0_temperOf_5 : decode cX0_temperOf 5 = .ok (.invokestatic 57, 3) := by decide +kernel
theorem dX0_temperOf_8 : decode cX0_temperOf 8 = .ok (.ireturn, 1) := by decide +kernel
theorem dX0_countWithout_0 : decode cX0_countWithout 0 = .ok (.iconst 0, 1) := by decide +kernel
theorem dX0_countWithout_1 : decode cX0_countWithout 1 = .ok (.istore_n 2, 1) := by decide +kernel
theorem dX0_countWithout_2 : decode cX0_countWithout 2 = .ok (.iconst 0, 1) := by decide +kernel
theorem dX0_countWithout_3 : decode cX0_countWithout 3 = .ok (.istore_n 3, 1) := by decide +kernel
theorem dX0_countWithout_4 : decode cX0_countWithout 4 = .ok (.iload_n 3, 1) := by decide +kernel
theorem dX0_countWithout_5 : decode cX0_countWithout 5 = .ok (.bipush 6, 2) := by decide +kernel
theorem dX0_countWithout_7 : decode cX0_countWithout 7 = .ok (.if_icmp .ge 21, 3) := by decide +kernel
theorem dX0_countWithout_10 : decode cX0_countWithout 10 = .ok (.aload_n 0, 1) := by decide +kernel
theorem dX0_countWithout_11 : decode cX0_countWithout 11 = .ok (.iload_n 3, 1) := by decide +kernel
theorem dX0_countWithout_12 : decode cX0_countWithout 12 = .ok (.invokevirtual 61, 3) := by decide +kernel
theorem dX0_countWithout_15 : decode cX0_countWithout 15 = .ok (.iload_n 1, 1) := by decide +kernel
theorem dX0_countWithout_16 : decode cX0_countWithout 16 = .ok (.if_icmp .eq 6, 3) := by decide +kernel
theorem dX0_countWithout_19 : decode cX0_countWithout 19 = .ok (.iinc 2 1, 3) := by decide +kernel
theorem dX0_countWithout_22 : decode cX0_countWithout 22 = .ok (.iinc 3 1, 3) := by decide +kernel
theorem dX0_countWithout_25 : decode cX0_countWithout 25 = .ok (.goto (-21), 3) := by decide +kernel
theorem dX0_countWithout_28 : decode cX0_countWithout 28 = .ok (.iload_n 2, 1) := by decide +kernel
theorem dX0_countWithout_29 : decode cX0_countWithout 29 = .ok (.ireturn, 1) := by decide +kernel
theorem dX0_addSight_0 : decode cX0_addSight 0 = .ok (.aload_n 0, 1) := by decide +kernel
theorem dX0_addSight_1 : decode cX0_addSight 1 = .ok (.getfield 29, 3) := by decide +kernel
theorem dX0_addSight_4 : decode cX0_addSight 4 = .ok (.bipush 8, 2) := by decide +kernel
theorem dX0_addSight_6 : decode cX0_addSight 6 = .ok (.if_icmp .lt 6, 3) := by decide +kernel
theorem dX0_addSight_9 : decode cX0_addSight 9 = .ok (.bipush (-4), 2) := by decide +kernel
theorem dX0_addSight_11 : decode cX0_addSight 11 = .ok (.ireturn, 1) := by decide +kernel
theorem dX0_addSight_12 : decode cX0_addSight 12 = .ok (.aload_n 0, 1) := by decide +kernel
theorem dX0_addSight_13 : decode cX0_addSight 13 = .ok (.getfield 32, 3) := by decide +kernel
theorem dX0_addSight_16 : decode cX0_addSight 16 = .ok (.aload_n 0, 1) := by decide +kernel
theorem dX0_addSight_17 : decode cX0_addSight 17 = .ok (.getfield 29, 3) := by decide +kernel
theorem dX0_addSight_20 : decode cX0_addSight 20 = .ok (.iload_n 1, 1) := by decide +kernel
theorem dX0_addSight_21 : decode cX0_addSight 21 = .ok (.invokestatic 42, 3) := by decide +kernel
theorem dX0_addSight_24 : decode cX0_addSight 24 = .ok (.aload_n 0, 1) := by decide +kernel
theorem dX0_addSight_25 : decode cX0_addSight 25 = .ok (.getfield 35, 3) := by decide +kernel
theorem dX0_addSight_28 : decode cX0_addSight 28 = .ok (.aload_n 0, 1) := by decide +kernel
theorem dX0_addSight_29 : decode cX0_addSight 29 = .ok (.getfield 29, 3) := by decide +kernel
theorem dX0_addSight_32 : decode cX0_addSight 32 = .ok (.iload_n 2, 1) := by decide +kernel
theorem dX0_addSight_33 : decode cX0_addSight 33 = .ok (.invokestatic 42, 3) := by decide +kernel
theorem dX0_addSight_36 : decode cX0_addSight 36 = .ok (.aload_n 0, 1) := by decide +kernel
theorem dX0_addSight_37 : decode cX0_addSight 37 = .ok (.dup, 1) := by decide +kernel
theorem dX0_addSight_38 : decode cX0_addSight 38 = .ok (.getfield 29, 3) := by decide +kernel
theorem dX0_addSight_41 : decode cX0_addSight 41 = .ok (.iconst 1, 1) := by decide +kernel
theorem dX0_addSight_42 : decode cX0_addSight 42 = .ok (.iadd, 1) := by decide +kernel
theorem dX0_addSight_43 : decode cX0_addSight 43 = .ok (.putfield 29, 3) := by decide +kernel
theorem dX0_addSight_46 : decode cX0_addSight 46 = .ok (.aload_n 0, 1) := by decide +kernel
theorem dX0_addSight_47 : decode cX0_addSight 47 = .ok (.getfield 29, 3) := by decide +kernel
theorem dX0_addSight_50 : decode cX0_addSight 50 = .ok (.ireturn, 1) := by decide +kernel
theorem dX0_sightsFit_0 : decode cX0_sightsFit 0 = .ok (.iconst 0, 1) := by decide +kernel
theorem dX0_sightsFit_1 : decode cX0_sightsFit 1 = .ok (.istore_n 2, 1) := by decide +kernel
theorem dX0_sightsFit_2 : decode cX0_sightsFit 2 = .ok (.iload_n 2, 1) := by decide +kernel
theorem dX0_sightsFit_3 : decode cX0_sightsFit 3 = .ok (.aload_n 0, 1) := by decide +kernel
theorem dX0_sightsFit_4 : decode cX0_sightsFit 4 = .ok (.getfield 29, 3) := by decide +kernel
theorem dX0_sightsFit_7 : decode cX0_sightsFit 7 = .ok (.if_icmp .ge 47, 3) := by decide +kernel
theorem dX0_sightsFit_10 : decode cX0_sightsFit 10 = .ok (.aload_n 0, 1) := by decide +kernel
theorem dX0_sightsFit_11 : decode cX0_sightsFit 11 = .ok (.getfield 32, 3) := by decide +kernel
theorem dX0_sightsFit_14 : decode cX0_sightsFit 14 = .ok (.iload_n 2, 1) := by decide +kernel
theorem dX0_sightsFit_15 : decode cX0_sightsFit 15 = .ok (.invokestatic 57, 3) := by decide +kernel
theorem dX0_sightsFit_18 : decode cX0_sightsFit 18 = .ok (.istore_n 3, 1) := by decide +kernel
theorem dX0_sightsFit_19 : decode cX0_sightsFit 19 = .ok (.iload_n 3, 1) := by decide +kernel
theorem dX0_sightsFit_20 : decode cX0_sightsFit 20 = .ok (.aload_n 1, 1) := by decide +kernel
theorem dX0_sightsFit_21 : decode cX0_sightsFit 21 = .ok (.getfield 65, 3) := by decide +kernel
theorem dX0_sightsFit_24 : decode cX0_sightsFit 24 = .ok (.if_icmp .gt 22, 3) := by decide +kernel
theorem dX0_sightsFit_27 : decode cX0_sightsFit 27 = .ok (.aload_n 1, 1) := by decide +kernel
theorem dX0_sightsFit_28 : decode cX0_sightsFit 28 = .ok (.getfield 70, 3) := by decide +kernel
theorem dX0_sightsFit_31 : decode cX0_sightsFit 31 = .ok (.iload_n 3, 1) := by decide +kernel
theorem dX0_sightsFit_32 : decode cX0_sightsFit 32 = .ok (.invokestatic 57, 3) := by decide +kernel
theorem dX0_sightsFit_35 : decode cX0_sightsFit 35 = .ok (.aload_n 0, 1) := by decide +kernel
theorem dX0_sightsFit_36 : decode cX0_sightsFit 36 = .ok (.getfield 35, 3) := by decide +kernel
theorem dX0_sightsFit_39 : decode cX0_sightsFit 39 = .ok (.iload_n 2, 1) := by decide +kernel
theorem dX0_sightsFit_40 : decode cX0_sightsFit 40 = .ok (.invokestatic 57, 3) := by decide +kernel
theorem dX0_sightsFit_43 : decode cX0_sightsFit 43 = .ok (.if_icmp .eq 5, 3) := by decide +kernel
theorem dX0_sightsFit_46 : decode cX0_sightsFit 46 = .ok (.iconst 0, 1) := by decide +kernel
theorem dX0_sightsFit_47 : decode cX0_sightsFit 47 = .ok (.ireturn, 1) := by decide +kernel
theorem dX0_sightsFit_48 : decode cX0_sightsFit 48 = .ok (.iinc 2 1, 3) := by decide +kernel
theorem dX0_sightsFit_51 : decode cX0_sightsFit 51 = .ok (.goto (-49), 3) := by decide +kernel
theorem dX0_sightsFit_54 : decode cX0_sightsFit 54 = .ok (.iconst 1, 1) := by decide +kernel
theorem dX0_sightsFit_55 : decode cX0_sightsFit 55 = .ok (.ireturn, 1) := by decide +kernel
theorem dX1_init_0 : decode cX1_init 0 = .ok (.aload_n 0, 1) := by decide +kernel
theorem dX1_init_1 : decode cX1_init 1 = .ok (.invokespecial 3, 3) := by decide +kernel
theorem dX1_init_4 : decode cX1_init 4 = .ok (.aload_n 0, 1) := by decide +kernel
theorem dX1_init_5 : decode cX1_init 5 = .ok (.bipush 60, 2) := by decide +kernel
theorem dX1_init_7 : decode cX1_init 7 = .ok (.newarray .int, 2) := by decide +kernel
theorem dX1_init_9 : decode cX1_init 9 = .ok (.putfield 9, 3) := by decide +kernel
theorem dX1_init_12 : decode cX1_init 12 = .ok (.aload_n 0, 1) := by decide +kernel
theorem dX1_init_13 : decode cX1_init 13 = .ok (.iconst 0, 1) := by decide +kernel
theorem dX1_init_14 : decode cX1_init 14 = .ok (.putfield 15, 3) := by decide +kernel
theorem dX1_init_17 : decode cX1_init 17 = .ok (.aload_n 0, 1) := by decide +kernel
theorem dX1_init_18 : decode cX1_init 18 = .ok (.bipush 61, 2) := by decide +kernel
theorem dX1_init_20 : decode cX1_init 20 = .ok (.newarray .int, 2) := by decide +kernel
theorem dX1_init_22 : decode cX1_init 22 = .ok (.putfield 19, 3) := by decide +kernel
theorem dX1_init_25 : decode cX1_init 25 = .ok (.aload_n 0, 1) := by decide +kernel
theorem dX1_init_26 : decode cX1_init 26 = .ok (.new 22, 3) := by decide +kernel
theorem dX1_init_29 : decode cX1_init 29 = .ok (.dup, 1) := by decide +kernel
theorem dX1_init_30 : decode cX1_init 30 = .ok (.invokespecial 24, 3) := by decide +kernel
theorem dX1_init_33 : decode cX1_init 33 = .ok (.putfield 25, 3) := by decide +kernel
theorem dX1_init_36 : decode cX1_init 36 = .ok (.aload_n 0, 1) := by decide +kernel
theorem dX1_init_37 : decode cX1_init 37 = .ok (.bipush (-6), 2) := by decide +kernel
theorem dX1_init_39 : decode cX1_init 39 = .ok (.putfield 29, 3) := by decide +kernel
theorem dX1_init_42 : decode cX1_init 42 = .ok (.aload_n 0, 1) := by decide +kernel
theorem dX1_init_43 : decode cX1_init 43 = .ok (.bipush (-6), 2) := by decide +kernel
theorem dX1_init_45 : decode cX1_init 45 = .ok (.putfield 32, 3) := by decide +kernel
theorem dX1_init_48 : decode cX1_init 48 = .ok (.return_, 1) := by decide +kernel
theorem dX1_read_0 : decode cX1_read 0 = .ok (.aload_n 0, 1) := by decide +kernel
theorem dX1_read_1 : decode cX1_read 1 = .ok (.iconst 0, 1) := by decide +kernel
theorem dX1_read_2 : decode cX1_read 2 = .ok (.putfield 15, 3) := by decide +kernel
theorem dX1_read_5 : decode cX1_read 5 = .ok (.iconst 0, 1) := by decide +kernel
theorem dX1_read_6 : decode cX1_read 6 = .ok (.istore_n 3, 1) := by decide +kernel
theorem dX1_read_7 : decode cX1_read 7 = .ok (.iconst 0, 1) := by decide +kernel
theorem dX1_read_8 : decode cX1_read 8 = .ok (.istore 4, 2) := by decide +kernel
theorem dX1_read_10 : decode cX1_read 10 = .ok (.iconst 0, 1) := by decide +kernel
theorem dX1_read_11 : decode cX1_read 11 = .ok (.istore 5, 2) := by decide +kernel
theorem dX1_read_13 : decode cX1_read 13 = .ok (.iconst 0, 1) := by decide +kernel
theorem dX1_read_14 : decode cX1_read 14 = .ok (.istore 6, 2) := by decide +kernel
theorem dX1_read_16 : decode cX1_read 16 = .ok (.iload 6, 2) := by decide +kernel
theorem dX1_read_18 : decode cX1_read 18 = .ok (.aload_n 1, 1) := by decide +kernel
theorem dX1_read_19 : decode cX1_read 19 = .ok (.getfield 35, 3) := by decide +kernel
theorem dX1_read_22 : decode cX1_read 22 = .ok (.if_icmp .ge 155, 3) := by decide +kernel
theorem dX1_read_25 : decode cX1_read 25 = .ok (.aload_n 1, 1) := by decide +kernel
theorem dX1_read_26 : decode cX1_read 26 = .ok (.getfield 38, 3) := by decide +kernel
theorem dX1_read_29 : decode cX1_read 29 = .ok (.iload 6, 2) := by decide +kernel
theorem dX1_read_31 : decode cX1_read 31 = .ok (.invokestatic 41, 3) := by decide +kernel
theorem dX1_read_34 : decode cX1_read 34 = .ok (.istore 7, 2) := by decide +kernel
theorem dX1_read_36 : decode cX1_read 36 = .ok (.iload_n 3, 1) := by decide +kernel
theorem dX1_read_37 : decode cX1_read 37 = .ok (.ifCond .ne 26, 3) := by decide +kernel
theorem dX1_read_40 : decode cX1_read 40 = .ok (.iload 7, 2) := by decide +kernel
theorem dX1_read_42 : decode cX1_read 42 = .ok (.bipush 65, 2) := by decide +kernel
theorem dX1_read_44 : decode cX1_read 44 = .ok (.isub, 1) := by decide +kernel
theorem dX1_read_45 : decode cX1_read 45 = .ok (.invokestatic 45, 3) := by decide +kernel
theorem dX1_read_48 : decode cX1_read 48 = .ok (.ifCond .eq 15, 3) := by decide +kernel
theorem dX1_read_51 : decode cX1_read 51 = .ok (.iload 7, 2) := by decide +kernel
theorem dX1_read_53 : decode cX1_read 53 = .ok (.bipush 65, 2) := by decide +kernel
theorem dX1_read_55 : decode cX1_read 55 = .ok (.isub, 1) := by decide +kernel
theorem dX1_read_56 : decode cX1_read 56 = .ok (.istore 4, 2) := by decide +kernel
theorem dX1_read_58 : decode cX1_read 58 = .ok (.iconst 1, 1) := by decide +kernel
theorem dX1_read_59 : decode cX1_read 59 = .ok (.istore_n 3, 1) := by decide +kernel
theorem dX1_read_60 : decode cX1_read 60 = .ok (.goto 111, 3) := by decide +kernel
theorem dX1_read_63 : decode cX1_read 63 = .ok (.iload_n 3, 1) := by decide +kernel
theorem dX1_read_64 : decode cX1_read 64 = .ok (.ifCond .ne 25, 3) := by decide +kernel
theorem dX1_read_67 : decode cX1_read 67 = .ok (.iload 7, 2) := by decide +kernel
theorem dX1_read_69 : decode cX1_read 69 = .ok (.invokestatic 49, 3) := by decide +kernel
theorem dX1_read_72 : decode cX1_read 72 = .ok (.bipush (-6), 2) := by decide +kernel
theorem dX1_read_74 : decode cX1_read 74 = .ok (.if_icmp .eq 15, 3) := by decide +kernel
theorem dX1_read_77 : decode cX1_read 77 = .ok (.aload_n 0, 1) := by decide +kernel
theorem dX1_read_78 : decode cX1_read 78 = .ok (.iload 7, 2) := by decide +kernel
theorem dX1_read_80 : decode cX1_read 80 = .ok (.invokestatic 49, 3) := by decide +kernel
theorem dX1_read_83 : decode cX1_read 83 = .ok (.invokevirtual 53, 3) := by decide +kernel
theorem dX1_read_86 : decode cX1_read 86 = .ok (.goto 85, 3) := by decide +kernel
theorem dX1_read_89 : decode cX1_read 89 = .ok (.iload_n 3, 1) := by decide +kernel
theorem dX1_read_90 : decode cX1_read 90 = .ok (.iconst 1, 1) := by decide +kernel
theorem dX1_read_91 : decode cX1_read 91 = .ok (.if_icmp .ne 30, 3) := by decide +kernel
theorem dX1_read_94 : decode cX1_read 94 = .ok (.iload 7, 2) := by decide +kernel
theorem dX1_read_96 : decode cX1_read 96 = .ok (.bipush 97, 2) := by decide +kernel
theorem dX1_read_98 : decode cX1_read 98 = .ok (.isub, 1) := by decide +kernel
theorem dX1_read_99 : decode cX1_read 99 = .ok (.iconst 0, 1) := by decide +kernel
theorem dX1_read_100 : decode cX1_read 100 = .ok (.iload_n 2, 1) := by decide +kernel
theorem dX1_read_101 : decode cX1_read 101 = .ok (.iconst 1, 1) := by decide +kernel
theorem dX1_read_102 : decode cX1_read 102 = .ok (.isub, 1) := by decide +kernel
theorem dX1_read_103 : decode cX1_read 103 = .ok (.invokestatic 57, 3) := by decide +kernel
theorem dX1_read_106 : decode cX1_read 106 = .ok (.ifCond .eq 15, 3) := by decide +kernel
theorem dX1_read_109 : decode cX1_read 109 = .ok (.iload 7, 2) := by decide +kernel
theorem dX1_read_111 : decode cX1_read 111 = .ok (.bipush 97, 2) := by decide +kernel
theorem dX1_read_113 : decode cX1_read 113 = .ok (.isub, 1) := by decide +kernel
theorem dX1_read_114 : decode cX1_read 114 = .ok (.istore 5, 2) := by decide +kernel
theorem dX1_read_116 : decode cX1_read 116 = .ok (.iconst 2, 1) := by decide +kernel
theorem dX1_read_117 : decode cX1_read 117 = .ok (.istore_n 3, 1) := by decide +kernel
theorem dX1_read_118 : decode cX1_read 118 = .ok (.goto 53, 3) := by decide +kernel
theorem dX1_read_121 : decode cX1_read 121 = .ok (.iload_n 3, 1) := by decide +kernel
theorem dX1_read_122 : decode cX1_read 122 = .ok (.iconst 2, 1) := by decide +kernel
theorem dX1_read_123 : decode cX1_read 123 = .ok (.if_icmp .ne 45, 3) := by decide +kernel
theorem dX1_read_126 : decode cX1_read 126 = .ok (.iload 7, 2) := by decide +kernel
theorem dX1_read_128 : decode cX1_read 128 = .ok (.bipush 43, 2) := by decide +kernel
theorem dX1_read_130 : decode cX1_read 130 = .ok (.if_icmp .eq 10, 3) := by decide +kernel
theorem dX1_read_133 : decode cX1_read 133 = .ok (.iload 7, 2) := by decide +kernel
theorem dX1_read_135 : decode cX1_read 135 = .ok (.bipush 45, 2) := by decide +kernel
theorem dX1_read_137 : decode cX1_read 137 = .ok (.if_icmp .ne 31, 3) := by decide +kernel
theorem dX1_read_140 : decode cX1_read 140 = .ok (.aload_n 0, 1) := by decide +kernel
theorem dX1_read_141 : decode cX1_read 141 = .ok (.iload 4, 2) := by decide +kernel
theorem dX1_read_143 : decode cX1_read 143 = .ok (.iload 5, 2) := by decide +kernel
theorem dX1_read_145 : decode cX1_read 145 = .ok (.iload 7, 2) := by decide +kernel
theorem dX1_read_147 : decode cX1_read 147 = .ok (.bipush 43, 2) := by decide +kernel
theorem dX1_read_149 : decode cX1_read 149 = .ok (.if_icmp .ne 7, 3) := by decide +kernel
theorem dX1_read_152 : decode cX1_read 152 = .ok (.iconst 1, 1) := by decide +kernel
theorem dX1_read_153 : decode cX1_read 153 = .ok (.goto 4, 3) := by decide +kernel
theorem dX1_read_156 : decode cX1_read 156 = .ok (.iconst 0, 1) := by decide +kernel
theorem dX1_read_157 : decode cX1_read 157 = .ok (.invokestatic 61, 3) := by decide +kernel
theorem dX1_read_160 : decode cX1_read 160 = .ok (.invokevirtual 53, 3) := by decide +kernel
theorem dX1_read_163 : decode cX1_read 163 = .ok (.iconst 0, 1) := by decide +kernel
theorem dX1_read_164 : decode cX1_read 164 = .ok (.istore_n 3, 1) := by decide +kernel
theorem dX1_read_165 : decode cX1_read 165 = .ok (.goto 6, 3) := by decide +kernel
theorem dX1_read_168 : decode cX1_read 168 = .ok (.iload 6, 2) := by decide +kernel
theorem dX1_read_170 : decode cX1_read 170 = .ok (.ireturn, 1) := by decide +kernel
theorem dX1_read_171 : decode cX1_read 171 = .ok (.iinc 6 1, 3) := by decide +kernel
theorem dX1_read_174 : decode cX1_read 174 = .ok (.goto (-158), 3) := by decide +kernel
theorem dX1_read_177 : decode cX1_read 177 = .ok (.iload_n 3, 1) := by decide +kernel
theorem dX1_read_178 : decode cX1_read 178 = .ok (.ifCond .ne 8, 3) := by decide +kernel
theorem dX1_read_181 : decode cX1_read 181 = .ok (.bipush (-6), 2) := by decide +kernel
theorem dX1_read_183 : decode cX1_read 183 = .ok (.goto 7, 3) := by decide +kernel
theorem dX1_read_186 : decode cX1_read 186 = .ok (.aload_n 1, 1) := by decide +kernel
theorem dX1_read_187 : decode cX1_read 187 = .ok (.getfield 35, 3) := by decide +kernel
theorem dX1_read_190 : decode cX1_read 190 = .ok (.ireturn, 1) := by decide +kernel
theorem dX1_unspoken_0 : decode cX1_unspoken 0 = .ok (.iload_n 0, 1) := by decide +kernel
theorem dX1_unspoken_1 : decode cX1_unspoken 1 = .ok (.lookupswitch 44 #[(33, 41), (46, 35), (63, 38)], 35) := by decide +kernel
theorem dX1_unspoken_36 : decode cX1_unspoken 36 = .ok (.bipush 100, 2) := by decide +kernel
theorem dX1_unspoken_38 : decode cX1_unspoken 38 = .ok (.ireturn, 1) := by decide +kernel
theorem dX1_unspoken_39 : decode cX1_unspoken 39 = .ok (.bipush 101, 2) := by decide +kernel
theorem dX1_unspoken_41 : decode cX1_unspoken 41 = .ok (.ireturn, 1) := by decide +kernel
theorem dX1_unspoken_42 : decode cX1_unspoken 42 = .ok (.bipush 102, 2) := by decide +kernel
theorem dX1_unspoken_44 : decode cX1_unspoken 44 = .ok (.ireturn, 1) := by decide +kernel
theorem dX1_unspoken_45 : decode cX1_unspoken 45 = .ok (.bipush (-6), 2) := by decide +kernel
theorem dX1_unspoken_47 : decode cX1_unspoken 47 = .ok (.ireturn, 1) := by decide +kernel
theorem dX1_add_0 : decode cX1_add 0 = .ok (.aload_n 0, 1) := by decide +kernel
theorem dX1_add_1 : decode cX1_add 1 = .ok (.getfield 9, 3) := by decide +kernel
theorem dX1_add_4 : decode cX1_add 4 = .ok (.aload_n 0, 1) := by decide +kernel
theorem dX1_add_5 : decode cX1_add 5 = .ok (.getfield 15, 3) := by decide +kernel
theorem dX1_add_8 : decode cX1_add 8 = .ok (.iload_n 1, 1) := by decide +kernel
theorem dX1_add_9 : decode cX1_add 9 = .ok (.invokestatic 65, 3) := by decide +kernel
theorem dX1_add_12 : decode cX1_add 12 = .ok (.aload_n 0, 1) := by decide +kernel
theorem dX1_add_13 : decode cX1_add 13 = .ok (.dup, 1) := by decide +kernel
theorem dX1_add_14 : decode cX1_add 14 = .ok (.getfield 15, 3) := by decide +kernel
theorem dX1_add_17 : decode cX1_add 17 = .ok (.iconst 1, 1) := by decide +kernel
theorem dX1_add_18 : decode cX1_add 18 = .ok (.iadd, 1) := by decide +kernel
theorem dX1_add_19 : decode cX1_add 19 = .ok (.putfield 15, 3) := by decide +kernel
theorem dX1_add_22 : decode cX1_add 22 = .ok (.return_, 1) := by decide +kernel
theorem dX1_play_0 : decode cX1_play 0 = .ok (.aload_n 0, 1) := by decide +kernel
theorem dX1_play_1 : decode cX1_play 1 = .ok (.getfield 25, 3) := by decide +kernel
theorem dX1_play_4 : decode cX1_play 4 = .ok (.aload_n 1, 1) := by decide +kernel
theorem dX1_play_5 : decode cX1_play 5 = .ok (.getfield 69, 3) := by decide +kernel
theorem dX1_play_8 : decode cX1_play 8 = .ok (.invokevirtual 72, 3) := by decide +kernel
theorem dX1_play_11 : decode cX1_play 11 = .ok (.aload_n 0, 1) := by decide +kernel
theorem dX1_play_12 : decode cX1_play 12 = .ok (.bipush (-6), 2) := by decide +kernel
theorem dX1_play_14 : decode cX1_play 14 = .ok (.putfield 29, 3) := by decide +kernel
theorem dX1_play_17 : decode cX1_play 17 = .ok (.aload_n 0, 1) := by decide +kernel
theorem dX1_play_18 : decode cX1_play 18 = .ok (.bipush (-6), 2) := by decide +kernel
theorem dX1_play_20 : decode cX1_play 20 = .ok (.putfield 32, 3) := by decide +kernel
theorem dX1_play_23 : decode cX1_play 23 = .ok (.aload_n 0, 1) := by decide +kernel
theorem dX1_play_24 : decode cX1_play 24 = .ok (.getfield 19, 3) := by decide +kernel
theorem dX1_play_27 : decode cX1_play 27 = .ok (.iconst 0, 1) := by decide +kernel
theorem dX1_play_28 : decode cX1_play 28 = .ok (.aload_n 0, 1) := by decide +kernel
theorem dX1_play_29 : decode cX1_play 29 = .ok (.getfield 25, 3) := by decide +kernel
theorem dX1_play_32 : decode cX1_play 32 = .ok (.getfield 76, 3) := by decide +kernel
theorem dX1_play_35 : decode cX1_play 35 = .ok (.invokestatic 65, 3) := by decide +kernel
theorem dX1_play_38 : decode cX1_play 38 = .ok (.iconst 0, 1) := by decide +kernel
theorem dX1_play_39 : decode cX1_play 39 = .ok (.istore_n 3, 1) := by decide +kernel
theorem dX1_play_40 : decode cX1_play 40 = .ok (.iload_n 3, 1) := by decide +kernel
theorem dX1_play_41 : decode cX1_play 41 = .ok (.aload_n 0, 1) := by decide +kernel
theorem dX1_play_42 : decode cX1_play 42 = .ok (.getfield 15, 3) := by decide +kernel
theorem dX1_play_45 : decode cX1_play 45 = .ok (.if_icmp .ge 76, 3) := by decide +kernel
theorem dX1_play_48 : decode cX1_play 48 = .ok (.aload_n 0, 1) := by decide +kernel
theorem dX1_play_49 : decode cX1_play 49 = .ok (.getfield 9, 3) := by decide +kernel
theorem dX1_play_52 : decode cX1_play 52 = .ok (.iload_n 3, 1) := by decide +kernel
theorem dX1_play_53 : decode cX1_play 53 = .ok (.invokestatic 41, 3) := by decide +kernel
theorem dX1_play_56 : decode cX1_play 56 = .ok (.istore 4, 2) := by decide +kernel
theorem dX1_play_58 : decode cX1_play 58 = .ok (.iload 4, 2) := by decide +kernel
theorem dX1_play_60 : decode cX1_play 60 = .ok (.aload_n 1, 1) := by decide +kernel
theorem dX1_play_61 : decode cX1_play 61 = .ok (.iload_n 2, 1) := by decide +kernel
theorem dX1_play_62 : decode cX1_play 62 = .ok (.aload_n 0, 1) := by decide +kernel
theorem dX1_play_63 : decode cX1_play 63 = .ok (.getfield 25, 3) := by decide +kernel
theorem dX1_play_66 : decode cX1_play 66 = .ok (.invokestatic 77, 3) := by decide +kernel
theorem dX1_play_69 : decode cX1_play 69 = .ok (.istore 5, 2) := by decide +kernel
theorem dX1_play_71 : decode cX1_play 71 = .ok (.iload 5, 2) := by decide +kernel
theorem dX1_play_73 : decode cX1_play 73 = .ok (.ifCond .eq 15, 3) := by decide +kernel
theorem dX1_play_76 : decode cX1_play 76 = .ok (.aload_n 0, 1) := by decide +kernel
theorem dX1_play_77 : decode cX1_play 77 = .ok (.iload_n 3, 1) := by decide +kernel
theorem dX1_play_78 : decode cX1_play 78 = .ok (.putfield 29, 3) := by decide +kernel
theorem dX1_play_81 : decode cX1_play 81 = .ok (.aload_n 0, 1) := by decide +kernel
theorem dX1_play_82 : decode cX1_play 82 = .ok (.iload 5, 2) := by decide +kernel
theorem dX1_play_84 : decode cX1_play 84 = .ok (.putfield 32, 3) := by decide +kernel
theorem dX1_play_87 : decode cX1_play 87 = .ok (.return_, 1) := by decide +kernel
theorem dX1_play_88 : decode cX1_play 88 = .ok (.aload_n 0, 1) := by decide +kernel
theorem dX1_play_89 : decode cX1_play 89 = .ok (.getfield 25, 3) := by decide +kernel
theorem dX1_play_92 : decode cX1_play 92 = .ok (.iload 4, 2) := by decide +kernel
theorem dX1_play_94 : decode cX1_play 94 = .ok (.iload_n 2, 1) := by decide +kernel
theorem dX1_play_95 : decode cX1_play 95 = .ok (.invokevirtual 81, 3) := by decide +kernel
theorem dX1_play_98 : decode cX1_play 98 = .ok (.aload_n 0, 1) := by decide +kernel
theorem dX1_play_99 : decode cX1_play 99 = .ok (.getfield 19, 3) := by decide +kernel
theorem dX1_play_102 : decode cX1_play 102 = .ok (.iload_n 3, 1) := by decide +kernel
theorem dX1_play_103 : decode cX1_play 103 = .ok (.iconst 1, 1) := by decide +kernel
theorem dX1_play_104 : decode cX1_play 104 = .ok (.iadd, 1) := by decide +kernel
theorem dX1_play_105 : decode cX1_play 105 = .ok (.aload_n 0, 1) := by decide +kernel
theorem dX1_play_106 : decode cX1_play 106 = .ok (.getfield 25, 3) := by decide +kernel
theorem dX1_play_109 : decode cX1_play 109 = .ok (.getfield 76, 3) := by decide +kernel
theorem dX1_play_112 : decode cX1_play 112 = .ok (.invokestatic 65, 3) := by decide +kernel
theorem dX1_play_115 : decode cX1_play 115 = .ok (.iinc 3 1, 3) := by decide +kernel
theorem dX1_play_118 : decode cX1_play 118 = .ok (.goto (-78), 3) := by decide +kernel
theorem dX1_play_121 : decode cX1_play 121 = .ok (.return_, 1) := by decide +kernel
theorem dX1_lowest_0 : decode cX1_lowest 0 = .ok (.aload_n 0, 1) := by decide +kernel
theorem dX1_lowest_1 : decode cX1_lowest 1 = .ok (.getfield 19, 3) := by decide +kernel
theorem dX1_lowest_4 : decode cX1_lowest 4 = .ok (.iconst 0, 1) := by decide +kernel
theorem dX1_lowest_5 : decode cX1_lowest 5 = .ok (.invokestatic 41, 3) := by decide +kernel
theorem dX1_lowest_8 : decode cX1_lowest 8 = .ok (.istore_n 1, 1) := by decide +kernel
theorem dX1_lowest_9 : decode cX1_lowest 9 = .ok (.iconst 1, 1) := by decide +kernel
theorem dX1_lowest_10 : decode cX1_lowest 10 = .ok (.istore_n 2, 1) := by decide +kernel
theorem dX1_lowest_11 : decode cX1_lowest 11 = .ok (.iload_n 2, 1) := by decide +kernel
theorem dX1_lowest_12 : decode cX1_lowest 12 = .ok (.aload_n 0, 1) := by decide +kernel
theorem dX1_lowest_13 : decode cX1_lowest 13 = .ok (.getfield 15, 3) := by decide +kernel
theorem dX1_lowest_16 : decode cX1_lowest 16 = .ok (.if_icmp .gt 22, 3) := by decide +kernel
theorem dX1_lowest_19 : decode cX1_lowest 19 = .ok (.iload_n 1, 1) := by decide +kernel
theorem dX1_lowest_20 : decode cX1_lowest 20 = .ok (.aload_n 0, 1) := by decide +kernel
theorem dX1_lowest_21 : decode cX1_lowest 21 = .ok (.getfield 19, 3) := by decide +kernel
theorem dX1_lowest_24 : decode cX1_lowest 24 = .ok (.iload_n 2, 1) := by decide +kernel
theorem dX1_lowest_25 : decode cX1_lowest 25 = .ok (.invokestatic 41, 3) := by decide +kernel
theorem dX1_lowest_28 : decode cX1_lowest 28 = .ok (.invokestatic 85, 3) := by decide +kernel
theorem dX1_lowest_31 : decode cX1_lowest 31 = .ok (.istore_n 1, 1) := by decide +kernel
theorem dX1_lowest_32 : decode cX1_lowest 32 = .ok (.iinc 2 1, 3) := by decide +kernel
theorem dX1_lowest_35 : decode cX1_lowest 35 = .ok (.goto (-24), 3) := by decide +kernel
theorem dX1_lowest_38 : decode cX1_lowest 38 = .ok (.iload_n 1, 1) := by decide +kernel
theorem dX1_lowest_39 : decode cX1_lowest 39 = .ok (.ireturn, 1) := by decide +kernel
theorem dX1_highest_0 : decode cX1_highest 0 = .ok (.aload_n 0, 1) := by decide +kernel
theorem dX1_highest_1 : decode cX1_highest 1 = .ok (.getfield 19, 3) := by decide +kernel
theorem dX1_highest_4 : decode cX1_highest 4 = .ok (.iconst 0, 1) := by decide +kernel
theorem dX1_highest_5 : decode cX1_highest 5 = .ok (.invokestatic 41, 3) := by decide +kernel
theorem dX1_highest_8 : decode cX1_highest 8 = .ok (.istore_n 1, 1) := by decide +kernel
theorem dX1_highest_9 : decode cX1_highest 9 = .ok (.iconst 1, 1) := by decide +kernel
theorem dX1_highest_10 : decode cX1_highest 10 = .ok (.istore_n 2, 1) := by decide +kernel
theorem dX1_highest_11 : decode cX1_highest 11 = .ok (.iload_n 2, 1) := by decide +kernel
theorem dX1_highest_12 : decode cX1_highest 12 = .ok (.aload_n 0, 1) := by decide +kernel
theorem dX1_highest_13 : decode cX1_highest 13 = .ok (.getfield 15, 3) := by decide +kernel
theorem dX1_highest_16 : decode cX1_highest 16 = .ok (.if_icmp .gt 22, 3) := by decide +kernel
theorem dX1_highest_19 : decode cX1_highest 19 = .ok (.iload_n 1, 1) := by decide +kernel
theorem dX1_highest_20 : decode cX1_highest 20 = .ok (.aload_n 0, 1) := by decide +kernel
theorem dX1_highest_21 : decode cX1_highest 21 = .ok (.getfield 19, 3) := by decide +kernel
theorem dX1_highest_24 : decode cX1_highest 24 = .ok (.iload_n 2, 1) := by decide +kernel
theorem dX1_highest_25 : decode cX1_highest 25 = .ok (.invokestatic 41, 3) := by decide +kernel
theorem dX1_highest_28 : decode cX1_highest 28 = .ok (.invokestatic 91, 3) := by decide +kernel
theorem dX1_highest_31 : decode cX1_highest 31 = .ok (.istore_n 1, 1) := by decide +kernel
theorem dX1_highest_32 : decode cX1_highest 32 = .ok (.iinc 2 1, 3) := by decide +kernel
theorem dX1_highest_35 : decode cX1_highest 35 = .ok (.goto (-24), 3) := by decide +kernel
theorem dX1_highest_38 : decode cX1_highest 38 = .ok (.iload_n 1, 1) := by decide +kernel
theorem dX1_highest_39 : decode cX1_highest 39 = .ok (.ireturn, 1) := by decide +kernel
theorem dX1_remarkTaking_0 : decode cX1_remarkTaking 0 = .ok (.iconst 0, 1) := by decide +kernel
theorem dX1_remarkTaking_1 : decode cX1_remarkTaking 1 = .ok (.istore_n 2, 1) := by decide +kernel
theorem dX1_remarkTaking_2 : decode cX1_remarkTaking 2 = .ok (.iload_n 2, 1) := by decide +kernel
theorem dX1_remarkTaking_3 : decode cX1_remarkTaking 3 = .ok (.aload_n 0, 1) := by decide +kernel
theorem dX1_remarkTaking_4 : decode cX1_remarkTaking 4 = .ok (.getfield 15, 3) := by decide +kernel
theorem dX1_remarkTaking_7 : decode cX1_remarkTaking 7 = .ok (.if_icmp .ge 25, 3) := by decide +kernel
theorem dX1_remarkTaking_10 : decode cX1_remarkTaking 10 = .ok (.aload_n 0, 1) := by decide +kernel
theorem dX1_remarkTaking_11 : decode cX1_remarkTaking 11 = .ok (.getfield 19, 3) := by decide +kernel
theorem dX1_remarkTaking_14 : decode cX1_remarkTaking 14 = .ok (.iload_n 2, 1) := by decide +kernel
theorem dX1_remarkTaking_15 : decode cX1_remarkTaking 15 = .ok (.iconst 1, 1) := by decide +kernel
theorem dX1_remarkTaking_16 : decode cX1_remarkTaking 16 = .ok (.iadd, 1) := by decide +kernel
theorem dX1_remarkTaking_17 : decode cX1_remarkTaking 17 = .ok (.invokestatic 41, 3) := by decide +kernel
theorem dX1_remarkTaking_20 : decode cX1_remarkTaking 20 = .ok (.iload_n 1, 1) := by decide +kernel
theorem dX1_remarkTaking_21 : decode cX1_remarkTaking 21 = .ok (.if_icmp .gt 5, 3) := by decide +kernel
theorem dX1_remarkTaking_24 : decode cX1_remarkTaking 24 = .ok (.iload_n 2, 1) := by decide +kernel
theorem dX1_remarkTaking_25 : decode cX1_remarkTaking 25 = .ok (.ireturn, 1) := by decide +kernel
theorem dX1_remarkTaking_26 : decode cX1_remarkTaking 26 = .ok (.iinc 2 1, 3) := by decide +kernel
theorem dX1_remarkTaking_29 : decode cX1_remarkTaking 29 = .ok (.goto (-27), 3) := by decide +kernel
theorem dX1_remarkTaking_32 : decode cX1_remarkTaking 32 = .ok (.bipush (-6), 2) := by decide +kernel
theorem dX1_remarkTaking_34 : decode cX1_remarkTaking 34 = .ok (.ireturn, 1) := by decide +kernel
theorem dX1_habitOf_0 : decode cX1_habitOf 0 = .ok (.iconst 0, 1) := by decide +kernel
theorem dX1_habitOf_1 : decode cX1_habitOf 1 = .ok (.istore_n 3, 1) := by decide +kernel
theorem dX1_habitOf_2 : decode cX1_habitOf 2 = .ok (.iconst 0, 1) := by decide +kernel
theorem dX1_habitOf_3 : decode cX1_habitOf 3 = .ok (.istore 4, 2) := by decide +kernel
theorem dX1_habitOf_5 : decode cX1_habitOf 5 = .ok (.iload 4, 2) := by decide +kernel
theorem dX1_habitOf_7 : decode cX1_habitOf 7 = .ok (.aload_n 0, 1) := by decide +kernel
theorem dX1_habitOf_8 : decode cX1_habitOf 8 = .ok (.getfield 15, 3) := by decide +kernel
theorem dX1_habitOf_11 : decode cX1_habitOf 11 = .ok (.if_icmp .ge 54, 3) := by decide +kernel
theorem dX1_habitOf_14 : decode cX1_habitOf 14 = .ok (.aload_n 0, 1) := by decide +kernel
theorem dX1_habitOf_15 : decode cX1_habitOf 15 = .ok (.getfield 9, 3) := by decide +kernel
theorem dX1_habitOf_18 : decode cX1_habitOf 18 = .ok (.iload 4, 2) := by decide +kernel
theorem dX1_habitOf_20 : decode cX1_habitOf 20 = .ok (.invokestatic 41, 3) := by decide +kernel
theorem dX1_habitOf_23 : decode cX1_habitOf 23 = .ok (.istore 5, 2) := by decide +kernel
theorem dX1_habitOf_25 : decode cX1_habitOf 25 = .ok (.iload 5, 2) := by decide +kernel
theorem dX1_habitOf_27 : decode cX1_habitOf 27 = .ok (.invokestatic 94, 3) := by decide +kernel
theorem dX1_habitOf_30 : decode cX1_habitOf 30 = .ok (.ifCond .eq 29, 3) := by decide +kernel
theorem dX1_habitOf_33 : decode cX1_habitOf 33 = .ok (.iload 5, 2) := by decide +kernel
theorem dX1_habitOf_35 : decode cX1_habitOf 35 = .ok (.invokestatic 97, 3) := by decide +kernel
theorem dX1_habitOf_38 : decode cX1_habitOf 38 = .ok (.iload_n 1, 1) := by decide +kernel
theorem dX1_habitOf_39 : decode cX1_habitOf 39 = .ok (.if_icmp .ne 20, 3) := by decide +kernel
theorem dX1_habitOf_42 : decode cX1_habitOf 42 = .ok (.iload_n 3, 1) := by decide +kernel
theorem dX1_habitOf_43 : decode cX1_habitOf 43 = .ok (.iload 5, 2) := by decide +kernel
theorem dX1_habitOf_45 : decode cX1_habitOf 45 = .ok (.iload_n 2, 1) := by decide +kernel
theorem dX1_habitOf_46 : decode cX1_habitOf 46 = .ok (.invokestatic 100, 3) := by decide +kernel
theorem dX1_habitOf_49 : decode cX1_habitOf 49 = .ok (.ifCond .eq 7, 3) := by decide +kernel
theorem dX1_habitOf_52 : decode cX1_habitOf 52 = .ok (.iconst 1, 1) := by decide +kernel
theorem dX1_habitOf_53 : decode cX1_habitOf 53 = .ok (.goto 4, 3) := by decide +kernel
theorem dX1_habitOf_56 : decode cX1_habitOf 56 = .ok (.iconst 2, 1) := by decide +kernel
theorem dX1_habitOf_57 : decode cX1_habitOf 57 = .ok (.ior, 1) := by decide +kernel
theorem dX1_habitOf_58 : decode cX1_habitOf 58 = .ok (.istore_n 3, 1) := by decide +kernel
theorem dX1_habitOf_59 : decode cX1_habitOf 59 = .ok (.iinc 4 1, 3) := by decide +kernel
theorem dX1_habitOf_62 : decode cX1_habitOf 62 = .ok (.goto (-57), 3) := by decide +kernel
theorem dX1_habitOf_65 : decode cX1_habitOf 65 = .ok (.iload_n 3, 1) := by decide +kernel
theorem dX1_habitOf_66 : decode cX1_habitOf 66 = .ok (.ireturn, 1) := by decide +kernel
theorem dX2_init_0 : decode cX2_init 0 = .ok (.aload_n 0, 1) := by decide +kernel
theorem dX2_init_1 : decode cX2_init 1 = .ok (.invokespecial 3, 3) := by decide +kernel
theorem dX2_init_4 : decode cX2_init 4 = .ok (.aload_n 0, 1) := by decide +kernel
theorem dX2_init_5 : decode cX2_init 5 = .ok (.bipush 30, 2) := by decide +kernel
theorem dX2_init_7 : decode cX2_init 7 = .ok (.newarray .int, 2) := by decide +kernel
theorem dX2_init_9 : decode cX2_init 9 = .ok (.putfield 9, 3) := by decide +kernel
theorem dX2_init_12 : decode cX2_init 12 = .ok (.aload_n 0, 1) := by decide +kernel
theorem dX2_init_13 : decode cX2_init 13 = .ok (.bipush 30, 2) := by decide +kernel
theorem dX2_init_15 : decode cX2_init 15 = .ok (.newarray .int, 2) := by decide +kernel
theorem dX2_init_17 : decode cX2_init 17 = .ok (.putfield 15, 3) := by decide +kernel
theorem dX2_init_20 : decode cX2_init 20 = .ok (.aload_n 0, 1) := by decide +kernel
theorem dX2_init_21 : decode cX2_init 21 = .ok (.bipush 30, 2) := by decide +kernel
theorem dX2_init_23 : decode cX2_init 23 = .ok (.newarray .int, 2) := by decide +kernel
theorem dX2_init_25 : decode cX2_init 25 = .ok (.putfield 18, 3) := by decide +kernel
theorem dX2_init_28 : decode cX2_init 28 = .ok (.aload_n 0, 1) := by decide +kernel
theorem dX2_init_29 : decode cX2_init 29 = .ok (.iconst 0, 1) := by decide +kernel
theorem dX2_init_30 : decode cX2_init 30 = .ok (.putfield 21, 3) := by decide +kernel
theorem dX2_init_33 : decode cX2_init 33 = .ok (.aload_n 0, 1) := by decide +kernel
theorem dX2_init_34 : decode cX2_init 34 = .ok (.bipush 20, 2) := by decide +kernel
theorem dX2_init_36 : decode cX2_init 36 = .ok (.putfield 25, 3) := by decide +kernel
theorem dX2_init_39 : decode cX2_init 39 = .ok (.aload_n 0, 1) := by decide +kernel
theorem dX2_init_40 : decode cX2_init 40 = .ok (.iconst 0, 1) := by decide +kernel
theorem dX2_init_41 : decode cX2_init 41 = .ok (.putfield 28, 3) := by decide +kernel
theorem dX2_init_44 : decode cX2_init 44 = .ok (.aload_n 0, 1) := by decide +kernel
theorem dX2_init_45 : decode cX2_init 45 = .ok (.iconst 0, 1) := by decide +kernel
theorem dX2_init_46 : decode cX2_init 46 = .ok (.putfield 31, 3) := by decide +kernel
theorem dX2_init_49 : decode cX2_init 49 = .ok (.aload_n 0, 1) := by decide +kernel
theorem dX2_init_50 : decode cX2_init 50 = .ok (.iconst (-1), 1) := by decide +kernel
theorem dX2_init_51 : decode cX2_init 51 = .ok (.putfield 34, 3) := by decide +kernel
theorem dX2_init_54 : decode cX2_init 54 = .ok (.return_, 1) := by decide +kernel
theorem dX2_restart_0 : decode cX2_restart 0 = .ok (.aload_n 0, 1) := by decide +kernel
theorem dX2_restart_1 : decode cX2_restart 1 = .ok (.iconst 0, 1) := by decide +kernel
theorem dX2_restart_2 : decode cX2_restart 2 = .ok (.putfield 21, 3) := by decide +kernel
theorem dX2_restart_5 : decode cX2_restart 5 = .ok (.aload_n 0, 1) := by decide +kernel
theorem dX2_restart_6 : decode cX2_restart 6 = .ok (.bipush 20, 2) := by decide +kernel
theorem dX2_restart_8 : decode cX2_restart 8 = .ok (.putfield 25, 3) := by decide +kernel
theorem dX2_restart_11 : decode cX2_restart 11 = .ok (.return_, 1) := by decide +kernel
theorem dX2_copyFrom_0 : decode cX2_copyFrom 0 = .ok (.aload_n 1, 1) := by decide +kernel
theorem dX2_copyFrom_1 : decode cX2_copyFrom 1 = .ok (.getfield 9, 3) := by decide +kernel
theorem dX2_copyFrom_4 : decode cX2_copyFrom 4 = .ok (.aload_n 0, 1) := by decide +kernel
theorem dX2_copyFrom_5 : decode cX2_copyFrom 5 = .ok (.getfield 9, 3) := by decide +kernel
theorem dX2_copyFrom_8 : decode cX2_copyFrom 8 = .ok (.invokestatic 37, 3) := by decide +kernel
theorem dX2_copyFrom_11 : decode cX2_copyFrom 11 = .ok (.aload_n 1, 1) := by decide +kernel
theorem dX2_copyFrom_12 : decode cX2_copyFrom 12 = .ok (.getfield 15, 3) := by decide +kernel
theorem dX2_copyFrom_15 : decode cX2_copyFrom 15 = .ok (.aload_n 0, 1) := by decide +kernel
theorem dX2_copyFrom_16 : decode cX2_copyFrom 16 = .ok (.getfield 15, 3) := by decide +kernel
theorem dX2_copyFrom_19 : decode cX2_copyFrom 19 = .ok (.invokestatic 37, 3) := by decide +kernel
theorem dX2_copyFrom_22 : decode cX2_copyFrom 22 = .ok (.aload_n 1, 1) := by decide +kernel
theorem dX2_copyFrom_23 : decode cX2_copyFrom 23 = .ok (.getfield 18, 3) := by decide +kernel
theorem dX2_copyFrom_26 : decode cX2_copyFrom 26 = .ok (.aload_n 0, 1) := by decide +kernel
theorem dX2_copyFrom_27 : decode cX2_copyFrom 27 = .ok (.getfield 18, 3) := by decide +kernel
theorem dX2_copyFrom_30 : decode cX2_copyFrom 30 = .ok (.invokestatic 37, 3) := by decide +kernel
theorem dX2_copyFrom_33 : decode cX2_copyFrom 33 = .ok (.aload_n 0, 1) := by decide +kernel
theorem dX2_copyFrom_34 : decode cX2_copyFrom 34 = .ok (.aload_n 1, 1) := by decide +kernel
theorem dX2_copyFrom_35 : decode cX2_copyFrom 35 = .ok (.getfield 21, 3) := by decide +kernel
theorem dX2_copyFrom_38 : decode cX2_copyFrom 38 = .ok (.putfield 21, 3) := by decide +kernel
theorem dX2_copyFrom_41 : decode cX2_copyFrom 41 = .ok (.aload_n 0, 1) := by decide +kernel
theorem dX2_copyFrom_42 : decode cX2_copyFrom 42 = .ok (.aload_n 1, 1) := by decide +kernel
theorem dX2_copyFrom_43 : decode cX2_copyFrom 43 = .ok (.getfield 25, 3) := by decide +kernel
theorem dX2_copyFrom_46 : decode cX2_copyFrom 46 = .ok (.putfield 25, 3) := by decide +kernel
theorem dX2_copyFrom_49 : decode cX2_copyFrom 49 = .ok (.aload_n 0, 1) := by decide +kernel
theorem dX2_copyFrom_50 : decode cX2_copyFrom 50 = .ok (.iconst 0, 1) := by decide +kernel
theorem dX2_copyFrom_51 : decode cX2_copyFrom 51 = .ok (.putfield 28, 3) := by decide +kernel
theorem dX2_copyFrom_54 : decode cX2_copyFrom 54 = .ok (.aload_n 0, 1) := by decide +kernel
theorem dX2_copyFrom_55 : decode cX2_copyFrom 55 = .ok (.iconst 0, 1) := by decide +kernel
theorem dX2_copyFrom_56 : decode cX2_copyFrom 56 = .ok (.putfield 31, 3) := by decide +kernel
theorem dX2_copyFrom_59 : decode cX2_copyFrom 59 = .ok (.aload_n 0, 1) := by decide +kernel
theorem dX2_copyFrom_60 : decode cX2_copyFrom 60 = .ok (.iconst (-1), 1) := by decide +kernel
theorem dX2_copyFrom_61 : decode cX2_copyFrom 61 = .ok (.putfield 34, 3) := by decide +kernel
theorem dX2_copyFrom_64 : decode cX2_copyFrom 64 = .ok (.return_, 1) := by decide +kernel
theorem dX2_has_0 : decode cX2_has 0 = .ok (.iload_n 1, 1) := by decide +kernel
theorem dX2_has_1 : decode cX2_has 1 = .ok (.ifCond .lt 15, 3) := by decide +kernel
theorem dX2_has_4 : decode cX2_has 4 = .ok (.iload_n 1, 1) := by decide +kernel
theorem dX2_has_5 : decode cX2_has 5 = .ok (.aload_n 0, 1) := by decide +kernel
theorem dX2_has_6 : decode cX2_has 6 = .ok (.getfield 21, 3) := by decide +kernel
theorem dX2_has_9 : decode cX2_has 9 = .ok (.if_icmp .ge 7, 3) := by decide +kernel
theorem dX2_has_12 : decode cX2_has 12 = .ok (.iconst 1, 1) := by decide +kernel
theorem dX2_has_13 : decode cX2_has 13 = .ok (.goto 4, 3) := by decide +kernel
theorem dX2_has_16 : decode cX2_has 16 = .ok (.iconst 0, 1) := by decide +kernel
theorem dX2_has_17 : decode cX2_has 17 = .ok (.ireturn, 1) := by decide +kernel
theorem dX2_colourAt_0 : decode cX2_colourAt 0 = .ok (.aload_n 0, 1) := by decide +kernel
theorem dX2_colourAt_1 : decode cX2_colourAt 1 = .ok (.getfield 9, 3) := by decide +kernel
theorem dX2_colourAt_4 : decode cX2_colourAt 4 = .ok (.iload_n 1, 1) := by decide +kernel
theorem dX2_colourAt_5 : decode cX2_colourAt 5 = .ok (.invokestatic 41, 3) := by decide +kernel
theorem dX2_colourAt_8 : decode cX2_colourAt 8 = .ok (.ireturn, 1) := by decide +kernel
theorem dX2_kindAt_0 : decode cX2_kindAt 0 = .ok (.aload_n 0, 1) := by decide +kernel
theorem dX2_kindAt_1 : decode cX2_kindAt 1 = .ok (.getfield 15, 3) := by decide +kernel
theorem dX2_kindAt_4 : decode cX2_kindAt 4 = .ok (.iload_n 1, 1) := by decide +kernel
theorem dX2_kindAt_5 : decode cX2_kindAt 5 = .ok (.invokestatic 41, 3) := by decide +kernel
theorem dX2_kindAt_8 : decode cX2_kindAt 8 = .ok (.ireturn, 1) := by decide +kernel
theorem dX2_tellRow_0 : decode cX2_tellRow 0 = .ok (.iload_n 2, 1) := by decide +kernel
theorem dX2_tellRow_1 : decode cX2_tellRow 1 = .ok (.ifCond .ne 9, 3) := by decide +kernel
theorem dX2_tellRow_4 : decode cX2_tellRow 4 = .ok (.aload_n 0, 1) := by decide +kernel
theorem dX2_tellRow_5 : decode cX2_tellRow 5 = .ok (.iload_n 1, 1) := by decide +kernel
theorem dX2_tellRow_6 : decode cX2_tellRow 6 = .ok (.invokevirtual 45, 3) := by decide +kernel
theorem dX2_tellRow_9 : decode cX2_tellRow 9 = .ok (.ireturn, 1) := by decide +kernel
theorem dX2_tellRow_10 : decode cX2_tellRow 10 = .ok (.iload_n 2, 1) := by decide +kernel
theorem dX2_tellRow_11 : decode cX2_tellRow 11 = .ok (.iconst 1, 1) := by decide +kernel
theorem dX2_tellRow_12 : decode cX2_tellRow 12 = .ok (.if_icmp .ne 11, 3) := by decide +kernel
theorem dX2_tellRow_15 : decode cX2_tellRow 15 = .ok (.aload_n 0, 1) := by decide +kernel
theorem dX2_tellRow_16 : decode cX2_tellRow 16 = .ok (.iload_n 1, 1) := by decide +kernel
theorem dX2_tellRow_17 : decode cX2_tellRow 17 = .ok (.invokevirtual 49, 3) := by decide +kernel
theorem dX2_tellRow_20 : decode cX2_tellRow 20 = .ok (.goto 11, 3) := by decide +kernel
theorem dX2_tellRow_23 : decode cX2_tellRow 23 = .ok (.aload_n 0, 1) := by decide +kernel
theorem dX2_tellRow_24 : decode cX2_tellRow 24 = .ok (.getfield 18, 3) := by decide +kernel
theorem dX2_tellRow_27 : decode cX2_tellRow 27 = .ok (.iload_n 1, 1) := by decide +kernel
theorem dX2_tellRow_28 : decode cX2_tellRow 28 = .ok (.invokestatic 41, 3) := by decide +kernel
theorem dX2_tellRow_31 : decode cX2_tellRow 31 = .ok (.ireturn, 1) := by decide +kernel
theorem dX2_hear_0 : decode cX2_hear 0 = .ok (.aload_n 0, 1) := by decide +kernel
theorem dX2_hear_1 : decode cX2_hear 1 = .ok (.getfield 34, 3) := by decide +kernel
theorem dX2_hear_4 : decode cX2_hear 4 = .ok (.istore_n 3, 1) := by decide +kernel
theorem dX2_hear_5 : decode cX2_hear 5 = .ok (.aload_n 0, 1) := by decide +kernel
theorem dX2_hear_6 : decode cX2_hear 6 = .ok (.iconst (-1), 1) := by decide +kernel
theorem dX2_hear_7 : decode cX2_hear 7 = .ok (.putfield 34, 3) := by decide +kernel
theorem dX2_hear_10 : decode cX2_hear 10 = .ok (.iload_n 1, 1) := by decide +kernel
theorem dX2_hear_11 : decode cX2_hear 11 = .ok (.bipush 101, 2) := by decide +kernel
theorem dX2_hear_13 : decode cX2_hear 13 = .ok (.if_icmp .ne 16, 3) := by decide +kernel
theorem dX2_hear_16 : decode cX2_hear 16 = .ok (.aload_n 0, 1) := by decide +kernel
theorem dX2_hear_17 : decode cX2_hear 17 = .ok (.dup, 1) := by decide +kernel
theorem dX2_hear_18 : decode cX2_hear 18 = .ok (.getfield 25, 3) := by decide +kernel
theorem dX2_hear_21 : decode cX2_hear 21 = .ok (.iconst 1, 1) := by decide +kernel
theorem dX2_hear_22 : decode cX2_hear 22 = .ok (.isub, 1) := by decide +kernel
theorem dX2_hear_23 : decode cX2_hear 23 = .ok (.putfield 25, 3) := by decide +kernel
theorem dX2_hear_26 : decode cX2_hear 26 = .ok (.goto 76, 3) := by decide +kernel
theorem dX2_hear_29 : decode cX2_hear 29 = .ok (.iload_n 1, 1) := by decide +kernel
theorem dX2_hear_30 : decode cX2_hear 30 = .ok (.bipush 102, 2) := by decide +kernel
theorem dX2_hear_32 : decode cX2_hear 32 = .ok (.if_icmp .ne 10, 3) := by decide +kernel
theorem dX2_hear_35 : decode cX2_hear 35 = .ok (.aload_n 0, 1) := by decide +kernel
theorem dX2_hear_36 : decode cX2_hear 36 = .ok (.invokevirtual 52, 3) := by decide +kernel
theorem dX2_hear_39 : decode cX2_hear 39 = .ok (.goto 63, 3) := by decide +kernel
theorem dX2_hear_42 : decode cX2_hear 42 = .ok (.iload_n 1, 1) := by decide +kernel
theorem dX2_hear_43 : decode cX2_hear 43 = .ok (.bipush 100, 2) := by decide +kernel
theorem dX2_hear_45 : decode cX2_hear 45 = .ok (.if_icmp .ne 13, 3) := by decide +kernel
theorem dX2_hear_48 : decode cX2_hear 48 = .ok (.aload_n 0, 1) := by decide +kernel
theorem dX2_hear_49 : decode cX2_hear 49 = .ok (.bipush 6, 2) := by decide +kernel
theorem dX2_hear_51 : decode cX2_hear 51 = .ok (.iconst 2, 1) := by decide +kernel
theorem dX2_hear_52 : decode cX2_hear 52 = .ok (.invokevirtual 55, 3) := by decide +kernel
theorem dX2_hear_55 : decode cX2_hear 55 = .ok (.goto 47, 3) := by decide +kernel
theorem dX2_hear_58 : decode cX2_hear 58 = .ok (.iload_n 1, 1) := by decide +kernel
theorem dX2_hear_59 : decode cX2_hear 59 = .ok (.iload_n 2, 1) := by decide +kernel
theorem dX2_hear_60 : decode cX2_hear 60 = .ok (.invokestatic 59, 3) := by decide +kernel
theorem dX2_hear_63 : decode cX2_hear 63 = .ok (.ifCond .eq 10, 3) := by decide +kernel
theorem dX2_hear_66 : decode cX2_hear 66 = .ok (.aload_n 0, 1) := by decide +kernel
theorem dX2_hear_67 : decode cX2_hear 67 = .ok (.invokevirtual 63, 3) := by decide +kernel
theorem dX2_hear_70 : decode cX2_hear 70 = .ok (.goto 32, 3) := by decide +kernel
theorem dX2_hear_73 : decode cX2_hear 73 = .ok (.aload_n 0, 1) := by decide +kernel
theorem dX2_hear_74 : decode cX2_hear 74 = .ok (.iload_n 1, 1) := by decide +kernel
theorem dX2_hear_75 : decode cX2_hear 75 = .ok (.invokestatic 66, 3) := by decide +kernel
theorem dX2_hear_78 : decode cX2_hear 78 = .ok (.putfield 34, 3) := by decide +kernel
theorem dX2_hear_81 : decode cX2_hear 81 = .ok (.aload_n 0, 1) := by decide +kernel
theorem dX2_hear_82 : decode cX2_hear 82 = .ok (.aload_n 0, 1) := by decide +kernel
theorem dX2_hear_83 : decode cX2_hear 83 = .ok (.getfield 34, 3) := by decide +kernel
theorem dX2_hear_86 : decode cX2_hear 86 = .ok (.aload_n 0, 1) := by decide +kernel
theorem dX2_hear_87 : decode cX2_hear 87 = .ok (.getfield 34, 3) := by decide +kernel
theorem dX2_hear_90 : decode cX2_hear 90 = .ok (.iload_n 3, 1) := by decide +kernel
theorem dX2_hear_91 : decode cX2_hear 91 = .ok (.if_icmp .ne 7, 3) := by decide +kernel
theorem dX2_hear_94 : decode cX2_hear 94 = .ok (.iconst 1, 1) := by decide +kernel
theorem dX2_hear_95 : decode cX2_hear 95 = .ok (.goto 4, 3) := by decide +kernel
theorem dX2_hear_98 : decode cX2_hear 98 = .ok (.iconst 0, 1) := by decide +kernel
theorem dX2_hear_99 : decode cX2_hear 99 = .ok (.invokevirtual 55, 3) := by decide +kernel
theorem dX2_hear_102 : decode cX2_hear 102 = .ok (.return_, 1) := by decide +kernel
theorem dX2_lay_0 : decode cX2_lay 0 = .ok (.aload_n 0, 1) := by decide +kernel
theorem dX2_lay_1 : decode cX2_lay 1 = .ok (.getfield 9, 3) := by decide +kernel
theorem dX2_lay_4 : decode cX2_lay 4 = .ok (.aload_n 0, 1) := by decide +kernel
theorem dX2_lay_5 : decode cX2_lay 5 = .ok (.getfield 21, 3) := by decide +kernel
theorem dX2_lay_8 : decode cX2_lay 8 = .ok (.iload_n 1, 1) := by decide +kernel
theorem dX2_lay_9 : decode cX2_lay 9 = .ok (.invokestatic 69, 3) := by decide +kernel
theorem dX2_lay_12 : decode cX2_lay 12 = .ok (.aload_n 0, 1) := by decide +kernel
theorem dX2_lay_13 : decode cX2_lay 13 = .ok (.getfield 15, 3) := by decide +kernel
theorem dX2_lay_16 : decode cX2_lay 16 = .ok (.aload_n 0, 1) := by decide +kernel
theorem dX2_lay_17 : decode cX2_lay 17 = .ok (.getfield 21, 3) := by decide +kernel
theorem dX2_lay_20 : decode cX2_lay 20 = .ok (.iload_n 2, 1) := by decide +kernel
theorem dX2_lay_21 : decode cX2_lay 21 = .ok (.invokestatic 69, 3) := by decide +kernel
theorem dX2_lay_24 : decode cX2_lay 24 = .ok (.aload_n 0, 1) := by decide +kernel
theorem dX2_lay_25 : decode cX2_lay 25 = .ok (.getfield 18, 3) := by decide +kernel
theorem dX2_lay_28 : decode cX2_lay 28 = .ok (.aload_n 0, 1) := by decide +kernel
theorem dX2_lay_29 : decode cX2_lay 29 = .ok (.getfield 21, 3) := by decide +kernel
theorem dX2_lay_32 : decode cX2_lay 32 = .ok (.aload_n 0, 1) := by decide +kernel
theorem dX2_lay_33 : decode cX2_lay 33 = .ok (.getfield 25, 3) := by decide +kernel
theorem dX2_lay_36 : decode cX2_lay 36 = .ok (.invokestatic 69, 3) := by decide +kernel
theorem dX2_lay_39 : decode cX2_lay 39 = .ok (.aload_n 0, 1) := by decide +kernel
theorem dX2_lay_40 : decode cX2_lay 40 = .ok (.dup, 1) := by decide +kernel
theorem dX2_lay_41 : decode cX2_lay 41 = .ok (.getfield 21, 3) := by decide +kernel
theorem dX2_lay_44 : decode cX2_lay 44 = .ok (.iconst 1, 1) := by decide +kernel
theorem dX2_lay_45 : decode cX2_lay 45 = .ok (.iadd, 1) := by decide +kernel
theorem dX2_lay_46 : decode cX2_lay 46 = .ok (.putfield 21, 3) := by decide +kernel
theorem dX2_lay_49 : decode cX2_lay 49 = .ok (.aload_n 0, 1) := by decide +kernel
theorem dX2_lay_50 : decode cX2_lay 50 = .ok (.dup, 1) := by decide +kernel
theorem dX2_lay_51 : decode cX2_lay 51 = .ok (.getfield 28, 3) := by decide +kernel
theorem dX2_lay_54 : decode cX2_lay 54 = .ok (.iconst 1, 1) := by decide +kernel
theorem dX2_lay_55 : decode cX2_lay 55 = .ok (.iadd, 1) := by decide +kernel
theorem dX2_lay_56 : decode cX2_lay 56 = .ok (.putfield 28, 3) := by decide +kernel
theorem dX2_lay_59 : decode cX2_lay 59 = .ok (.return_, 1) := by decide +kernel
theorem dX2_dropTop_0 : decode cX2_dropTop 0 = .ok (.aload_n 0, 1) := by decide +kernel
theorem dX2_dropTop_1 : decode cX2_dropTop 1 = .ok (.getfield 21, 3) := by decide +kernel
theorem dX2_dropTop_4 : decode cX2_dropTop 4 = .ok (.ifCond .le 23, 3) := by decide +kernel
theorem dX2_dropTop_7 : decode cX2_dropTop 7 = .ok (.aload_n 0, 1) := by decide +kernel
theorem dX2_dropTop_8 : decode cX2_dropTop 8 = .ok (.dup, 1) := by decide +kernel
theorem dX2_dropTop_9 : decode cX2_dropTop 9 = .ok (.getfield 21, 3) := by decide +kernel
theorem dX2_dropTop_12 : decode cX2_dropTop 12 = .ok (.iconst 1, 1) := by decide +kernel
theorem dX2_dropTop_13 : decode cX2_dropTop 13 = .ok (.isub, 1) := by decide +kernel
theorem dX2_dropTop_14 : decode cX2_dropTop 14 = .ok (.putfield 21, 3) := by decide +kernel
theorem dX2_dropTop_17 : decode cX2_dropTop 17 = .ok (.aload_n 0, 1) := by decide +kernel
theorem dX2_dropTop_18 : decode cX2_dropTop 18 = .ok (.dup, 1) := by decide +kernel
theorem dX2_dropTop_19 : decode cX2_dropTop 19 = .ok (.getfield 31, 3) := by decide +kernel
theorem dX2_dropTop_22 : decode cX2_dropTop 22 = .ok (.iconst 1, 1) := by decide +kernel
theorem dX2_dropTop_23 : decode cX2_dropTop 23 = .ok (.iadd, 1) := by decide +kernel
theorem dX2_dropTop_24 : decode cX2_dropTop 24 = .ok (.putfield 31, 3) := by decide +kernel
theorem dX2_dropTop_27 : decode cX2_dropTop 27 = .ok (.return_, 1) := by decide +kernel
theorem dX2_dropColour_0 : decode cX2_dropColour 0 = .ok (.aload_n 0, 1) := by decide +kernel
theorem dX2_dropColour_1 : decode cX2_dropColour 1 = .ok (.aload_n 0, 1) := by decide +kernel
theorem dX2_dropColour_2 : decode cX2_dropColour 2 = .ok (.getfield 21, 3) := by decide +kernel
theorem dX2_dropColour_5 : decode cX2_dropColour 5 = .ok (.iconst 1, 1) := by decide +kernel
theorem dX2_dropColour_6 : decode cX2_dropColour 6 = .ok (.isub, 1) := by decide +kernel
theorem dX2_dropColour_7 : decode cX2_dropColour 7 = .ok (.invokevirtual 45, 3) := by decide +kernel
theorem dX2_dropColour_10 : decode cX2_dropColour 10 = .ok (.istore_n 1, 1) := by decide +kernel
theorem dX2_dropColour_11 : decode cX2_dropColour 11 = .ok (.aload_n 0, 1) := by decide +kernel
theorem dX2_dropColour_12 : decode cX2_dropColour 12 = .ok (.getfield 21, 3) := by decide +kernel
theorem dX2_dropColour_15 : decode cX2_dropColour 15 = .ok (.iconst 1, 1) := by decide +kernel
theorem dX2_dropColour_16 : decode cX2_dropColour 16 = .ok (.isub, 1) := by decide +kernel
theorem dX2_dropColour_17 : decode cX2_dropColour 17 = .ok (.istore_n 2, 1) := by decide +kernel
theorem dX2_dropColour_18 : decode cX2_dropColour 18 = .ok (.iload_n 2, 1) := by decide +kernel
theorem dX2_dropColour_19 : decode cX2_dropColour 19 = .ok (.ifCond .lt 22, 3) := by decide +kernel
theorem dX2_dropColour_22 : decode cX2_dropColour 22 = .ok (.aload_n 0, 1) := by decide +kernel
theorem dX2_dropColour_23 : decode cX2_dropColour 23 = .ok (.iload_n 2, 1) := by decide +kernel
theorem dX2_dropColour_24 : decode cX2_dropColour 24 = .ok (.invokevirtual 45, 3) := by decide +kernel
theorem dX2_dropColour_27 : decode cX2_dropColour 27 = .ok (.iload_n 1, 1) := by decide +kernel
theorem dX2_dropColour_28 : decode cX2_dropColour 28 = .ok (.if_icmp .ne 13, 3) := by decide +kernel
theorem dX2_dropColour_31 : decode cX2_dropColour 31 = .ok (.aload_n 0, 1) := by decide +kernel
theorem dX2_dropColour_32 : decode cX2_dropColour 32 = .ok (.invokevirtual 63, 3) := by decide +kernel
theorem dX2_dropColour_35 : decode cX2_dropColour 35 = .ok (.iinc 2 (-1), 3) := by decide +kernel
theorem dX2_dropColour_38 : decode cX2_dropColour 38 = .ok (.goto (-20), 3) := by decide +kernel
theorem dX2_dropColour_41 : decode cX2_dropColour 41 = .ok (.return_, 1) := by decide +kernel
theorem dX3_init_0 : decode cX3_init 0 = .ok (.aload_n 0, 1) := by decide +kernel
theorem dX3_init_1 : decode cX3_init 1 = .ok (.invokespecial 3, 3) := by decide +kernel
theorem dX3_init_4 : decode cX3_init 4 = .ok (.aload_n 0, 1) := by decide +kernel
theorem dX3_init_5 : decode cX3_init 5 = .ok (.bipush 83, 2) := by decide +kernel
theorem dX3_init_7 : decode cX3_init 7 = .ok (.newarray .long, 2) := by decide +kernel
theorem dX3_init_9 : decode cX3_init 9 = .ok (.putfield 11, 3) := by decide +kernel
theorem dX3_init_12 : decode cX3_init 12 = .ok (.return_, 1) := by decide +kernel
theorem dX3_play_0 : decode cX3_play 0 = .ok (.iconst 0, 1) := by decide +kernel
theorem dX3_play_1 : decode cX3_play 1 = .ok (.istore 4, 2) := by decide +kernel
theorem dX3_play_3 : decode cX3_play 3 = .ok (.iload 4, 2) := by decide +kernel
theorem dX3_play_5 : decode cX3_play 5 = .ok (.bipush 83, 2) := by decide +kernel
theorem dX3_play_7 : decode cX3_play 7 = .ok (.if_icmp .ge 19, 3) := by decide +kernel
theorem dX3_play_10 : decode cX3_play 10 = .ok (.aload_n 0, 1) := by decide +kernel
theorem dX3_play_11 : decode cX3_play 11 = .ok (.getfield 11, 3) := by decide +kernel
theorem dX3_play_14 : decode cX3_play 14 = .ok (.iload 4, 2) := by decide +kernel
theorem dX3_play_16 : decode cX3_play 16 = .ok (.lconst 0, 1) := by decide +kernel
theorem dX3_play_17 : decode cX3_play 17 = .ok (.invokestatic 15, 3) := by decide +kernel
theorem dX3_play_20 : decode cX3_play 20 = .ok (.iinc 4 1, 3) := by decide +kernel
theorem dX3_play_23 : decode cX3_play 23 = .ok (.goto (-20), 3) := by decide +kernel
theorem dX3_play_26 : decode cX3_play 26 = .ok (.aload_n 0, 1) := by decide +kernel
theorem dX3_play_27 : decode cX3_play 27 = .ok (.getfield 11, 3) := by decide +kernel
theorem dX3_play_30 : decode cX3_play 30 = .ok (.iload_n 1, 1) := by decide +kernel
theorem dX3_play_31 : decode cX3_play 31 = .ok (.lconst 1, 1) := by decide +kernel
theorem dX3_play_32 : decode cX3_play 32 = .ok (.invokestatic 15, 3) := by decide +kernel
theorem dX3_play_35 : decode cX3_play 35 = .ok (.iconst 0, 1) := by decide +kernel
theorem dX3_play_36 : decode cX3_play 36 = .ok (.istore 4, 2) := by decide +kernel
theorem dX3_play_38 : decode cX3_play 38 = .ok (.iload 4, 2) := by decide +kernel
theorem dX3_play_40 : decode cX3_play 40 = .ok (.iload_n 2, 1) := by decide +kernel
theorem dX3_play_41 : decode cX3_play 41 = .ok (.if_icmp .ge 14, 3) := by decide +kernel
theorem dX3_play_44 : decode cX3_play 44 = .ok (.aload_n 0, 1) := by decide +kernel
theorem dX3_play_45 : decode cX3_play 45 = .ok (.iload_n 3, 1) := by decide +kernel
theorem dX3_play_46 : decode cX3_play 46 = .ok (.invokevirtual 19, 3) := by decide +kernel
theorem dX3_play_49 : decode cX3_play 49 = .ok (.iinc 4 1, 3) := by decide +kernel
theorem dX3_play_52 : decode cX3_play 52 = .ok (.goto (-14), 3) := by decide +kernel
theorem dX3_play_55 : decode cX3_play 55 = .ok (.return_, 1) := by decide +kernel
theorem dX3_step_0 : decode cX3_step 0 = .ok (.lconst 0, 1) := by decide +kernel
theorem dX3_step_1 : decode cX3_step 1 = .ok (.lstore_n 2, 1) := by decide +kernel
theorem dX3_step_2 : decode cX3_step 2 = .ok (.iconst 0, 1) := by decide +kernel
theorem dX3_step_3 : decode cX3_step 3 = .ok (.istore 4, 2) := by decide +kernel
theorem dX3_step_5 : decode cX3_step 5 = .ok (.iload 4, 2) := by decide +kernel
theorem dX3_step_7 : decode cX3_step 7 = .ok (.bipush 83, 2) := by decide +kernel
theorem dX3_step_9 : decode cX3_step 9 = .ok (.if_icmp .ge 70, 3) := by decide +kernel
theorem dX3_step_12 : decode cX3_step 12 = .ok (.aload_n 0, 1) := by decide +kernel
theorem dX3_step_13 : decode cX3_step 13 = .ok (.getfield 11, 3) := by decide +kernel
theorem dX3_step_16 : decode cX3_step 16 = .ok (.iload 4, 2) := by decide +kernel
theorem dX3_step_18 : decode cX3_step 18 = .ok (.invokestatic 23, 3) := by decide +kernel
theorem dX3_step_21 : decode cX3_step 21 = .ok (.lstore 5, 2) := by decide +kernel
theorem dX3_step_23 : decode cX3_step 23 = .ok (.aload_n 0, 1) := by decide +kernel
theorem dX3_step_24 : decode cX3_step 24 = .ok (.getfield 11, 3) := by decide +kernel
theorem dX3_step_27 : decode cX3_step 27 = .ok (.iload 4, 2) := by decide +kernel
theorem dX3_step_29 : decode cX3_step 29 = .ok (.iconst 1, 1) := by decide +kernel
theorem dX3_step_30 : decode cX3_step 30 = .ok (.iadd, 1) := by decide +kernel
theorem dX3_step_31 : decode cX3_step 31 = .ok (.invokestatic 23, 3) := by decide +kernel
theorem dX3_step_34 : decode cX3_step 34 = .ok (.iload 4, 2) := by decide +kernel
theorem dX3_step_36 : decode cX3_step 36 = .ok (.ifCond .ne 8, 3) := by decide +kernel
theorem dX3_step_39 : decode cX3_step 39 = .ok (.lload 5, 2) := by decide +kernel
theorem dX3_step_41 : decode cX3_step 41 = .ok (.goto 4, 3) := by decide +kernel
theorem dX3_step_44 : decode cX3_step 44 = .ok (.lconst 0, 1) := by decide +kernel
theorem dX3_step_45 : decode cX3_step 45 = .ok (.ladd, 1) := by decide +kernel
theorem dX3_step_46 : decode cX3_step 46 = .ok (.lstore 7, 2) := by decide +kernel
theorem dX3_step_48 : decode cX3_step 48 = .ok (.aload_n 0, 1) := by decide +kernel
theorem dX3_step_49 : decode cX3_step 49 = .ok (.getfield 11, 3) := by decide +kernel
theorem dX3_step_52 : decode cX3_step 52 = .ok (.iload 4, 2) := by decide +kernel
theorem dX3_step_54 : decode cX3_step 54 = .ok (.lload_n 2, 1) := by decide +kernel
theorem dX3_step_55 : decode cX3_step 55 = .ok (.bipush 10, 2) := by decide +kernel
theorem dX3_step_57 : decode cX3_step 57 = .ok (.iload_n 1, 1) := by decide +kernel
theorem dX3_step_58 : decode cX3_step 58 = .ok (.isub, 1) := by decide +kernel
theorem dX3_step_59 : decode cX3_step 59 = .ok (.i2l, 1) := by decide +kernel
theorem dX3_step_60 : decode cX3_step 60 = .ok (.lmul, 1) := by decide +kernel
theorem dX3_step_61 : decode cX3_step 61 = .ok (.lload 7, 2) := by decide +kernel
theorem dX3_step_63 : decode cX3_step 63 = .ok (.iload_n 1, 1) := by decide +kernel
theorem dX3_step_64 : decode cX3_step 64 = .ok (.i2l, 1) := by decide +kernel
theorem dX3_step_65 : decode cX3_step 65 = .ok (.lmul, 1) := by decide +kernel
theorem dX3_step_66 : decode cX3_step 66 = .ok (.ladd, 1) := by decide +kernel
theorem dX3_step_67 : decode cX3_step 67 = .ok (.invokestatic 15, 3) := by decide +kernel
theorem dX3_step_70 : decode cX3_step 70 = .ok (.lload 5, 2) := by decide +kernel
theorem dX3_step_72 : decode cX3_step 72 = .ok (.lstore_n 2, 1) := by decide +kernel
theorem dX3_step_73 : decode cX3_step 73 = .ok (.iinc 4 1, 3) := by decide +kernel
theorem dX3_step_76 : decode cX3_step 76 = .ok (.goto (-71), 3) := by decide +kernel
theorem dX3_step_79 : decode cX3_step 79 = .ok (.return_, 1) := by decide +kernel
theorem dX3_atLeast_0 : decode cX3_atLeast 0 = .ok (.lconst 0, 1) := by decide +kernel
theorem dX3_atLeast_1 : decode cX3_atLeast 1 = .ok (.lstore_n 2, 1) := by decide +kernel
theorem dX3_atLeast_2 : decode cX3_atLeast 2 = .ok (.iconst 0, 1) := by decide +kernel
theorem dX3_atLeast_3 : decode cX3_atLeast 3 = .ok (.iload_n 1, 1) := by decide +kernel
theorem dX3_atLeast_4 : decode cX3_atLeast 4 = .ok (.invokestatic 27, 3) := by decide +kernel
theorem dX3_atLeast_7 : decode cX3_atLeast 7 = .ok (.istore 4, 2) := by decide +kernel
theorem dX3_atLeast_9 : decode cX3_atLeast 9 = .ok (.iload 4, 2) := by decide +kernel
theorem dX3_atLeast_11 : decode cX3_atLeast 11 = .ok (.bipush 83, 2) := by decide +kernel
theorem dX3_atLeast_13 : decode cX3_atLeast 13 = .ok (.if_icmp .ge 21, 3) := by decide +kernel
theorem dX3_atLeast_16 : decode cX3_atLeast 16 = .ok (.lload_n 2, 1) := by decide +kernel
theorem dX3_atLeast_17 : decode cX3_atLeast 17 = .ok (.aload_n 0, 1) := by decide +kernel
theorem dX3_atLeast_18 : decode cX3_atLeast 18 = .ok (.getfield 11, 3) := by decide +kernel
theorem dX3_atLeast_21 : decode cX3_atLeast 21 = .ok (.iload 4, 2) := by decide +kernel
theorem dX3_atLeast_23 : decode cX3_atLeast 23 = .ok (.invokestatic 23, 3) := by decide +kernel
theorem dX3_atLeast_26 : decode cX3_atLeast 26 = .ok (.ladd, 1) := by decide +kernel
theorem dX3_atLeast_27 : decode cX3_atLeast 27 = .ok (.lstore_n 2, 1) := by decide +kernel
theorem dX3_atLeast_28 : decode cX3_atLeast 28 = .ok (.iinc 4 1, 3) := by decide +kernel
theorem dX3_atLeast_31 : decode cX3_atLeast 31 = .ok (.goto (-22), 3) := by decide +kernel
theorem dX3_atLeast_34 : decode cX3_atLeast 34 = .ok (.lload_n 2, 1) := by decide +kernel
theorem dX3_atLeast_35 : decode cX3_atLeast 35 = .ok (.lreturn, 1) := by decide +kernel
theorem dX3_sumOfRows_0 : decode cX3_sumOfRows 0 = .ok (.lconst 0, 1) := by decide +kernel
theorem dX3_sumOfRows_1 : decode cX3_sumOfRows 1 = .ok (.lstore_n 1, 1) := by decide +kernel
theorem dX3_sumOfRows_2 : decode cX3_sumOfRows 2 = .ok (.iconst 0, 1) := by decide +kernel
theorem dX3_sumOfRows_3 : decode cX3_sumOfRows 3 = .ok (.istore_n 3, 1) := by decide +kernel
theorem dX3_sumOfRows_4 : decode cX3_sumOfRows 4 = .ok (.iload_n 3, 1) := by decide +kernel
theorem dX3_sumOfRows_5 : decode cX3_sumOfRows 5 = .ok (.bipush 83, 2) := by decide +kernel
theorem dX3_sumOfRows_7 : decode cX3_sumOfRows 7 = .ok (.if_icmp .ge 23, 3) := by decide +kernel
theorem dX3_sumOfRows_10 : decode cX3_sumOfRows 10 = .ok (.lload_n 1, 1) := by decide +kernel
theorem dX3_sumOfRows_11 : decode cX3_sumOfRows 11 = .ok (.iload_n 3, 1) := by decide +kernel
theorem dX3_sumOfRows_12 : decode cX3_sumOfRows 12 = .ok (.i2l, 1) := by decide +kernel
theorem dX3_sumOfRows_13 : decode cX3_sumOfRows 13 = .ok (.aload_n 0, 1) := by decide +kernel
theorem dX3_sumOfRows_14 : decode cX3_sumOfRows 14 = .ok (.getfield 11, 3) := by decide +kernel
theorem dX3_sumOfRows_17 : decode cX3_sumOfRows 17 = .ok (.iload_n 3, 1) := by decide +kernel
theorem dX3_sumOfRows_18 : decode cX3_sumOfRows 18 = .ok (.invokestatic 23, 3) := by decide +kernel
theorem dX3_sumOfRows_21 : decode cX3_sumOfRows 21 = .ok (.lmul, 1) := by decide +kernel
theorem dX3_sumOfRows_22 : decode cX3_sumOfRows 22 = .ok (.ladd, 1) := by decide +kernel
theorem dX3_sumOfRows_23 : decode cX3_sumOfRows 23 = .ok (.lstore_n 1, 1) := by decide +kernel
theorem dX3_sumOfRows_24 : decode cX3_sumOfRows 24 = .ok (.iinc 3 1, 3) := by decide +kernel
theorem dX3_sumOfRows_27 : decode cX3_sumOfRows 27 = .ok (.goto (-23), 3) := by decide +kernel
theorem dX3_sumOfRows_30 : decode cX3_sumOfRows 30 = .ok (.lload_n 1, 1) := by decide +kernel
theorem dX3_sumOfRows_31 : decode cX3_sumOfRows 31 = .ok (.lreturn, 1) := by decide +kernel
theorem dX4_init_0 : decode cX4_init 0 = .ok (.aload_n 0, 1) := by decide +kernel
theorem dX4_init_1 : decode cX4_init 1 = .ok (.invokespecial 3, 3) := by decide +kernel
theorem dX4_init_4 : decode cX4_init 4 = .ok (.aload_n 0, 1) := by decide +kernel
theorem dX4_init_5 : decode cX4_init 5 = .ok (.sipush 559, 3) := by decide +kernel
theorem dX4_init_8 : decode cX4_init 8 = .ok (.newarray .long, 2) := by decide +kernel
theorem dX4_init_10 : decode cX4_init 10 = .ok (.putfield 11, 3) := by decide +kernel
theorem dX4_init_13 : decode cX4_init 13 = .ok (.return_, 1) := by decide +kernel
theorem dX4_ending_0 : decode cX4_ending 0 = .ok (.iload 4, 2) := by decide +kernel
theorem dX4_ending_2 : decode cX4_ending 2 = .ok (.bipush 43, 2) := by decide +kernel
theorem dX4_ending_4 : decode cX4_ending 4 = .ok (.if_icmp .lt 5, 3) := by decide +kernel
theorem dX4_ending_7 : decode cX4_ending 7 = .ok (.lconst 0, 1) := by decide +kernel
theorem dX4_ending_8 : decode cX4_ending 8 = .ok (.lreturn, 1) := by decide +kernel
theorem dX4_ending_9 : decode cX4_ending 9 = .ok (.iconst 0, 1) := by decide +kernel
theorem dX4_ending_10 : decode cX4_ending 10 = .ok (.istore 5, 2) := by decide +kernel
theorem dX4_ending_12 : decode cX4_ending 12 = .ok (.iload 5, 2) := by decide +kernel
theorem dX4_ending_14 : decode cX4_ending 14 = .ok (.aload_n 0, 1) := by decide +kernel
theorem dX4_ending_15 : decode cX4_ending 15 = .ok (.getfield 11, 3) := by decide +kernel
theorem dX4_ending_18 : decode cX4_ending 18 = .ok (.arraylength, 1) := by decide +kernel
theorem dX4_ending_19 : decode cX4_ending 19 = .ok (.if_icmp .ge 19, 3) := by decide +kernel
theorem dX4_ending_22 : decode cX4_ending 22 = .ok (.aload_n 0, 1) := by decide +kernel
theorem dX4_ending_23 : decode cX4_ending 23 = .ok (.getfield 11, 3) := by decide +kernel
theorem dX4_ending_26 : decode cX4_ending 26 = .ok (.iload 5, 2) := by decide +kernel
theorem dX4_ending_28 : decode cX4_ending 28 = .ok (.lconst 0, 1) := by decide +kernel
theorem dX4_ending_29 : decode cX4_ending 29 = .ok (.invokestatic 15, 3) := by decide +kernel
theorem dX4_ending_32 : decode cX4_ending 32 = .ok (.iinc 5 1, 3) := by decide +kernel
theorem dX4_ending_35 : decode cX4_ending 35 = .ok (.goto (-23), 3) := by decide +kernel
theorem dX4_ending_38 : decode cX4_ending 38 = .ok (.aload_n 0, 1) := by decide +kernel
theorem dX4_ending_39 : decode cX4_ending 39 = .ok (.getfield 11, 3) := by decide +kernel
theorem dX4_ending_42 : decode cX4_ending 42 = .ok (.iload_n 3, 1) := by decide +kernel
theorem dX4_ending_43 : decode cX4_ending 43 = .ok (.lconst 1, 1) := by decide +kernel
theorem dX4_ending_44 : decode cX4_ending 44 = .ok (.invokestatic 15, 3) := by decide +kernel
theorem dX4_ending_47 : decode cX4_ending 47 = .ok (.iconst 0, 1) := by decide +kernel
theorem dX4_ending_48 : decode cX4_ending 48 = .ok (.istore 5, 2) := by decide +kernel
theorem dX4_ending_50 : decode cX4_ending 50 = .ok (.iload 5, 2) := by decide +kernel
theorem dX4_ending_52 : decode cX4_ending 52 = .ok (.iload_n 2, 1) := by decide +kernel
theorem dX4_ending_53 : decode cX4_ending 53 = .ok (.if_icmp .gt 59, 3) := by decide +kernel
theorem dX4_ending_56 : decode cX4_ending 56 = .ok (.iconst 0, 1) := by decide +kernel
theorem dX4_ending_57 : decode cX4_ending 57 = .ok (.istore 6, 2) := by decide +kernel
theorem dX4_ending_59 : decode cX4_ending 59 = .ok (.iload 6, 2) := by decide +kernel
theorem dX4_ending_61 : decode cX4_ending 61 = .ok (.iload_n 1, 1) := by decide +kernel
theorem dX4_ending_62 : decode cX4_ending 62 = .ok (.if_icmp .gt 44, 3) := by decide +kernel
theorem dX4_ending_65 : decode cX4_ending 65 = .ok (.iload 5, 2) := by decide +kernel
theorem dX4_ending_67 : decode cX4_ending 67 = .ok (.ifCond .le 12, 3) := by decide +kernel
theorem dX4_ending_70 : decode cX4_ending 70 = .ok (.aload_n 0, 1) := by decide +kernel
theorem dX4_ending_71 : decode cX4_ending 71 = .ok (.iload 6, 2) := by decide +kernel
theorem dX4_ending_73 : decode cX4_ending 73 = .ok (.bipush 43, 2) := by decide +kernel
theorem dX4_ending_75 : decode cX4_ending 75 = .ok (.imul, 1) := by decide +kernel
theorem dX4_ending_76 : decode cX4_ending 76 = .ok (.invokevirtual 19, 3) := by decide +kernel
theorem dX4_ending_79 : decode cX4_ending 79 = .ok (.iload 6, 2) := by decide +kernel
theorem dX4_ending_81 : decode cX4_ending 81 = .ok (.ifCond .le 19, 3) := by decide +kernel
theorem dX4_ending_84 : decode cX4_ending 84 = .ok (.aload_n 0, 1) := by decide +kernel
theorem dX4_ending_85 : decode cX4_ending 85 = .ok (.iload 6, 2) := by decide +kernel
theorem dX4_ending_87 : decode cX4_ending 87 = .ok (.iconst 1, 1) := by decide +kernel
theorem dX4_ending_88 : decode cX4_ending 88 = .ok (.isub, 1) := by decide +kernel
theorem dX4_ending_89 : decode cX4_ending 89 = .ok (.bipush 43, 2) := by decide +kernel
theorem dX4_ending_91 : decode cX4_ending 91 = .ok (.imul, 1) := by decide +kernel
theorem dX4_ending_92 : decode cX4_ending 92 = .ok (.iload 6, 2) := by decide +kernel
theorem dX4_ending_94 : decode cX4_ending 94 = .ok (.bipush 43, 2) := by decide +kernel
theorem dX4_ending_96 : decode cX4_ending 96 = .ok (.imul, 1) := by decide +kernel
theorem dX4_ending_97 : decode cX4_ending 97 = .ok (.invokevirtual 23, 3) := by decide +kernel
theorem dX4_ending_100 : decode cX4_ending 100 = .ok (.iinc 6 1, 3) := by decide +kernel
theorem dX4_ending_103 : decode cX4_ending 103 = .ok (.goto (-44), 3) := by decide +kernel
theorem dX4_ending_106 : decode cX4_ending 106 = .ok (.iinc 5 1, 3) := by decide +kernel
theorem dX4_ending_109 : decode cX4_ending 109 = .ok (.goto (-59), 3) := by decide +kernel
theorem dX4_ending_112 : decode cX4_ending 112 = .ok (.aload_n 0, 1) := by decide +kernel
theorem dX4_ending_113 : decode cX4_ending 113 = .ok (.getfield 11, 3) := by decide +kernel
theorem dX4_ending_116 : decode cX4_ending 116 = .ok (.iload_n 1, 1) := by decide +kernel
theorem dX4_ending_117 : decode cX4_ending 117 = .ok (.bipush 43, 2) := by decide +kernel
theorem dX4_ending_119 : decode cX4_ending 119 = .ok (.imul, 1) := by decide +kernel
theorem dX4_ending_120 : decode cX4_ending 120 = .ok (.iload 4, 2) := by decide +kernel
theorem dX4_ending_122 : decode cX4_ending 122 = .ok (.iadd, 1) := by decide +kernel
theorem dX4_ending_123 : decode cX4_ending 123 = .ok (.invokestatic 27, 3) := by decide +kernel
theorem dX4_ending_126 : decode cX4_ending 126 = .ok (.lreturn, 1) := by decide +kernel
theorem dX4_raise_0 : decode cX4_raise 0 = .ok (.bipush 42, 2) := by decide +kernel
theorem dX4_raise_2 : decode cX4_raise 2 = .ok (.istore_n 2, 1) := by decide +kernel
theorem dX4_raise_3 : decode cX4_raise 3 = .ok (.iload_n 2, 1) := by decide +kernel
theorem dX4_raise_4 : decode cX4_raise 4 = .ok (.ifCond .le 31, 3) := by decide +kernel
theorem dX4_raise_7 : decode cX4_raise 7 = .ok (.aload_n 0, 1) := by decide +kernel
theorem dX4_raise_8 : decode cX4_raise 8 = .ok (.getfield 11, 3) := by decide +kernel
theorem dX4_raise_11 : decode cX4_raise 11 = .ok (.iload_n 1, 1) := by decide +kernel
theorem dX4_raise_12 : decode cX4_raise 12 = .ok (.iload_n 2, 1) := by decide +kernel
theorem dX4_raise_13 : decode cX4_raise 13 = .ok (.iadd, 1) := by decide +kernel
theorem dX4_raise_14 : decode cX4_raise 14 = .ok (.aload_n 0, 1) := by decide +kernel
theorem dX4_raise_15 : decode cX4_raise 15 = .ok (.getfield 11, 3) := by decide +kernel
theorem dX4_raise_18 : decode cX4_raise 18 = .ok (.iload_n 1, 1) := by decide +kernel
theorem dX4_raise_19 : decode cX4_raise 19 = .ok (.iload_n 2, 1) := by decide +kernel
theorem dX4_raise_20 : decode cX4_raise 20 = .ok (.iadd, 1) := by decide +kernel
theorem dX4_raise_21 : decode cX4_raise 21 = .ok (.iconst 1, 1) := by decide +kernel
theorem dX4_raise_22 : decode cX4_raise 22 = .ok (.isub, 1) := by decide +kernel
theorem dX4_raise_23 : decode cX4_raise 23 = .ok (.invokestatic 27, 3) := by decide +kernel
theorem dX4_raise_26 : decode cX4_raise 26 = .ok (.invokestatic 15, 3) := by decide +kernel
theorem dX4_raise_29 : decode cX4_raise 29 = .ok (.iinc 2 (-1), 3) := by decide +kernel
theorem dX4_raise_32 : decode cX4_raise 32 = .ok (.goto (-29), 3) := by decide +kernel
theorem dX4_raise_35 : decode cX4_raise 35 = .ok (.aload_n 0, 1) := by decide +kernel
theorem dX4_raise_36 : decode cX4_raise 36 = .ok (.getfield 11, 3) := by decide +kernel
theorem dX4_raise_39 : decode cX4_raise 39 = .ok (.iload_n 1, 1) := by decide +kernel
theorem dX4_raise_40 : decode cX4_raise 40 = .ok (.lconst 0, 1) := by decide +kernel
theorem dX4_raise_41 : decode cX4_raise 41 = .ok (.invokestatic 15, 3) := by decide +kernel
theorem dX4_raise_44 : decode cX4_raise 44 = .ok (.return_, 1) := by decide +kernel
theorem dX4_addDropped_0 : decode cX4_addDropped 0 = .ok (.iconst 0, 1) := by decide +kernel
theorem dX4_addDropped_1 : decode cX4_addDropped 1 = .ok (.istore_n 3, 1) := by decide +kernel
theorem dX4_addDropped_2 : decode cX4_addDropped 2 = .ok (.iload_n 3, 1) := by decide +kernel
theorem dX4_addDropped_3 : decode cX4_addDropped 3 = .ok (.bipush 43, 2) := by decide +kernel
theorem dX4_addDropped_5 : decode cX4_addDropped 5 = .ok (.if_icmp .ge 49, 3) := by decide +kernel
theorem dX4_addDropped_8 : decode cX4_addDropped 8 = .ok (.iload_n 2, 1) := by decide +kernel
theorem dX4_addDropped_9 : decode cX4_addDropped 9 = .ok (.iconst 0, 1) := by decide +kernel
theorem dX4_addDropped_10 : decode cX4_addDropped 10 = .ok (.iload_n 3, 1) := by decide +kernel
theorem dX4_addDropped_11 : decode cX4_addDropped 11 = .ok (.iconst 1, 1) := by decide +kernel
theorem dX4_addDropped_12 : decode cX4_addDropped 12 = .ok (.isub, 1) := by decide +kernel
theorem dX4_addDropped_13 : decode cX4_addDropped 13 = .ok (.invokestatic 31, 3) := by decide +kernel
theorem dX4_addDropped_16 : decode cX4_addDropped 16 = .ok (.iadd, 1) := by decide +kernel
theorem dX4_addDropped_17 : decode cX4_addDropped 17 = .ok (.istore 4, 2) := by decide +kernel
theorem dX4_addDropped_19 : decode cX4_addDropped 19 = .ok (.aload_n 0, 1) := by decide +kernel
theorem dX4_addDropped_20 : decode cX4_addDropped 20 = .ok (.getfield 11, 3) := by decide +kernel
theorem dX4_addDropped_23 : decode cX4_addDropped 23 = .ok (.iload 4, 2) := by decide +kernel
theorem dX4_addDropped_25 : decode cX4_addDropped 25 = .ok (.aload_n 0, 1) := by decide +kernel
theorem dX4_addDropped_26 : decode cX4_addDropped 26 = .ok (.getfield 11, 3) := by decide +kernel
theorem dX4_addDropped_29 : decode cX4_addDropped 29 = .ok (.iload 4, 2) := by decide +kernel
theorem dX4_addDropped_31 : decode cX4_addDropped 31 = .ok (.invokestatic 27, 3) := by decide +kernel
theorem dX4_addDropped_34 : decode cX4_addDropped 34 = .ok (.aload_n 0, 1) := by decide +kernel
theorem dX4_addDropped_35 : decode cX4_addDropped 35 = .ok (.getfield 11, 3) := by decide +kernel
theorem dX4_addDropped_38 : decode cX4_addDropped 38 = .ok (.iload_n 1, 1) := by decide +kernel
theorem dX4_addDropped_39 : decode cX4_addDropped 39 = .ok (.iload_n 3, 1) := by decide +kernel
theorem dX4_addDropped_40 : decode cX4_addDropped 40 = .ok (.iadd, 1) := by decide +kernel
theorem dX4_addDropped_41 : decode cX4_addDropped 41 = .ok (.invokestatic 27, 3) := by decide +kernel
theorem dX4_addDropped_44 : decode cX4_addDropped 44 = .ok (.ladd, 1) := by decide +kernel
theorem dX4_addDropped_45 : decode cX4_addDropped 45 = .ok (.invokestatic 15, 3) := by decide +kernel
theorem dX4_addDropped_48 : decode cX4_addDropped 48 = .ok (.iinc 3 1, 3) := by decide +kernel
theorem dX4_addDropped_51 : decode cX4_addDropped 51 = .ok (.goto (-49), 3) := by decide +kernel
theorem dX4_addDropped_54 : decode cX4_addDropped 54 = .ok (.return_, 1) := by decide +kernel
theorem dX5_init_0 : decode cX5_init 0 = .ok (.aload_n 0, 1) := by decide +kernel
theorem dX5_init_1 : decode cX5_init 1 = .ok (.invokespecial 3, 3) := by decide +kernel
theorem dX5_init_4 : decode cX5_init 4 = .ok (.aload_n 0, 1) := by decide +kernel
theorem dX5_init_5 : decode cX5_init 5 = .ok (.bipush 60, 2) := by decide +kernel
theorem dX5_init_7 : decode cX5_init 7 = .ok (.newarray .int, 2) := by decide +kernel
theorem dX5_init_9 : decode cX5_init 9 = .ok (.putfield 9, 3) := by decide +kernel
theorem dX5_init_12 : decode cX5_init 12 = .ok (.aload_n 0, 1) := by decide +kernel
theorem dX5_init_13 : decode cX5_init 13 = .ok (.iconst 0, 1) := by decide +kernel
theorem dX5_init_14 : decode cX5_init 14 = .ok (.putfield 15, 3) := by decide +kernel
theorem dX5_init_17 : decode cX5_init 17 = .ok (.return_, 1) := by decide +kernel
theorem dX5_add_0 : decode cX5_add 0 = .ok (.aload_n 0, 1) := by decide +kernel
theorem dX5_add_1 : decode cX5_add 1 = .ok (.getfield 15, 3) := by decide +kernel
theorem dX5_add_4 : decode cX5_add 4 = .ok (.bipush 60, 2) := by decide +kernel
theorem dX5_add_6 : decode cX5_add 6 = .ok (.if_icmp .lt 6, 3) := by decide +kernel
theorem dX5_add_9 : decode cX5_add 9 = .ok (.bipush (-4), 2) := by decide +kernel
theorem dX5_add_11 : decode cX5_add 11 = .ok (.ireturn, 1) := by decide +kernel
theorem dX5_add_12 : decode cX5_add 12 = .ok (.aload_n 0, 1) := by decide +kernel
theorem dX5_add_13 : decode cX5_add 13 = .ok (.getfield 9, 3) := by decide +kernel
theorem dX5_add_16 : decode cX5_add 16 = .ok (.aload_n 0, 1) := by decide +kernel
theorem dX5_add_17 : decode cX5_add 17 = .ok (.getfield 15, 3) := by decide +kernel
theorem dX5_add_20 : decode cX5_add 20 = .ok (.iload_n 1, 1) := by decide +kernel
theorem dX5_add_21 : decode cX5_add 21 = .ok (.invokestatic 19, 3) := by decide +kernel
theorem dX5_add_24 : decode cX5_add 24 = .ok (.aload_n 0, 1) := by decide +kernel
theorem dX5_add_25 : decode cX5_add 25 = .ok (.dup, 1) := by decide +kernel
theorem dX5_add_26 : decode cX5_add 26 = .ok (.getfield 15, 3) := by decide +kernel
theorem dX5_add_29 : decode cX5_add 29 = .ok (.iconst 1, 1) := by decide +kernel
theorem dX5_add_30 : decode cX5_add 30 = .ok (.iadd, 1) := by decide +kernel
theorem dX5_add_31 : decode cX5_add 31 = .ok (.putfield 15, 3) := by decide +kernel
theorem dX5_add_34 : decode cX5_add 34 = .ok (.aload_n 0, 1) := by decide +kernel
theorem dX5_add_35 : decode cX5_add 35 = .ok (.getfield 15, 3) := by decide +kernel
theorem dX5_add_38 : decode cX5_add 38 = .ok (.ireturn, 1) := by decide +kernel
theorem dX6_init_0 : decode cX6_init 0 = .ok (.aload_n 0, 1) := by decide +kernel
theorem dX6_init_1 : decode cX6_init 1 = .ok (.invokespecial 3, 3) := by decide +kernel
theorem dX6_init_4 : decode cX6_init 4 = .ok (.aload_n 0, 1) := by decide +kernel
theorem dX6_init_5 : decode cX6_init 5 = .ok (.bipush 60, 2) := by decide +kernel
theorem dX6_init_7 : decode cX6_init 7 = .ok (.newarray .int, 2) := by decide +kernel
theorem dX6_init_9 : decode cX6_init 9 = .ok (.putfield 9, 3) := by decide +kernel
theorem dX6_init_12 : decode cX6_init 12 = .ok (.aload_n 0, 1) := by decide +kernel
theorem dX6_init_13 : decode cX6_init 13 = .ok (.bipush 60, 2) := by decide +kernel
theorem dX6_init_15 : decode cX6_init 15 = .ok (.newarray .int, 2) := by decide +kernel
theorem dX6_init_17 : decode cX6_init 17 = .ok (.putfield 15, 3) := by decide +kernel
theorem dX6_init_20 : decode cX6_init 20 = .ok (.aload_n 0, 1) := by decide +kernel
theorem dX6_init_21 : decode cX6_init 21 = .ok (.iconst 0, 1) := by decide +kernel
theorem dX6_init_22 : decode cX6_init 22 = .ok (.putfield 18, 3) := by decide +kernel
theorem dX6_init_25 : decode cX6_init 25 = .ok (.return_, 1) := by decide +kernel
theorem dX6_read_0 : decode cX6_read 0 = .ok (.aload_n 0, 1) := by decide +kernel
theorem dX6_read_1 : decode cX6_read 1 = .ok (.iconst 0, 1) := by decide +kernel
theorem dX6_read_2 : decode cX6_read 2 = .ok (.putfield 18, 3) := by decide +kernel
theorem dX6_read_5 : decode cX6_read 5 = .ok (.iconst 0, 1) := by decide +kernel
theorem dX6_read_6 : decode cX6_read 6 = .ok (.istore_n 2, 1) := by decide +kernel
theorem dX6_read_7 : decode cX6_read 7 = .ok (.iconst 0, 1) := by decide +kernel
theorem dX6_read_8 : decode cX6_read 8 = .ok (.istore_n 3, 1) := by decide +kernel
theorem dX6_read_9 : decode cX6_read 9 = .ok (.iload_n 3, 1) := by decide +kernel
theorem dX6_read_10 : decode cX6_read 10 = .ok (.aload_n 1, 1) := by decide +kernel
theorem dX6_read_11 : decode cX6_read 11 = .ok (.getfield 22, 3) := by decide +kernel
theorem dX6_read_14 : decode cX6_read 14 = .ok (.if_icmp .ge 96, 3) := by decide +kernel
theorem dX6_read_17 : decode cX6_read 17 = .ok (.aload_n 1, 1) := by decide +kernel
theorem dX6_read_18 : decode cX6_read 18 = .ok (.getfield 25, 3) := by decide +kernel
theorem dX6_read_21 : decode cX6_read 21 = .ok (.iload_n 3, 1) := by decide +kernel
theorem dX6_read_22 : decode cX6_read 22 = .ok (.invokestatic 28, 3) := by decide +kernel
theorem dX6_read_25 : decode cX6_read 25 = .ok (.istore 4, 2) := by decide +kernel
theorem dX6_read_27 : decode cX6_read 27 = .ok (.iload 4, 2) := by decide +kernel
theorem dX6_read_29 : decode cX6_read 29 = .ok (.bipush 42, 2) := by decide +kernel
theorem dX6_read_31 : decode cX6_read 31 = .ok (.if_icmp .ne 26, 3) := by decide +kernel
theorem dX6_read_34 : decode cX6_read 34 = .ok (.iload_n 2, 1) := by decide +kernel
theorem dX6_read_35 : decode cX6_read 35 = .ok (.ifCond .eq 22, 3) := by decide +kernel
theorem dX6_read_38 : decode cX6_read 38 = .ok (.aload_n 0, 1) := by decide +kernel
theorem dX6_read_39 : decode cX6_read 39 = .ok (.getfield 15, 3) := by decide +kernel
theorem dX6_read_42 : decode cX6_read 42 = .ok (.aload_n 0, 1) := by decide +kernel
theorem dX6_read_43 : decode cX6_read 43 = .ok (.getfield 18, 3) := by decide +kernel
theorem dX6_read_46 : decode cX6_read 46 = .ok (.iconst 1, 1) := by decide +kernel
theorem dX6_read_47 : decode cX6_read 47 = .ok (.isub, 1) := by decide +kernel
theorem dX6_read_48 : decode cX6_read 48 = .ok (.iconst 1, 1) := by decide +kernel
theorem dX6_read_49 : decode cX6_read 49 = .ok (.invokestatic 32, 3) := by decide +kernel
theorem dX6_read_52 : decode cX6_read 52 = .ok (.iconst 0, 1) := by decide +kernel
theorem dX6_read_53 : decode cX6_read 53 = .ok (.istore_n 2, 1) := by decide +kernel
theorem dX6_read_54 : decode cX6_read 54 = .ok (.goto 50, 3) := by decide +kernel
theorem dX6_read_57 : decode cX6_read 57 = .ok (.iload 4, 2) := by decide +kernel
theorem dX6_read_59 : decode cX6_read 59 = .ok (.bipush 109, 2) := by decide +kernel
theorem dX6_read_61 : decode cX6_read 61 = .ok (.if_icmp .ne 15, 3) := by decide +kernel
theorem dX6_read_64 : decode cX6_read 64 = .ok (.aload_n 0, 1) := by decide +kernel
theorem dX6_read_65 : decode cX6_read 65 = .ok (.bipush 6, 2) := by decide +kernel
theorem dX6_read_67 : decode cX6_read 67 = .ok (.iconst 2, 1) := by decide +kernel
theorem dX6_read_68 : decode cX6_read 68 = .ok (.invokevirtual 36, 3) := by decide +kernel
theorem dX6_read_71 : decode cX6_read 71 = .ok (.iconst 0, 1) := by decide +kernel
theorem dX6_read_72 : decode cX6_read 72 = .ok (.istore_n 2, 1) := by decide +kernel
theorem dX6_read_73 : decode cX6_read 73 = .ok (.goto 31, 3) := by decide +kernel
theorem dX6_read_76 : decode cX6_read 76 = .ok (.iload 4, 2) := by decide +kernel
theorem dX6_read_78 : decode cX6_read 78 = .ok (.bipush 65, 2) := by decide +kernel
theorem dX6_read_80 : decode cX6_read 80 = .ok (.isub, 1) := by decide +kernel
theorem dX6_read_81 : decode cX6_read 81 = .ok (.invokestatic 40, 3) := by decide +kernel
theorem dX6_read_84 : decode cX6_read 84 = .ok (.ifCond .eq 18, 3) := by decide +kernel
theorem dX6_read_87 : decode cX6_read 87 = .ok (.aload_n 0, 1) := by decide +kernel
theorem dX6_read_88 : decode cX6_read 88 = .ok (.iload 4, 2) := by decide +kernel
theorem dX6_read_90 : decode cX6_read 90 = .ok (.bipush 65, 2) := by decide +kernel
theorem dX6_read_92 : decode cX6_read 92 = .ok (.isub, 1) := by decide +kernel
theorem dX6_read_93 : decode cX6_read 93 = .ok (.iconst 0, 1) := by decide +kernel
theorem dX6_read_94 : decode cX6_read 94 = .ok (.invokevirtual 36, 3) := by decide +kernel
theorem dX6_read_97 : decode cX6_read 97 = .ok (.iconst 1, 1) := by decide +kernel
theorem dX6_read_98 : decode cX6_read 98 = .ok (.istore_n 2, 1) := by decide +kernel
theorem dX6_read_99 : decode cX6_read 99 = .ok (.goto 5, 3) := by decide +kernel
theorem dX6_read_102 : decode cX6_read 102 = .ok (.iload_n 3, 1) := by decide +kernel
theorem dX6_read_103 : decode cX6_read 103 = .ok (.ireturn, 1) := by decide +kernel
theorem dX6_read_104 : decode cX6_read 104 = .ok (.iinc 3 1, 3) := by decide +kernel
theorem dX6_read_107 : decode cX6_read 107 = .ok (.goto (-98), 3) := by decide +kernel
theorem dX6_read_110 : decode cX6_read 110 = .ok (.bipush (-6), 2) := by decide +kernel
theorem dX6_read_112 : decode cX6_read 112 = .ok (.ireturn, 1) := by decide +kernel
theorem dX6_add_0 : decode cX6_add 0 = .ok (.aload_n 0, 1) := by decide +kernel
theorem dX6_add_1 : decode cX6_add 1 = .ok (.getfield 9, 3) := by decide +kernel
theorem dX6_add_4 : decode cX6_add 4 = .ok (.aload_n 0, 1) := by decide +kernel
theorem dX6_add_5 : decode cX6_add 5 = .ok (.getfield 18, 3) := by decide +kernel
theorem dX6_add_8 : decode cX6_add 8 = .ok (.iload_n 1, 1) := by decide +kernel
theorem dX6_add_9 : decode cX6_add 9 = .ok (.invokestatic 32, 3) := by decide +kernel
theorem dX6_add_12 : decode cX6_add 12 = .ok (.aload_n 0, 1) := by decide +kernel
theorem dX6_add_13 : decode cX6_add 13 = .ok (.getfield 15, 3) := by decide +kernel
theorem dX6_add_16 : decode cX6_add 16 = .ok (.aload_n 0, 1) := by decide +kernel
theorem dX6_add_17 : decode cX6_add 17 = .ok (.getfield 18, 3) := by decide +kernel
theorem dX6_add_20 : decode cX6_add 20 = .ok (.iload_n 2, 1) := by decide +kernel
theorem dX6_add_21 : decode cX6_add 21 = .ok (.invokestatic 32, 3) := by decide +kernel
theorem dX6_add_24 : decode cX6_add 24 = .ok (.aload_n 0, 1) := by decide +kernel
theorem dX6_add_25 : decode cX6_add 25 = .ok (.dup, 1) := by decide +kernel
theorem dX6_add_26 : decode cX6_add 26 = .ok (.getfield 18, 3) := by decide +kernel
theorem dX6_add_29 : decode cX6_add 29 = .ok (.iconst 1, 1) := by decide +kernel
theorem dX6_add_30 : decode cX6_add 30 = .ok (.iadd, 1) := by decide +kernel
theorem dX6_add_31 : decode cX6_add 31 = .ok (.putfield 18, 3) := by decide +kernel
theorem dX6_add_34 : decode cX6_add 34 = .ok (.return_, 1) := by decide +kernel
theorem dX7_init_0 : decode cX7_init 0 = .ok (.aload_n 0, 1) := by decide +kernel
theorem dX7_init_1 : decode cX7_init 1 = .ok (.invokespecial 3, 3) := by decide +kernel
theorem dX7_init_4 : decode cX7_init 4 = .ok (.aload_n 0, 1) := by decide +kernel
theorem dX7_init_5 : decode cX7_init 5 = .ok (.iconst 0, 1) := by decide +kernel
theorem dX7_init_6 : decode cX7_init 6 = .ok (.putfield 9, 3) := by decide +kernel
theorem dX7_init_9 : decode cX7_init 9 = .ok (.aload_n 0, 1) := by decide +kernel
theorem dX7_init_10 : decode cX7_init 10 = .ok (.bipush (-6), 2) := by decide +kernel
theorem dX7_init_12 : decode cX7_init 12 = .ok (.putfield 15, 3) := by decide +kernel
theorem dX7_init_15 : decode cX7_init 15 = .ok (.aload_n 0, 1) := by decide +kernel
theorem dX7_init_16 : decode cX7_init 16 = .ok (.iconst 0, 1) := by decide +kernel
theorem dX7_init_17 : decode cX7_init 17 = .ok (.putfield 18, 3) := by decide +kernel
theorem dX7_init_20 : decode cX7_init 20 = .ok (.aload_n 0, 1) := by decide +kernel
theorem dX7_init_21 : decode cX7_init 21 = .ok (.iconst 0, 1) := by decide +kernel
theorem dX7_init_22 : decode cX7_init 22 = .ok (.putfield 21, 3) := by decide +kernel
theorem dX7_init_25 : decode cX7_init 25 = .ok (.aload_n 0, 1) := by decide +kernel
theorem dX7_init_26 : decode cX7_init 26 = .ok (.bipush 8, 2) := by decide +kernel
theorem dX7_init_28 : decode cX7_init 28 = .ok (.newarray .int, 2) := by decide +kernel
theorem dX7_init_30 : decode cX7_init 30 = .ok (.putfield 24, 3) := by decide +kernel
theorem dX7_init_33 : decode cX7_init 33 = .ok (.return_, 1) := by decide +kernel
theorem dX7_clear_0 : decode cX7_clear 0 = .ok (.aload_n 0, 1) := by decide +kernel
theorem dX7_clear_1 : decode cX7_clear 1 = .ok (.iconst 0, 1) := by decide +kernel
theorem dX7_clear_2 : decode cX7_clear 2 = .ok (.putfield 9, 3) := by decide +kernel
theorem dX7_clear_5 : decode cX7_clear 5 = .ok (.aload_n 0, 1) := by decide +kernel
theorem dX7_clear_6 : decode cX7_clear 6 = .ok (.bipush (-6), 2) := by decide +kernel
theorem dX7_clear_8 : decode cX7_clear 8 = .ok (.putfield 15, 3) := by decide +kernel
theorem dX7_clear_11 : decode cX7_clear 11 = .ok (.aload_n 0, 1) := by decide +kernel
theorem dX7_clear_12 : decode cX7_clear 12 = .ok (.iconst 0, 1) := by decide +kernel
theorem dX7_clear_13 : decode cX7_clear 13 = .ok (.putfield 18, 3) := by decide +kernel
theorem dX7_clear_16 : decode cX7_clear 16 = .ok (.aload_n 0, 1) := by decide +kernel
theorem dX7_clear_17 : decode cX7_clear 17 = .ok (.iconst 0, 1) := by decide +kernel
theorem dX7_clear_18 : decode cX7_clear 18 = .ok (.putfield 21, 3) := by decide +kernel
theorem dX7_clear_21 : decode cX7_clear 21 = .ok (.iconst 0, 1) := by decide +kernel
theorem dX7_clear_22 : decode cX7_clear 22 = .ok (.istore_n 1, 1) := by decide +kernel
theorem dX7_clear_23 : decode cX7_clear 23 = .ok (.iload_n 1, 1) := by decide +kernel
theorem dX7_clear_24 : decode cX7_clear 24 = .ok (.bipush 8, 2) := by decide +kernel
theorem dX7_clear_26 : decode cX7_clear 26 = .ok (.if_icmp .ge 18, 3) := by decide +kernel
theorem dX7_clear_29 : decode cX7_clear 29 = .ok (.aload_n 0, 1) := by decide +kernel
theorem dX7_clear_30 : decode cX7_clear 30 = .ok (.getfield 24, 3) := by decide +kernel
theorem dX7_clear_33 : decode cX7_clear 33 = .ok (.iload_n 1, 1) := by decide +kernel
theorem dX7_clear_34 : decode cX7_clear 34 = .ok (.iconst 0, 1) := by decide +kernel
theorem dX7_clear_35 : decode cX7_clear 35 = .ok (.invokestatic 28, 3) := by decide +kernel
theorem dX7_clear_38 : decode cX7_clear 38 = .ok (.iinc 1 1, 3) := by decide +kernel
theorem dX7_clear_41 : decode cX7_clear 41 = .ok (.goto (-18), 3) := by decide +kernel
theorem dX7_clear_44 : decode cX7_clear 44 = .ok (.return_, 1) := by decide +kernel
theorem dX7_add_0 : decode cX7_add 0 = .ok (.aload_n 0, 1) := by decide +kernel
theorem dX7_add_1 : decode cX7_add 1 = .ok (.getfield 9, 3) := by decide +kernel
theorem dX7_add_4 : decode cX7_add 4 = .ok (.ifCond .ne 13, 3) := by decide +kernel
theorem dX7_add_7 : decode cX7_add 7 = .ok (.aload_n 0, 1) := by decide +kernel
theorem dX7_add_8 : decode cX7_add 8 = .ok (.iload_n 1, 1) := by decide +kernel
theorem dX7_add_9 : decode cX7_add 9 = .ok (.putfield 15, 3) := by decide +kernel
theorem dX7_add_12 : decode cX7_add 12 = .ok (.aload_n 0, 1) := by decide +kernel
theorem dX7_add_13 : decode cX7_add 13 = .ok (.iload_n 1, 1) := by decide +kernel
theorem dX7_add_14 : decode cX7_add 14 = .ok (.putfield 18, 3) := by decide +kernel
theorem dX7_add_17 : decode cX7_add 17 = .ok (.aload_n 0, 1) := by decide +kernel
theorem dX7_add_18 : decode cX7_add 18 = .ok (.dup, 1) := by decide +kernel
theorem dX7_add_19 : decode cX7_add 19 = .ok (.getfield 9, 3) := by decide +kernel
theorem dX7_add_22 : decode cX7_add 22 = .ok (.iconst 1, 1) := by decide +kernel
theorem dX7_add_23 : decode cX7_add 23 = .ok (.iadd, 1) := by decide +kernel
theorem dX7_add_24 : decode cX7_add 24 = .ok (.putfield 9, 3) := by decide +kernel
theorem dX7_add_27 : decode cX7_add 27 = .ok (.aload_n 0, 1) := by decide +kernel
theorem dX7_add_28 : decode cX7_add 28 = .ok (.dup, 1) := by decide +kernel
theorem dX7_add_29 : decode cX7_add 29 = .ok (.getfield 18, 3) := by decide +kernel
theorem dX7_add_32 : decode cX7_add 32 = .ok (.iload_n 1, 1) := by decide +kernel
theorem dX7_add_33 : decode cX7_add 33 = .ok (.iand, 1) := by decide +kernel
theorem dX7_add_34 : decode cX7_add 34 = .ok (.putfield 18, 3) := by decide +kernel
theorem dX7_add_37 : decode cX7_add 37 = .ok (.aload_n 0, 1) := by decide +kernel
theorem dX7_add_38 : decode cX7_add 38 = .ok (.dup, 1) := by decide +kernel
theorem dX7_add_39 : decode cX7_add 39 = .ok (.getfield 21, 3) := by decide +kernel
theorem dX7_add_42 : decode cX7_add 42 = .ok (.iload_n 1, 1) := by decide +kernel
theorem dX7_add_43 : decode cX7_add 43 = .ok (.ior, 1) := by decide +kernel
theorem dX7_add_44 : decode cX7_add 44 = .ok (.putfield 21, 3) := by decide +kernel
theorem dX7_add_47 : decode cX7_add 47 = .ok (.iconst 0, 1) := by decide +kernel
theorem dX7_add_48 : decode cX7_add 48 = .ok (.istore_n 2, 1) := by decide +kernel
theorem dX7_add_49 : decode cX7_add 49 = .ok (.iload_n 2, 1) := by decide +kernel
theorem dX7_add_50 : decode cX7_add 50 = .ok (.bipush 8, 2) := by decide +kernel
theorem dX7_add_52 : decode cX7_add 52 = .ok (.if_icmp .ge 31, 3) := by decide +kernel
theorem dX7_add_55 : decode cX7_add 55 = .ok (.aload_n 0, 1) := by decide +kernel
theorem dX7_add_56 : decode cX7_add 56 = .ok (.getfield 24, 3) := by decide +kernel
theorem dX7_add_59 : decode cX7_add 59 = .ok (.iload_n 2, 1) := by decide +kernel
theorem dX7_add_60 : decode cX7_add 60 = .ok (.aload_n 0, 1) := by decide +kernel
theorem dX7_add_61 : decode cX7_add 61 = .ok (.getfield 24, 3) := by decide +kernel
theorem dX7_add_64 : decode cX7_add 64 = .ok (.iload_n 2, 1) := by decide +kernel
theorem dX7_add_65 : decode cX7_add 65 = .ok (.invokestatic 32, 3) := by decide +kernel
theorem dX7_add_68 : decode cX7_add 68 = .ok (.iload_n 1, 1) := by decide +kernel
theorem dX7_add_69 : decode cX7_add 69 = .ok (.iload_n 2, 1) := by decide +kernel
theorem dX7_add_70 : decode cX7_add 70 = .ok (.ishr, 1) := by decide +kernel
theorem dX7_add_71 : decode cX7_add 71 = .ok (.iconst 1, 1) := by decide +kernel
theorem dX7_add_72 : decode cX7_add 72 = .ok (.iand, 1) := by decide +kernel
theorem dX7_add_73 : decode cX7_add 73 = .ok (.iadd, 1) := by decide +kernel
theorem dX7_add_74 : decode cX7_add 74 = .ok (.invokestatic 28, 3) := by decide +kernel
theorem dX7_add_77 : decode cX7_add 77 = .ok (.iinc 2 1, 3) := by decide +kernel
theorem dX7_add_80 : decode cX7_add 80 = .ok (.goto (-31), 3) := by decide +kernel
theorem dX7_add_83 : decode cX7_add 83 = .ok (.return_, 1) := by decide +kernel
theorem dX7_leftAtMost_0 : decode cX7_leftAtMost 0 = .ok (.aload_n 0, 1) := by decide +kernel
theorem dX7_leftAtMost_1 : decode cX7_leftAtMost 1 = .ok (.getfield 24, 3) := by decide +kernel
theorem dX7_leftAtMost_4 : decode cX7_leftAtMost 4 = .ok (.iload_n 1, 1) := by decide +kernel
theorem dX7_leftAtMost_5 : decode cX7_leftAtMost 5 = .ok (.invokestatic 32, 3) := by decide +kernel
theorem dX7_leftAtMost_8 : decode cX7_leftAtMost 8 = .ok (.istore_n 2, 1) := by decide +kernel
theorem dX7_leftAtMost_9 : decode cX7_leftAtMost 9 = .ok (.iload_n 2, 1) := by decide +kernel
theorem dX7_leftAtMost_10 : decode cX7_leftAtMost 10 = .ok (.aload_n 0, 1) := by decide +kernel
theorem dX7_leftAtMost_11 : decode cX7_leftAtMost 11 = .ok (.getfield 9, 3) := by decide +kernel
theorem dX7_leftAtMost_14 : decode cX7_leftAtMost 14 = .ok (.iload_n 2, 1) := by decide +kernel
theorem dX7_leftAtMost_15 : decode cX7_leftAtMost 15 = .ok (.isub, 1) := by decide +kernel
theorem dX7_leftAtMost_16 : decode cX7_leftAtMost 16 = .ok (.invokestatic 36, 3) := by decide +kernel
theorem dX7_leftAtMost_19 : decode cX7_leftAtMost 19 = .ok (.ireturn, 1) := by decide +kernel
theorem dX7_bestFact_0 : decode cX7_bestFact 0 = .ok (.iconst 0, 1) := by decide +kernel
theorem dX7_bestFact_1 : decode cX7_bestFact 1 = .ok (.istore_n 2, 1) := by decide +kernel
theorem dX7_bestFact_2 : decode cX7_bestFact 2 = .ok (.iconst 1, 1) := by decide +kernel
theorem dX7_bestFact_3 : decode cX7_bestFact 3 = .ok (.istore_n 3, 1) := by decide +kernel
theorem dX7_bestFact_4 : decode cX7_bestFact 4 = .ok (.iload_n 3, 1) := by decide +kernel
theorem dX7_bestFact_5 : decode cX7_bestFact 5 = .ok (.iload_n 1, 1) := by decide +kernel
theorem dX7_bestFact_6 : decode cX7_bestFact 6 = .ok (.if_icmp .ge 24, 3) := by decide +kernel
theorem dX7_bestFact_9 : decode cX7_bestFact 9 = .ok (.aload_n 0, 1) := by decide +kernel
theorem dX7_bestFact_10 : decode cX7_bestFact 10 = .ok (.iload_n 3, 1) := by decide +kernel
theorem dX7_bestFact_11 : decode cX7_bestFact 11 = .ok (.invokevirtual 42, 3) := by decide +kernel
theorem dX7_bestFact_14 : decode cX7_bestFact 14 = .ok (.aload_n 0, 1) := by decide +kernel
theorem dX7_bestFact_15 : decode cX7_bestFact 15 = .ok (.iload_n 2, 1) := by decide +kernel
theorem dX7_bestFact_16 : decode cX7_bestFact 16 = .ok (.invokevirtual 42, 3) := by decide +kernel
theorem dX7_bestFact_19 : decode cX7_bestFact 19 = .ok (.if_icmp .ge 5, 3) := by decide +kernel
theorem dX7_bestFact_22 : decode cX7_bestFact 22 = .ok (.iload_n 3, 1) := by decide +kernel
theorem dX7_bestFact_23 : decode cX7_bestFact 23 = .ok (.istore_n 2, 1) := by decide +kernel
theorem dX7_bestFact_24 : decode cX7_bestFact 24 = .ok (.iinc 3 1, 3) := by decide +kernel
theorem dX7_bestFact_27 : decode cX7_bestFact 27 = .ok (.goto (-23), 3) := by decide +kernel
theorem dX7_bestFact_30 : decode cX7_bestFact 30 = .ok (.iload_n 2, 1) := by decide +kernel
theorem dX7_bestFact_31 : decode cX7_bestFact 31 = .ok (.ireturn, 1) := by decide +kernel
theorem dX8_init_0 : decode cX8_init 0 = .ok (.aload_n 0, 1) := by decide +kernel
theorem dX8_init_1 : decode cX8_init 1 = .ok (.invokespecial 1, 3) := by decide +kernel
theorem dX8_init_4 : decode cX8_init 4 = .ok (.aload_n 0, 1) := by decide +kernel
theorem dX8_init_5 : decode cX8_init 5 = .ok (.new 7, 3) := by decide +kernel
theorem dX8_init_8 : decode cX8_init 8 = .ok (.dup, 1) := by decide +kernel
theorem dX8_init_9 : decode cX8_init 9 = .ok (.invokespecial 9, 3) := by decide +kernel
theorem dX8_init_12 : decode cX8_init 12 = .ok (.putfield 10, 3) := by decide +kernel
theorem dX8_init_15 : decode cX8_init 15 = .ok (.aload_n 0, 1) := by decide +kernel
theorem dX8_init_16 : decode cX8_init 16 = .ok (.new 7, 3) := by decide +kernel
theorem dX8_init_19 : decode cX8_init 19 = .ok (.dup, 1) := by decide +kernel
theorem dX8_init_20 : decode cX8_init 20 = .ok (.invokespecial 9, 3) := by decide +kernel
theorem dX8_init_23 : decode cX8_init 23 = .ok (.putfield 16, 3) := by decide +kernel
theorem dX8_init_26 : decode cX8_init 26 = .ok (.aload_n 0, 1) := by decide +kernel
theorem dX8_init_27 : decode cX8_init 27 = .ok (.new 7, 3) := by decide +kernel
theorem dX8_init_30 : decode cX8_init 30 = .ok (.dup, 1) := by decide +kernel
theorem dX8_init_31 : decode cX8_init 31 = .ok (.invokespecial 9, 3) := by decide +kernel
theorem dX8_init_34 : decode cX8_init 34 = .ok (.putfield 19, 3) := by decide +kernel
theorem dX8_init_37 : decode cX8_init 37 = .ok (.aload_n 0, 1) := by decide +kernel
theorem dX8_init_38 : decode cX8_init 38 = .ok (.new 22, 3) := by decide +kernel
theorem dX8_init_41 : decode cX8_init 41 = .ok (.dup, 1) := by decide +kernel
theorem dX8_init_42 : decode cX8_init 42 = .ok (.invokespecial 24, 3) := by decide +kernel
theorem dX8_init_45 : decode cX8_init 45 = .ok (.putfield 25, 3) := by decide +kernel
theorem dX8_init_48 : decode cX8_init 48 = .ok (.aload_n 0, 1) := by decide +kernel
theorem dX8_init_49 : decode cX8_init 49 = .ok (.new 29, 3) := by decide +kernel
theorem dX8_init_52 : decode cX8_init 52 = .ok (.dup, 1) := by decide +kernel
theorem dX8_init_53 : decode cX8_init 53 = .ok (.invokespecial 31, 3) := by decide +kernel
theorem dX8_init_56 : decode cX8_init 56 = .ok (.putfield 32, 3) := by decide +kernel
theorem dX8_init_59 : decode cX8_init 59 = .ok (.aload_n 0, 1) := by decide +kernel
theorem dX8_init_60 : decode cX8_init 60 = .ok (.new 36, 3) := by decide +kernel
theorem dX8_init_63 : decode cX8_init 63 = .ok (.dup, 1) := by decide +kernel
theorem dX8_init_64 : decode cX8_init 64 = .ok (.invokespecial 38, 3) := by decide +kernel
theorem dX8_init_67 : decode cX8_init 67 = .ok (.putfield 39, 3) := by decide +kernel
theorem dX8_init_70 : decode cX8_init 70 = .ok (.aload_n 0, 1) := by decide +kernel
theorem dX8_init_71 : decode cX8_init 71 = .ok (.new 43, 3) := by decide +kernel
theorem dX8_init_74 : decode cX8_init 74 = .ok (.dup, 1) := by decide +kernel
theorem dX8_init_75 : decode cX8_init 75 = .ok (.invokespecial 45, 3) := by decide +kernel
theorem dX8_init_78 : decode cX8_init 78 = .ok (.putfield 46, 3) := by decide +kernel
theorem dX8_init_81 : decode cX8_init 81 = .ok (.aload_n 0, 1) := by decide +kernel
theorem dX8_init_82 : decode cX8_init 82 = .ok (.new 50, 3) := by decide +kernel
theorem dX8_init_85 : decode cX8_init 85 = .ok (.dup, 1) := by decide +kernel
theorem dX8_init_86 : decode cX8_init 86 = .ok (.invokespecial 52, 3) := by decide +kernel
theorem dX8_init_89 : decode cX8_init 89 = .ok (.putfield 53, 3) := by decide +kernel
theorem dX8_init_92 : decode cX8_init 92 = .ok (.aload_n 0, 1) := by decide +kernel
theorem dX8_init_93 : decode cX8_init 93 = .ok (.new 57, 3) := by decide +kernel
theorem dX8_init_96 : decode cX8_init 96 = .ok (.dup, 1) := by decide +kernel
theorem dX8_init_97 : decode cX8_init 97 = .ok (.invokespecial 59, 3) := by decide +kernel
theorem dX8_init_100 : decode cX8_init 100 = .ok (.putfield 60, 3) := by decide +kernel
theorem dX8_init_103 : decode cX8_init 103 = .ok (.return_, 1) := by decide +kernel
theorem dX8_facts_0 : decode cX8_facts 0 = .ok (.iload_n 1, 1) := by decide +kernel
theorem dX8_facts_1 : decode cX8_facts 1 = .ok (.iconst 1, 1) := by decide +kernel
theorem dX8_facts_2 : decode cX8_facts 2 = .ok (.bipush 8, 2) := by decide +kernel
theorem dX8_facts_4 : decode cX8_facts 4 = .ok (.invokestatic 64, 3) := by decide +kernel
theorem dX8_facts_7 : decode cX8_facts 7 = .ok (.ifCond .ne 6, 3) := by decide +kernel
theorem dX8_facts_10 : decode cX8_facts 10 = .ok (.bipush (-2), 2) := by decide +kernel
theorem dX8_facts_12 : decode cX8_facts 12 = .ok (.ireturn, 1) := by decide +kernel
theorem dX8_facts_13 : decode cX8_facts 13 = .ok (.aload_n 0, 1) := by decide +kernel
theorem dX8_facts_14 : decode cX8_facts 14 = .ok (.getfield 10, 3) := by decide +kernel
theorem dX8_facts_17 : decode cX8_facts 17 = .ok (.getfield 68, 3) := by decide +kernel
theorem dX8_facts_20 : decode cX8_facts 20 = .ok (.istore_n 2, 1) := by decide +kernel
theorem dX8_facts_21 : decode cX8_facts 21 = .ok (.aload_n 0, 1) := by decide +kernel
theorem dX8_facts_22 : decode cX8_facts 22 = .ok (.getfield 10, 3) := by decide +kernel
theorem dX8_facts_25 : decode cX8_facts 25 = .ok (.iload_n 1, 1) := by decide +kernel
theorem dX8_facts_26 : decode cX8_facts 26 = .ok (.invokevirtual 72, 3) := by decide +kernel
theorem dX8_facts_29 : decode cX8_facts 29 = .ok (.iload_n 2, 1) := by decide +kernel
theorem dX8_facts_30 : decode cX8_facts 30 = .ok (.ireturn, 1) := by decide +kernel
theorem dX8_fact_0 : decode cX8_fact 0 = .ok (.iload_n 1, 1) := by decide +kernel
theorem dX8_fact_1 : decode cX8_fact 1 = .ok (.iconst 0, 1) := by decide +kernel
theorem dX8_fact_2 : decode cX8_fact 2 = .ok (.aload_n 0, 1) := by decide +kernel
theorem dX8_fact_3 : decode cX8_fact 3 = .ok (.getfield 10, 3) := by decide +kernel
theorem dX8_fact_6 : decode cX8_fact 6 = .ok (.getfield 68, 3) := by decide +kernel
theorem dX8_fact_9 : decode cX8_fact 9 = .ok (.iconst 1, 1) := by decide +kernel
theorem dX8_fact_10 : decode cX8_fact 10 = .ok (.isub, 1) := by decide +kernel
theorem dX8_fact_11 : decode cX8_fact 11 = .ok (.invokestatic 64, 3) := by decide +kernel
theorem dX8_fact_14 : decode cX8_fact 14 = .ok (.ifCond .ne 5, 3) := by decide +kernel
theorem dX8_fact_17 : decode cX8_fact 17 = .ok (.iconst (-1), 1) := by decide +kernel
theorem dX8_fact_18 : decode cX8_fact 18 = .ok (.ireturn, 1) := by decide +kernel
theorem dX8_fact_19 : decode cX8_fact 19 = .ok (.iconst 1, 1) := by decide +kernel
theorem dX8_fact_20 : decode cX8_fact 20 = .ok (.iload_n 1, 1) := by decide +kernel
theorem dX8_fact_21 : decode cX8_fact 21 = .ok (.ishl, 1) := by decide +kernel
theorem dX8_fact_22 : decode cX8_fact 22 = .ok (.istore_n 3, 1) := by decide +kernel
theorem dX8_fact_23 : decode cX8_fact 23 = .ok (.aload_n 0, 1) := by decide +kernel
theorem dX8_fact_24 : decode cX8_fact 24 = .ok (.getfield 10, 3) := by decide +kernel
theorem dX8_fact_27 : decode cX8_fact 27 = .ok (.iload_n 2, 1) := by decide +kernel
theorem dX8_fact_28 : decode cX8_fact 28 = .ok (.ifCond .eq 15, 3) := by decide +kernel
theorem dX8_fact_31 : decode cX8_fact 31 = .ok (.aload_n 0, 1) := by decide +kernel
theorem dX8_fact_32 : decode cX8_fact 32 = .ok (.getfield 10, 3) := by decide +kernel
theorem dX8_fact_35 : decode cX8_fact 35 = .ok (.getfield 76, 3) := by decide +kernel
theorem dX8_fact_38 : decode cX8_fact 38 = .ok (.iload_n 3, 1) := by decide +kernel
theorem dX8_fact_39 : decode cX8_fact 39 = .ok (.ior, 1) := by decide +kernel
theorem dX8_fact_40 : decode cX8_fact 40 = .ok (.goto 14, 3) := by decide +kernel
theorem dX8_fact_43 : decode cX8_fact 43 = .ok (.aload_n 0, 1) := by decide +kernel
theorem dX8_fact_44 : decode cX8_fact 44 = .ok (.getfield 10, 3) := by decide +kernel
theorem dX8_fact_47 : decode cX8_fact 47 = .ok (.getfield 76, 3) := by decide +kernel
theorem dX8_fact_50 : decode cX8_fact 50 = .ok (.iload_n 3, 1) := by decide +kernel
theorem dX8_fact_51 : decode cX8_fact 51 = .ok (.iconst (-1), 1) := by decide +kernel
theorem dX8_fact_52 : decode cX8_fact 52 = .ok (.ixor, 1) := by decide +kernel
theorem dX8_fact_53 : decode cX8_fact 53 = .ok (.iand, 1) := by decide +kernel
theorem dX8_fact_54 : decode cX8_fact 54 = .ok (.putfield 76, 3) := by decide +kernel
theorem dX8_fact_57 : decode cX8_fact 57 = .ok (.aload_n 0, 1) := by decide +kernel
theorem dX8_fact_58 : decode cX8_fact 58 = .ok (.getfield 10, 3) := by decide +kernel
theorem dX8_fact_61 : decode cX8_fact 61 = .ok (.getfield 76, 3) := by decide +kernel
theorem dX8_fact_64 : decode cX8_fact 64 = .ok (.ireturn, 1) := by decide +kernel
theorem dX8_temper_0 : decode cX8_temper 0 = .ok (.iload_n 1, 1) := by decide +kernel
theorem dX8_temper_1 : decode cX8_temper 1 = .ok (.invokestatic 79, 3) := by decide +kernel
theorem dX8_temper_4 : decode cX8_temper 4 = .ok (.ifCond .ne 5, 3) := by decide +kernel
theorem dX8_temper_7 : decode cX8_temper 7 = .ok (.iconst (-1), 1) := by decide +kernel
theorem dX8_temper_8 : decode cX8_temper 8 = .ok (.ireturn, 1) := by decide +kernel
theorem dX8_temper_9 : decode cX8_temper 9 = .ok (.iload_n 2, 1) := by decide +kernel
theorem dX8_temper_10 : decode cX8_temper 10 = .ok (.iconst 0, 1) := by decide +kernel
theorem dX8_temper_11 : decode cX8_temper 11 = .ok (.iconst 2, 1) := by decide +kernel
theorem dX8_temper_12 : decode cX8_temper 12 = .ok (.invokestatic 64, 3) := by decide +kernel
theorem dX8_temper_15 : decode cX8_temper 15 = .ok (.ifCond .ne 6, 3) := by decide +kernel
theorem dX8_temper_18 : decode cX8_temper 18 = .ok (.bipush (-2), 2) := by decide +kernel
theorem dX8_temper_20 : decode cX8_temper 20 = .ok (.ireturn, 1) := by decide +kernel
theorem dX8_temper_21 : decode cX8_temper 21 = .ok (.aload_n 0, 1) := by decide +kernel
theorem dX8_temper_22 : decode cX8_temper 22 = .ok (.getfield 10, 3) := by decide +kernel
theorem dX8_temper_25 : decode cX8_temper 25 = .ok (.iload_n 1, 1) := by decide +kernel
theorem dX8_temper_26 : decode cX8_temper 26 = .ok (.invokevirtual 83, 3) := by decide +kernel
theorem dX8_temper_29 : decode cX8_temper 29 = .ok (.istore_n 3, 1) := by decide +kernel
theorem dX8_temper_30 : decode cX8_temper 30 = .ok (.aload_n 0, 1) := by decide +kernel
theorem dX8_temper_31 : decode cX8_temper 31 = .ok (.getfield 10, 3) := by decide +kernel
theorem dX8_temper_34 : decode cX8_temper 34 = .ok (.getfield 87, 3) := by decide +kernel
theorem dX8_temper_37 : decode cX8_temper 37 = .ok (.iload_n 1, 1) := by decide +kernel
theorem dX8_temper_38 : decode cX8_temper 38 = .ok (.iload_n 2, 1) := by decide +kernel
theorem dX8_temper_39 : decode cX8_temper 39 = .ok (.invokestatic 91, 3) := by decide +kernel
theorem dX8_temper_42 : decode cX8_temper 42 = .ok (.iload_n 3, 1) := by decide +kernel
theorem dX8_temper_43 : decode cX8_temper 43 = .ok (.ireturn, 1) := by decide +kernel
theorem dX8_width_0 : decode cX8_width 0 = .ok (.iload_n 1, 1) := by decide +kernel
theorem dX8_width_1 : decode cX8_width 1 = .ok (.iconst 0, 1) := by decide +kernel
theorem dX8_width_2 : decode cX8_width 2 = .ok (.bipush 40, 2) := by decide +kernel
theorem dX8_width_4 : decode cX8_width 4 = .ok (.invokestatic 64, 3) := by decide +kernel
theorem dX8_width_7 : decode cX8_width 7 = .ok (.ifCond .ne 6, 3) := by decide +kernel
theorem dX8_width_10 : decode cX8_width 10 = .ok (.bipush (-2), 2) := by decide +kernel
theorem dX8_width_12 : decode cX8_width 12 = .ok (.ireturn, 1) := by decide +kernel
theorem dX8_width_13 : decode cX8_width 13 = .ok (.aload_n 0, 1) := by decide +kernel
theorem dX8_width_14 : decode cX8_width 14 = .ok (.getfield 10, 3) := by decide +kernel
theorem dX8_width_17 : decode cX8_width 17 = .ok (.getfield 95, 3) := by decide +kernel
theorem dX8_width_20 : decode cX8_width 20 = .ok (.getfield 99, 3) := by decide +kernel
theorem dX8_width_23 : decode cX8_width 23 = .ok (.istore_n 2, 1) := by decide +kernel
theorem dX8_width_24 : decode cX8_width 24 = .ok (.aload_n 0, 1) := by decide +kernel
theorem dX8_width_25 : decode cX8_width 25 = .ok (.getfield 10, 3) := by decide +kernel
theorem dX8_width_28 : decode cX8_width 28 = .ok (.getfield 95, 3) := by decide +kernel
theorem dX8_width_31 : decode cX8_width 31 = .ok (.iload_n 1, 1) := by decide +kernel
theorem dX8_width_32 : decode cX8_width 32 = .ok (.putfield 99, 3) := by decide +kernel
theorem dX8_width_35 : decode cX8_width 35 = .ok (.iload_n 2, 1) := by decide +kernel
theorem dX8_width_36 : decode cX8_width 36 = .ok (.ireturn, 1) := by decide +kernel
theorem dX8_say_0 : decode cX8_say 0 = .ok (.iload_n 1, 1) := by decide +kernel
theorem dX8_say_1 : decode cX8_say 1 = .ok (.bipush 33, 2) := by decide +kernel
theorem dX8_say_3 : decode cX8_say 3 = .ok (.bipush 126, 2) := by decide +kernel
theorem dX8_say_5 : decode cX8_say 5 = .ok (.invokestatic 64, 3) := by decide +kernel
theorem dX8_say_8 : decode cX8_say 8 = .ok (.ifCond .ne 6, 3) := by decide +kernel
theorem dX8_say_11 : decode cX8_say 11 = .ok (.bipush (-2), 2) := by decide +kernel
theorem dX8_say_13 : decode cX8_say 13 = .ok (.ireturn, 1) := by decide +kernel
theorem dX8_say_14 : decode cX8_say 14 = .ok (.aload_n 0, 1) := by decide +kernel
theorem dX8_say_15 : decode cX8_say 15 = .ok (.getfield 25, 3) := by decide +kernel
theorem dX8_say_18 : decode cX8_say 18 = .ok (.iload_n 1, 1) := by decide +kernel
theorem dX8_say_19 : decode cX8_say 19 = .ok (.invokevirtual 104, 3) := by decide +kernel
theorem dX8_say_22 : decode cX8_say 22 = .ok (.ireturn, 1) := by decide +kernel
theorem dX8_wipe_0 : decode cX8_wipe 0 = .ok (.aload_n 0, 1) := by decide +kernel
theorem dX8_wipe_1 : decode cX8_wipe 1 = .ok (.getfield 25, 3) := by decide +kernel
theorem dX8_wipe_4 : decode cX8_wipe 4 = .ok (.getfield 107, 3) := by decide +kernel
theorem dX8_wipe_7 : decode cX8_wipe 7 = .ok (.istore_n 1, 1) := by decide +kernel
theorem dX8_wipe_8 : decode cX8_wipe 8 = .ok (.aload_n 0, 1) := by decide +kernel
theorem dX8_wipe_9 : decode cX8_wipe 9 = .ok (.getfield 25, 3) := by decide +kernel
theorem dX8_wipe_12 : decode cX8_wipe 12 = .ok (.iconst 0, 1) := by decide +kernel
theorem dX8_wipe_13 : decode cX8_wipe 13 = .ok (.putfield 107, 3) := by decide +kernel
theorem dX8_wipe_16 : decode cX8_wipe 16 = .ok (.iload_n 1, 1) := by decide +kernel
theorem dX8_wipe_17 : decode cX8_wipe 17 = .ok (.ireturn, 1) := by decide +kernel
theorem dX8_fault_0 : decode cX8_fault 0 = .ok (.iload_n 1, 1) := by decide +kernel
theorem dX8_fault_1 : decode cX8_fault 1 = .ok (.iconst 0, 1) := by decide +kernel
theorem dX8_fault_2 : decode cX8_fault 2 = .ok (.iconst 1, 1) := by decide +kernel
theorem dX8_fault_3 : decode cX8_fault 3 = .ok (.invokestatic 64, 3) := by decide +kernel
theorem dX8_fault_6 : decode cX8_fault 6 = .ok (.ifCond .ne 6, 3) := by decide +kernel
theorem dX8_fault_9 : decode cX8_fault 9 = .ok (.bipush (-2), 2) := by decide +kernel
theorem dX8_fault_11 : decode cX8_fault 11 = .ok (.ireturn, 1) := by decide +kernel
theorem dX8_fault_12 : decode cX8_fault 12 = .ok (.iload_n 1, 1) := by decide +kernel
theorem dX8_fault_13 : decode cX8_fault 13 = .ok (.ifCond .ne 24, 3) := by decide +kernel
theorem dX8_fault_16 : decode cX8_fault 16 = .ok (.aload_n 0, 1) := by decide +kernel
theorem dX8_fault_17 : decode cX8_fault 17 = .ok (.getfield 32, 3) := by decide +kernel
theorem dX8_fault_20 : decode cX8_fault 20 = .ok (.aload_n 0, 1) := by decide +kernel
theorem dX8_fault_21 : decode cX8_fault 21 = .ok (.getfield 25, 3) := by decide +kernel
theorem dX8_fault_24 : decode cX8_fault 24 = .ok (.aload_n 0, 1) := by decide +kernel
theorem dX8_fault_25 : decode cX8_fault 25 = .ok (.getfield 10, 3) := by decide +kernel
theorem dX8_fault_28 : decode cX8_fault 28 = .ok (.getfield 68, 3) := by decide +kernel
theorem dX8_fault_31 : decode cX8_fault 31 = .ok (.invokevirtual 110, 3) := by decide +kernel
theorem dX8_fault_34 : decode cX8_fault 34 = .ok (.goto 14, 3) := by decide +kernel
theorem dX8_fault_37 : decode cX8_fault 37 = .ok (.aload_n 0, 1) := by decide +kernel
theorem dX8_fault_38 : decode cX8_fault 38 = .ok (.getfield 39, 3) := by decide +kernel
theorem dX8_fault_41 : decode cX8_fault 41 = .ok (.aload_n 0, 1) := by decide +kernel
theorem dX8_fault_42 : decode cX8_fault 42 = .ok (.getfield 25, 3) := by decide +kernel
theorem dX8_fault_45 : decode cX8_fault 45 = .ok (.invokevirtual 114, 3) := by decide +kernel
theorem dX8_fault_48 : decode cX8_fault 48 = .ok (.ireturn, 1) := by decide +kernel
theorem dX8_judge_0 : decode cX8_judge 0 = .ok (.iload_n 1, 1) := by decide +kernel
theorem dX8_judge_1 : decode cX8_judge 1 = .ok (.iconst 0, 1) := by decide +kernel
theorem dX8_judge_2 : decode cX8_judge 2 = .ok (.iconst 3, 1) := by decide +kernel
theorem dX8_judge_3 : decode cX8_judge 3 = .ok (.invokestatic 64, 3) := by decide +kernel
theorem dX8_judge_6 : decode cX8_judge 6 = .ok (.ifCond .ne 6, 3) := by decide +kernel
theorem dX8_judge_9 : decode cX8_judge 9 = .ok (.bipush (-2), 2) := by decide +kernel
theorem dX8_judge_11 : decode cX8_judge 11 = .ok (.ireturn, 1) := by decide +kernel
theorem dX8_judge_12 : decode cX8_judge 12 = .ok (.aload_n 0, 1) := by decide +kernel
theorem dX8_judge_13 : decode cX8_judge 13 = .ok (.invokevirtual 117, 3) := by decide +kernel
theorem dX8_judge_16 : decode cX8_judge 16 = .ok (.istore_n 2, 1) := by decide +kernel
theorem dX8_judge_17 : decode cX8_judge 17 = .ok (.iload_n 2, 1) := by decide +kernel
theorem dX8_judge_18 : decode cX8_judge 18 = .ok (.bipush (-5), 2) := by decide +kernel
theorem dX8_judge_20 : decode cX8_judge 20 = .ok (.if_icmp .eq 14, 3) := by decide +kernel
theorem dX8_judge_23 : decode cX8_judge 23 = .ok (.iload_n 2, 1) := by decide +kernel
theorem dX8_judge_24 : decode cX8_judge 24 = .ok (.bipush (-3), 2) := by decide +kernel
theorem dX8_judge_26 : decode cX8_judge 26 = .ok (.if_icmp .ne 10, 3) := by decide +kernel
theorem dX8_judge_29 : decode cX8_judge 29 = .ok (.iload_n 1, 1) := by decide +kernel
theorem dX8_judge_30 : decode cX8_judge 30 = .ok (.iconst 2, 1) := by decide +kernel
theorem dX8_judge_31 : decode cX8_judge 31 = .ok (.if_icmp .lt 5, 3) := by decide +kernel
theorem dX8_judge_34 : decode cX8_judge 34 = .ok (.iload_n 2, 1) := by decide +kernel
theorem dX8_judge_35 : decode cX8_judge 35 = .ok (.ireturn, 1) := by decide +kernel
theorem dX8_judge_36 : decode cX8_judge 36 = .ok (.iload_n 1, 1) := by decide +kernel
theorem dX8_judge_37 : decode cX8_judge 37 = .ok (.tableswitch 54 0 2 #[27, 35, 43], 27) := by decide +kernel
theorem dX8_judge_64 : decode cX8_judge 64 = .ok (.aload_n 0, 1) := by decide +kernel
theorem dX8_judge_65 : decode cX8_judge 65 = .ok (.getfield 32, 3) := by decide +kernel
theorem dX8_judge_68 : decode cX8_judge 68 = .ok (.getfield 121, 3) := by decide +kernel
theorem dX8_judge_71 : decode cX8_judge 71 = .ok (.ireturn, 1) := by decide +kernel
theorem dX8_judge_72 : decode cX8_judge 72 = .ok (.aload_n 0, 1) := by decide +kernel
theorem dX8_judge_73 : decode cX8_judge 73 = .ok (.getfield 32, 3) := by decide +kernel
theorem dX8_judge_76 : decode cX8_judge 76 = .ok (.getfield 124, 3) := by decide +kernel
theorem dX8_judge_79 : decode cX8_judge 79 = .ok (.ireturn, 1) := by decide +kernel
theorem dX8_judge_80 : decode cX8_judge 80 = .ok (.aload_n 0, 1) := by decide +kernel
theorem dX8_judge_81 : decode cX8_judge 81 = .ok (.getfield 32, 3) := by decide +kernel
theorem dX8_judge_84 : decode cX8_judge 84 = .ok (.getfield 127, 3) := by decide +kernel
theorem dX8_judge_87 : decode cX8_judge 87 = .ok (.getfield 128, 3) := by decide +kernel
theorem dX8_judge_90 : decode cX8_judge 90 = .ok (.ireturn, 1) := by decide +kernel
theorem dX8_judge_91 : decode cX8_judge 91 = .ok (.aload_n 0, 1) := by decide +kernel
theorem dX8_judge_92 : decode cX8_judge 92 = .ok (.getfield 32, 3) := by decide +kernel
theorem dX8_judge_95 : decode cX8_judge 95 = .ok (.getfield 127, 3) := by decide +kernel
theorem dX8_judge_98 : decode cX8_judge 98 = .ok (.getfield 131, 3) := by decide +kernel
theorem dX8_judge_101 : decode cX8_judge 101 = .ok (.ireturn, 1) := by decide +kernel
theorem dX8_behind_0 : decode cX8_behind 0 = .ok (.iload_n 1, 1) := by decide +kernel
theorem dX8_behind_1 : decode cX8_behind 1 = .ok (.iconst 0, 1) := by decide +kernel
theorem dX8_behind_2 : decode cX8_behind 2 = .ok (.iconst 3, 1) := by decide +kernel
theorem dX8_behind_3 : decode cX8_behind 3 = .ok (.invokestatic 64, 3) := by decide +kernel
theorem dX8_behind_6 : decode cX8_behind 6 = .ok (.ifCond .ne 6, 3) := by decide +kernel
theorem dX8_behind_9 : decode cX8_behind 9 = .ok (.bipush (-2), 2) := by decide +kernel
theorem dX8_behind_11 : decode cX8_behind 11 = .ok (.ireturn, 1) := by decide +kernel
theorem dX8_behind_12 : decode cX8_behind 12 = .ok (.aload_n 0, 1) := by decide +kernel
theorem dX8_behind_13 : decode cX8_behind 13 = .ok (.invokevirtual 117, 3) := by decide +kernel
theorem dX8_behind_16 : decode cX8_behind 16 = .ok (.istore_n 2, 1) := by decide +kernel
theorem dX8_behind_17 : decode cX8_behind 17 = .ok (.iload_n 2, 1) := by decide +kernel
theorem dX8_behind_18 : decode cX8_behind 18 = .ok (.ifCond .eq 5, 3) := by decide +kernel
theorem dX8_behind_21 : decode cX8_behind 21 = .ok (.iload_n 2, 1) := by decide +kernel
theorem dX8_behind_22 : decode cX8_behind 22 = .ok (.ireturn, 1) := by decide +kernel
theorem dX8_behind_23 : decode cX8_behind 23 = .ok (.iload_n 1, 1) := by decide +kernel
theorem dX8_behind_24 : decode cX8_behind 24 = .ok (.tableswitch 58 0 2 #[28, 39, 50], 28) := by decide +kernel
theorem dX8_behind_52 : decode cX8_behind 52 = .ok (.aload_n 0, 1) := by decide +kernel
theorem dX8_behind_53 : decode cX8_behind 53 = .ok (.getfield 32, 3) := by decide +kernel
theorem dX8_behind_56 : decode cX8_behind 56 = .ok (.getfield 127, 3) := by decide +kernel
theorem dX8_behind_59 : decode cX8_behind 59 = .ok (.getfield 134, 3) := by decide +kernel
theorem dX8_behind_62 : decode cX8_behind 62 = .ok (.ireturn, 1) := by decide +kernel
theorem dX8_behind_63 : decode cX8_behind 63 = .ok (.aload_n 0, 1) := by decide +kernel
theorem dX8_behind_64 : decode cX8_behind 64 = .ok (.getfield 32, 3) := by decide +kernel
theorem dX8_behind_67 : decode cX8_behind 67 = .ok (.getfield 127, 3) := by decide +kernel
theorem dX8_behind_70 : decode cX8_behind 70 = .ok (.getfield 99, 3) := by decide +kernel
theorem dX8_behind_73 : decode cX8_behind 73 = .ok (.ireturn, 1) := by decide +kernel
theorem dX8_behind_74 : decode cX8_behind 74 = .ok (.aload_n 0, 1) := by decide +kernel
theorem dX8_behind_75 : decode cX8_behind 75 = .ok (.getfield 32, 3) := by decide +kernel
theorem dX8_behind_78 : decode cX8_behind 78 = .ok (.invokevirtual 135, 3) := by decide +kernel
theorem dX8_behind_81 : decode cX8_behind 81 = .ok (.ireturn, 1) := by decide +kernel
theorem dX8_behind_82 : decode cX8_behind 82 = .ok (.aload_n 0, 1) := by decide +kernel
theorem dX8_behind_83 : decode cX8_behind 83 = .ok (.getfield 32, 3) := by decide +kernel
theorem dX8_behind_86 : decode cX8_behind 86 = .ok (.invokevirtual 138, 3) := by decide +kernel
theorem dX8_behind_89 : decode cX8_behind 89 = .ok (.ireturn, 1) := by decide +kernel
theorem dX8_row_0 : decode cX8_row 0 = .ok (.iload_n 2, 1) := by decide +kernel
theorem dX8_row_1 : decode cX8_row 1 = .ok (.iconst 0, 1) := by decide +kernel
theorem dX8_row_2 : decode cX8_row 2 = .ok (.iconst 2, 1) := by decide +kernel
theorem dX8_row_3 : decode cX8_row 3 = .ok (.invokestatic 64, 3) := by decide +kernel
theorem dX8_row_6 : decode cX8_row 6 = .ok (.ifCond .ne 6, 3) := by decide +kernel
theorem dX8_row_9 : decode cX8_row 9 = .ok (.bipush (-2), 2) := by decide +kernel
theorem dX8_row_11 : decode cX8_row 11 = .ok (.ireturn, 1) := by decide +kernel
theorem dX8_row_12 : decode cX8_row 12 = .ok (.aload_n 0, 1) := by decide +kernel
theorem dX8_row_13 : decode cX8_row 13 = .ok (.invokevirtual 117, 3) := by decide +kernel
theorem dX8_row_16 : decode cX8_row 16 = .ok (.istore_n 3, 1) := by decide +kernel
theorem dX8_row_17 : decode cX8_row 17 = .ok (.iload_n 3, 1) := by decide +kernel
theorem dX8_row_18 : decode cX8_row 18 = .ok (.ifCond .eq 5, 3) := by decide +kernel
theorem dX8_row_21 : decode cX8_row 21 = .ok (.iload_n 3, 1) := by decide +kernel
theorem dX8_row_22 : decode cX8_row 22 = .ok (.ireturn, 1) := by decide +kernel
theorem dX8_row_23 : decode cX8_row 23 = .ok (.aload_n 0, 1) := by decide +kernel
theorem dX8_row_24 : decode cX8_row 24 = .ok (.getfield 32, 3) := by decide +kernel
theorem dX8_row_27 : decode cX8_row 27 = .ok (.getfield 127, 3) := by decide +kernel
theorem dX8_row_30 : decode cX8_row 30 = .ok (.iload_n 1, 1) := by decide +kernel
theorem dX8_row_31 : decode cX8_row 31 = .ok (.invokevirtual 141, 3) := by decide +kernel
theorem dX8_row_34 : decode cX8_row 34 = .ok (.ifCond .eq 18, 3) := by decide +kernel
theorem dX8_row_37 : decode cX8_row 37 = .ok (.aload_n 0, 1) := by decide +kernel
theorem dX8_row_38 : decode cX8_row 38 = .ok (.getfield 32, 3) := by decide +kernel
theorem dX8_row_41 : decode cX8_row 41 = .ok (.getfield 127, 3) := by decide +kernel
theorem dX8_row_44 : decode cX8_row 44 = .ok (.iload_n 1, 1) := by decide +kernel
theorem dX8_row_45 : decode cX8_row 45 = .ok (.iload_n 2, 1) := by decide +kernel
theorem dX8_row_46 : decode cX8_row 46 = .ok (.invokevirtual 144, 3) := by decide +kernel
theorem dX8_row_49 : decode cX8_row 49 = .ok (.goto 4, 3) := by decide +kernel
theorem dX8_row_52 : decode cX8_row 52 = .ok (.iconst (-1), 1) := by decide +kernel
theorem dX8_row_53 : decode cX8_row 53 = .ok (.ireturn, 1) := by decide +kernel
theorem dX8_lost_0 : decode cX8_lost 0 = .ok (.aload_n 0, 1) := by decide +kernel
theorem dX8_lost_1 : decode cX8_lost 1 = .ok (.getfield 10, 3) := by decide +kernel
theorem dX8_lost_4 : decode cX8_lost 4 = .ok (.getfield 95, 3) := by decide +kernel
theorem dX8_lost_7 : decode cX8_lost 7 = .ok (.iload_n 1, 1) := by decide +kernel
theorem dX8_lost_8 : decode cX8_lost 8 = .ok (.invokevirtual 141, 3) := by decide +kernel
theorem dX8_lost_11 : decode cX8_lost 11 = .ok (.ifCond .ne 5, 3) := by decide +kernel
theorem dX8_lost_14 : decode cX8_lost 14 = .ok (.iconst (-1), 1) := by decide +kernel
theorem dX8_lost_15 : decode cX8_lost 15 = .ok (.ireturn, 1) := by decide +kernel
theorem dX8_lost_16 : decode cX8_lost 16 = .ok (.aload_n 0, 1) := by decide +kernel
theorem dX8_lost_17 : decode cX8_lost 17 = .ok (.invokevirtual 117, 3) := by decide +kernel
theorem dX8_lost_20 : decode cX8_lost 20 = .ok (.istore_n 2, 1) := by decide +kernel
theorem dX8_lost_21 : decode cX8_lost 21 = .ok (.iload_n 2, 1) := by decide +kernel
theorem dX8_lost_22 : decode cX8_lost 22 = .ok (.ifCond .eq 7, 3) := by decide +kernel
theorem dX8_lost_25 : decode cX8_lost 25 = .ok (.iload_n 2, 1) := by decide +kernel
theorem dX8_lost_26 : decode cX8_lost 26 = .ok (.goto 11, 3) := by decide +kernel
theorem dX8_lost_29 : decode cX8_lost 29 = .ok (.aload_n 0, 1) := by decide +kernel
theorem dX8_lost_30 : decode cX8_lost 30 = .ok (.getfield 32, 3) := by decide +kernel
theorem dX8_lost_33 : decode cX8_lost 33 = .ok (.iload_n 1, 1) := by decide +kernel
theorem dX8_lost_34 : decode cX8_lost 34 = .ok (.invokevirtual 148, 3) := by decide +kernel
theorem dX8_lost_37 : decode cX8_lost 37 = .ok (.ireturn, 1) := by decide +kernel
theorem dX8_done_0 : decode cX8_done 0 = .ok (.aload_n 0, 1) := by decide +kernel
theorem dX8_done_1 : decode cX8_done 1 = .ok (.invokevirtual 117, 3) := by decide +kernel
theorem dX8_done_4 : decode cX8_done 4 = .ok (.istore_n 1, 1) := by decide +kernel
theorem dX8_done_5 : decode cX8_done 5 = .ok (.iload_n 1, 1) := by decide +kernel
theorem dX8_done_6 : decode cX8_done 6 = .ok (.ifCond .eq 5, 3) := by decide +kernel
theorem dX8_done_9 : decode cX8_done 9 = .ok (.iload_n 1, 1) := by decide +kernel
theorem dX8_done_10 : decode cX8_done 10 = .ok (.ireturn, 1) := by decide +kernel
theorem dX8_done_11 : decode cX8_done 11 = .ok (.aload_n 0, 1) := by decide +kernel
theorem dX8_done_12 : decode cX8_done 12 = .ok (.getfield 10, 3) := by decide +kernel
theorem dX8_done_15 : decode cX8_done 15 = .ok (.getfield 95, 3) := by decide +kernel
theorem dX8_done_18 : decode cX8_done 18 = .ok (.aload_n 0, 1) := by decide +kernel
theorem dX8_done_19 : decode cX8_done 19 = .ok (.getfield 32, 3) := by decide +kernel
theorem dX8_done_22 : decode cX8_done 22 = .ok (.getfield 127, 3) := by decide +kernel
theorem dX8_done_25 : decode cX8_done 25 = .ok (.invokevirtual 151, 3) := by decide +kernel
theorem dX8_done_28 : decode cX8_done 28 = .ok (.aload_n 0, 1) := by decide +kernel
theorem dX8_done_29 : decode cX8_done 29 = .ok (.getfield 25, 3) := by decide +kernel
theorem dX8_done_32 : decode cX8_done 32 = .ok (.iconst 0, 1) := by decide +kernel
theorem dX8_done_33 : decode cX8_done 33 = .ok (.putfield 107, 3) := by decide +kernel
theorem dX8_done_36 : decode cX8_done 36 = .ok (.aload_n 0, 1) := by decide +kernel
theorem dX8_done_37 : decode cX8_done 37 = .ok (.getfield 32, 3) := by decide +kernel
theorem dX8_done_40 : decode cX8_done 40 = .ok (.getfield 155, 3) := by decide +kernel
theorem dX8_done_43 : decode cX8_done 43 = .ok (.ireturn, 1) := by decide +kernel
theorem dX8_state_0 : decode cX8_state 0 = .ok (.aload_n 0, 1) := by decide +kernel
theorem dX8_state_1 : decode cX8_state 1 = .ok (.getfield 10, 3) := by decide +kernel
theorem dX8_state_4 : decode cX8_state 4 = .ok (.getfield 95, 3) := by decide +kernel
theorem dX8_state_7 : decode cX8_state 7 = .ok (.iload_n 1, 1) := by decide +kernel
theorem dX8_state_8 : decode cX8_state 8 = .ok (.invokevirtual 141, 3) := by decide +kernel
theorem dX8_state_11 : decode cX8_state 11 = .ok (.ifCond .ne 5, 3) := by decide +kernel
theorem dX8_state_14 : decode cX8_state 14 = .ok (.iconst (-1), 1) := by decide +kernel
theorem dX8_state_15 : decode cX8_state 15 = .ok (.ireturn, 1) := by decide +kernel
theorem dX8_state_16 : decode cX8_state 16 = .ok (.iload_n 2, 1) := by decide +kernel
theorem dX8_state_17 : decode cX8_state 17 = .ok (.iconst 0, 1) := by decide +kernel
theorem dX8_state_18 : decode cX8_state 18 = .ok (.iconst 2, 1) := by decide +kernel
theorem dX8_state_19 : decode cX8_state 19 = .ok (.invokestatic 64, 3) := by decide +kernel
theorem dX8_state_22 : decode cX8_state 22 = .ok (.ifCond .eq 18, 3) := by decide +kernel
theorem dX8_state_25 : decode cX8_state 25 = .ok (.aload_n 0, 1) := by decide +kernel
theorem dX8_state_26 : decode cX8_state 26 = .ok (.getfield 10, 3) := by decide +kernel
theorem dX8_state_29 : decode cX8_state 29 = .ok (.getfield 95, 3) := by decide +kernel
theorem dX8_state_32 : decode cX8_state 32 = .ok (.iload_n 1, 1) := by decide +kernel
theorem dX8_state_33 : decode cX8_state 33 = .ok (.iload_n 2, 1) := by decide +kernel
theorem dX8_state_34 : decode cX8_state 34 = .ok (.invokevirtual 144, 3) := by decide +kernel
theorem dX8_state_37 : decode cX8_state 37 = .ok (.goto 5, 3) := by decide +kernel
theorem dX8_state_40 : decode cX8_state 40 = .ok (.bipush (-2), 2) := by decide +kernel
theorem dX8_state_42 : decode cX8_state 42 = .ok (.ireturn, 1) := by decide +kernel
theorem dX8_made_0 : decode cX8_made 0 = .ok (.aload_n 0, 1) := by decide +kernel
theorem dX8_made_1 : decode cX8_made 1 = .ok (.invokevirtual 156, 3) := by decide +kernel
theorem dX8_made_4 : decode cX8_made 4 = .ok (.istore_n 1, 1) := by decide +kernel
theorem dX8_made_5 : decode cX8_made 5 = .ok (.iload_n 1, 1) := by decide +kernel
theorem dX8_made_6 : decode cX8_made 6 = .ok (.ifCond .eq 7, 3) := by decide +kernel
theorem dX8_made_9 : decode cX8_made 9 = .ok (.iload_n 1, 1) := by decide +kernel
theorem dX8_made_10 : decode cX8_made 10 = .ok (.goto 14, 3) := by decide +kernel
theorem dX8_made_13 : decode cX8_made 13 = .ok (.aload_n 0, 1) := by decide +kernel
theorem dX8_made_14 : decode cX8_made 14 = .ok (.aload_n 0, 1) := by decide +kernel
theorem dX8_made_15 : decode cX8_made 15 = .ok (.getfield 39, 3) := by decide +kernel
theorem dX8_made_18 : decode cX8_made 18 = .ok (.getfield 159, 3) := by decide +kernel
theorem dX8_made_21 : decode cX8_made 21 = .ok (.invokevirtual 160, 3) := by decide +kernel
theorem dX8_made_24 : decode cX8_made 24 = .ok (.ireturn, 1) := by decide +kernel
theorem dX8_bars_0 : decode cX8_bars 0 = .ok (.aload_n 0, 1) := by decide +kernel
theorem dX8_bars_1 : decode cX8_bars 1 = .ok (.invokevirtual 156, 3) := by decide +kernel
theorem dX8_bars_4 : decode cX8_bars 4 = .ok (.istore_n 1, 1) := by decide +kernel
theorem dX8_bars_5 : decode cX8_bars 5 = .ok (.iload_n 1, 1) := by decide +kernel
theorem dX8_bars_6 : decode cX8_bars 6 = .ok (.ifCond .eq 5, 3) := by decide +kernel
theorem dX8_bars_9 : decode cX8_bars 9 = .ok (.iload_n 1, 1) := by decide +kernel
theorem dX8_bars_10 : decode cX8_bars 10 = .ok (.ireturn, 1) := by decide +kernel
theorem dX8_bars_11 : decode cX8_bars 11 = .ok (.iconst 0, 1) := by decide +kernel
theorem dX8_bars_12 : decode cX8_bars 12 = .ok (.istore_n 2, 1) := by decide +kernel
theorem dX8_bars_13 : decode cX8_bars 13 = .ok (.iload_n 2, 1) := by decide +kernel
theorem dX8_bars_14 : decode cX8_bars 14 = .ok (.aload_n 0, 1) := by decide +kernel
theorem dX8_bars_15 : decode cX8_bars 15 = .ok (.getfield 39, 3) := by decide +kernel
theorem dX8_bars_18 : decode cX8_bars 18 = .ok (.getfield 159, 3) := by decide +kernel
theorem dX8_bars_21 : decode cX8_bars 21 = .ok (.if_icmp .ge 23, 3) := by decide +kernel
theorem dX8_bars_24 : decode cX8_bars 24 = .ok (.aload_n 0, 1) := by decide +kernel
theorem dX8_bars_25 : decode cX8_bars 25 = .ok (.iload_n 2, 1) := by decide +kernel
theorem dX8_bars_26 : decode cX8_bars 26 = .ok (.iconst 1, 1) := by decide +kernel
