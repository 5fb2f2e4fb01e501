theorem dX11_init_0 : decode cX11_init 0 = .ok (.aload_n 0, 1) := by decide +kernel
theorem dX11_init_1 : decode cX11_init 1 = .ok (.invokespecial 1, 3) := by decide +kernel
theorem dX11_init_4 : decode cX11_init 4 = .ok (.aload_n 0, 1) := by decide +kernel
theorem dX11_init_5 : decode cX11_init 5 = .ok (.new 7, 3) := by decide +kernel
theorem dX11_init_8 : decode cX11_init 8 = .ok (.dup, 1) := by decide +kernel
theorem dX11_init_9 : decode cX11_init 9 = .ok (.invokespecial 9, 3) := by decide +kernel
theorem dX11_init_12 : decode cX11_init 12 = .ok (.putfield 10, 3) := by decide +kernel
theorem dX11_init_15 : decode cX11_init 15 = .ok (.aload_n 0, 1) := by decide +kernel
theorem dX11_init_16 : decode cX11_init 16 = .ok (.new 16, 3) := by decide +kernel
theorem dX11_init_19 : decode cX11_init 19 = .ok (.dup, 1) := by decide +kernel
theorem dX11_init_20 : decode cX11_init 20 = .ok (.aload_n 0, 1) := by decide +kernel
theorem dX11_init_21 : decode cX11_init 21 = .ok (.getfield 10, 3) := by decide +kernel
theorem dX11_init_24 : decode cX11_init 24 = .ok (.bipush 32, 2) := by decide +kernel
theorem dX11_init_26 : decode cX11_init 26 = .ok (.invokespecial 18, 3) := by decide +kernel
theorem dX11_init_29 : decode cX11_init 29 = .ok (.putfield 21, 3) := by decide +kernel
theorem dX11_init_32 : decode cX11_init 32 = .ok (.aload_n 0, 1) := by decide +kernel
theorem dX11_init_33 : decode cX11_init 33 = .ok (.new 25, 3) := by decide +kernel
theorem dX11_init_36 : decode cX11_init 36 = .ok (.dup, 1) := by decide +kernel
theorem dX11_init_37 : decode cX11_init 37 = .ok (.aload_n 0, 1) := by decide +kernel
theorem dX11_init_38 : decode cX11_init 38 = .ok (.getfield 10, 3) := by decide +kernel
theorem dX11_init_41 : decode cX11_init 41 = .ok (.aload_n 0, 1) := by decide +kernel
theorem dX11_init_42 : decode cX11_init 42 = .ok (.getfield 21, 3) := by decide +kernel
theorem dX11_init_45 : decode cX11_init 45 = .ok (.invokespecial 27, 3) := by decide +kernel
theorem dX11_init_48 : decode cX11_init 48 = .ok (.putfield 30, 3) := by decide +kernel
theorem dX11_init_51 : decode cX11_init 51 = .ok (.aload_n 0, 1) := by decide +kernel
theorem dX11_init_52 : decode cX11_init 52 = .ok (.new 34, 3) := by decide +kernel
theorem dX11_init_55 : decode cX11_init 55 = .ok (.dup, 1) := by decide +kernel
theorem dX11_init_56 : decode cX11_init 56 = .ok (.aload_n 0, 1) := by decide +kernel
theorem dX11_init_57 : decode cX11_init 57 = .ok (.getfield 10, 3) := by decide +kernel
theorem dX11_init_60 : decode cX11_init 60 = .ok (.invokespecial 36, 3) := by decide +kernel
theorem dX11_init_63 : decode cX11_init 63 = .ok (.putfield 39, 3) := by decide +kernel
theorem dX11_init_66 : decode cX11_init 66 = .ok (.aload_n 0, 1) := by decide +kernel
theorem dX11_init_67 : decode cX11_init 67 = .ok (.new 43, 3) := by decide +kernel
theorem dX11_init_70 : decode cX11_init 70 = .ok (.dup, 1) := by decide +kernel
theorem dX11_init_71 : decode cX11_init 71 = .ok (.aload_n 0, 1) := by decide +kernel
theorem dX11_init_72 : decode cX11_init 72 = .ok (.getfield 10, 3) := by decide +kernel
theorem dX11_init_75 : decode cX11_init 75 = .ok (.invokespecial 45, 3) := by decide +kernel
theorem dX11_init_78 : decode cX11_init 78 = .ok (.putfield 46, 3) := by decide +kernel
theorem dX11_init_81 : decode cX11_init 81 = .ok (.aload_n 0, 1) := by decide +kernel
theorem dX11_init_82 : decode cX11_init 82 = .ok (.new 50, 3) := by decide +kernel
theorem dX11_init_85 : decode cX11_init 85 = .ok (.dup, 1) := by decide +kernel
theorem dX11_init_86 : decode cX11_init 86 = .ok (.aload_n 0, 1) := by decide +kernel
theorem dX11_init_87 : decode cX11_init 87 = .ok (.getfield 10, 3) := by decide +kernel
theorem dX11_init_90 : decode cX11_init 90 = .ok (.aload_n 0, 1) := by decide +kernel
theorem dX11_init_91 : decode cX11_init 91 = .ok (.getfield 21, 3) := by decide +kernel
theorem dX11_init_94 : decode cX11_init 94 = .ok (.invokespecial 52, 3) := by decide +kernel
theorem dX11_init_97 : decode cX11_init 97 = .ok (.putfield 53, 3) := by decide +kernel
theorem dX11_init_100 : decode cX11_init 100 = .ok (.aload_n 0, 1) := by decide +kernel
theorem dX11_init_101 : decode cX11_init 101 = .ok (.new 57, 3) := by decide +kernel
theorem dX11_init_104 : decode cX11_init 104 = .ok (.dup, 1) := by decide +kernel
theorem dX11_init_105 : decode cX11_init 105 = .ok (.aload_n 0, 1) := by decide +kernel
theorem dX11_init_106 : decode cX11_init 106 = .ok (.getfield 10, 3) := by decide +kernel
theorem dX11_init_109 : decode cX11_init 109 = .ok (.aload_n 0, 1) := by decide +kernel
theorem dX11_init_110 : decode cX11_init 110 = .ok (.getfield 21, 3) := by decide +kernel
theorem dX11_init_113 : decode cX11_init 113 = .ok (.aload_n 0, 1) := by decide +kernel
theorem dX11_init_114 : decode cX11_init 114 = .ok (.getfield 53, 3) := by decide +kernel
theorem dX11_init_117 : decode cX11_init 117 = .ok (.invokespecial 59, 3) := by decide +kernel
theorem dX11_init_120 : decode cX11_init 120 = .ok (.putfield 62, 3) := by decide +kernel
theorem dX11_init_123 : decode cX11_init 123 = .ok (.return_, 1) := by decide +kernel
theorem dX11_cell_0 : decode cX11_cell 0 = .ok (.iload_n 1, 1) := by decide +kernel
theorem dX11_cell_1 : decode cX11_cell 1 = .ok (.iconst 0, 1) := by decide +kernel
theorem dX11_cell_2 : decode cX11_cell 2 = .ok (.sipush 500, 3) := by decide +kernel
theorem dX11_cell_5 : decode cX11_cell 5 = .ok (.invokestatic 66, 3) := by decide +kernel
theorem dX11_cell_8 : decode cX11_cell 8 = .ok (.ifCond .ne 23, 3) := by decide +kernel
theorem dX11_cell_11 : decode cX11_cell 11 = .ok (.iload_n 2, 1) := by decide +kernel
theorem dX11_cell_12 : decode cX11_cell 12 = .ok (.iconst 0, 1) := by decide +kernel
theorem dX11_cell_13 : decode cX11_cell 13 = .ok (.bipush 99, 2) := by decide +kernel
theorem dX11_cell_15 : decode cX11_cell 15 = .ok (.invokestatic 66, 3) := by decide +kernel
theorem dX11_cell_18 : decode cX11_cell 18 = .ok (.ifCond .ne 13, 3) := by decide +kernel
theorem dX11_cell_21 : decode cX11_cell 21 = .ok (.iload_n 3, 1) := by decide +kernel
theorem dX11_cell_22 : decode cX11_cell 22 = .ok (.iconst 1, 1) := by decide +kernel
theorem dX11_cell_23 : decode cX11_cell 23 = .ok (.bipush 9, 2) := by decide +kernel
theorem dX11_cell_25 : decode cX11_cell 25 = .ok (.invokestatic 66, 3) := by decide +kernel
theorem dX11_cell_28 : decode cX11_cell 28 = .ok (.ifCond .eq 6, 3) := by decide +kernel
theorem dX11_cell_31 : decode cX11_cell 31 = .ok (.ldc 70, 2) := by decide +kernel
theorem dX11_cell_33 : decode cX11_cell 33 = .ok (.ireturn, 1) := by decide +kernel
theorem dX11_cell_34 : decode cX11_cell 34 = .ok (.aload_n 0, 1) := by decide +kernel
theorem dX11_cell_35 : decode cX11_cell 35 = .ok (.getfield 10, 3) := by decide +kernel
theorem dX11_cell_38 : decode cX11_cell 38 = .ok (.getfield 71, 3) := by decide +kernel
theorem dX11_cell_41 : decode cX11_cell 41 = .ok (.bipush 6, 2) := by decide +kernel
theorem dX11_cell_43 : decode cX11_cell 43 = .ok (.if_icmp .lt 6, 3) := by decide +kernel
theorem dX11_cell_46 : decode cX11_cell 46 = .ok (.ldc 75, 2) := by decide +kernel
theorem dX11_cell_48 : decode cX11_cell 48 = .ok (.ireturn, 1) := by decide +kernel
theorem dX11_cell_49 : decode cX11_cell 49 = .ok (.aload_n 0, 1) := by decide +kernel
theorem dX11_cell_50 : decode cX11_cell 50 = .ok (.getfield 21, 3) := by decide +kernel
theorem dX11_cell_53 : decode cX11_cell 53 = .ok (.invokevirtual 76, 3) := by decide +kernel
theorem dX11_cell_56 : decode cX11_cell 56 = .ok (.aload_n 0, 1) := by decide +kernel
theorem dX11_cell_57 : decode cX11_cell 57 = .ok (.getfield 10, 3) := by decide +kernel
theorem dX11_cell_60 : decode cX11_cell 60 = .ok (.iload_n 1, 1) := by decide +kernel
theorem dX11_cell_61 : decode cX11_cell 61 = .ok (.iload_n 2, 1) := by decide +kernel
theorem dX11_cell_62 : decode cX11_cell 62 = .ok (.iload_n 3, 1) := by decide +kernel
theorem dX11_cell_63 : decode cX11_cell 63 = .ok (.invokevirtual 79, 3) := by decide +kernel
theorem dX11_cell_66 : decode cX11_cell 66 = .ok (.ireturn, 1) := by decide +kernel
theorem dX11_link_0 : decode cX11_link 0 = .ok (.aload_n 0, 1) := by decide +kernel
theorem dX11_link_1 : decode cX11_link 1 = .ok (.getfield 10, 3) := by decide +kernel
theorem dX11_link_4 : decode cX11_link 4 = .ok (.iload_n 1, 1) := by decide +kernel
theorem dX11_link_5 : decode cX11_link 5 = .ok (.invokevirtual 83, 3) := by decide +kernel
theorem dX11_link_8 : decode cX11_link 8 = .ok (.ifCond .eq 14, 3) := by decide +kernel
theorem dX11_link_11 : decode cX11_link 11 = .ok (.aload_n 0, 1) := by decide +kernel
theorem dX11_link_12 : decode cX11_link 12 = .ok (.getfield 10, 3) := by decide +kernel
theorem dX11_link_15 : decode cX11_link 15 = .ok (.iload_n 2, 1) := by decide +kernel
theorem dX11_link_16 : decode cX11_link 16 = .ok (.invokevirtual 83, 3) := by decide +kernel
theorem dX11_link_19 : decode cX11_link 19 = .ok (.ifCond .ne 6, 3) := by decide +kernel
theorem dX11_link_22 : decode cX11_link 22 = .ok (.ldc 87, 2) := by decide +kernel
theorem dX11_link_24 : decode cX11_link 24 = .ok (.ireturn, 1) := by decide +kernel
theorem dX11_link_25 : decode cX11_link 25 = .ok (.iload_n 3, 1) := by decide +kernel
theorem dX11_link_26 : decode cX11_link 26 = .ok (.iconst 1, 1) := by decide +kernel
theorem dX11_link_27 : decode cX11_link 27 = .ok (.bipush 9, 2) := by decide +kernel
theorem dX11_link_29 : decode cX11_link 29 = .ok (.invokestatic 66, 3) := by decide +kernel
theorem dX11_link_32 : decode cX11_link 32 = .ok (.ifCond .eq 6, 3) := by decide +kernel
theorem dX11_link_35 : decode cX11_link 35 = .ok (.ldc 70, 2) := by decide +kernel
theorem dX11_link_37 : decode cX11_link 37 = .ok (.ireturn, 1) := by decide +kernel
theorem dX11_link_38 : decode cX11_link 38 = .ok (.iload_n 1, 1) := by decide +kernel
theorem dX11_link_39 : decode cX11_link 39 = .ok (.iload_n 2, 1) := by decide +kernel
theorem dX11_link_40 : decode cX11_link 40 = .ok (.if_icmp .ne 6, 3) := by decide +kernel
theorem dX11_link_43 : decode cX11_link 43 = .ok (.ldc 88, 2) := by decide +kernel
theorem dX11_link_45 : decode cX11_link 45 = .ok (.ireturn, 1) := by decide +kernel
theorem dX11_link_46 : decode cX11_link 46 = .ok (.aload_n 0, 1) := by decide +kernel
theorem dX11_link_47 : decode cX11_link 47 = .ok (.getfield 10, 3) := by decide +kernel
theorem dX11_link_50 : decode cX11_link 50 = .ok (.getfield 89, 3) := by decide +kernel
theorem dX11_link_53 : decode cX11_link 53 = .ok (.getfield 93, 3) := by decide +kernel
theorem dX11_link_56 : decode cX11_link 56 = .ok (.bipush 12, 2) := by decide +kernel
theorem dX11_link_58 : decode cX11_link 58 = .ok (.if_icmp .lt 6, 3) := by decide +kernel
theorem dX11_link_61 : decode cX11_link 61 = .ok (.ldc 75, 2) := by decide +kernel
theorem dX11_link_63 : decode cX11_link 63 = .ok (.ireturn, 1) := by decide +kernel
theorem dX11_link_64 : decode cX11_link 64 = .ok (.aload_n 0, 1) := by decide +kernel
theorem dX11_link_65 : decode cX11_link 65 = .ok (.getfield 21, 3) := by decide +kernel
theorem dX11_link_68 : decode cX11_link 68 = .ok (.invokevirtual 76, 3) := by decide +kernel
theorem dX11_link_71 : decode cX11_link 71 = .ok (.aload_n 0, 1) := by decide +kernel
theorem dX11_link_72 : decode cX11_link 72 = .ok (.getfield 10, 3) := by decide +kernel
theorem dX11_link_75 : decode cX11_link 75 = .ok (.getfield 89, 3) := by decide +kernel
theorem dX11_link_78 : decode cX11_link 78 = .ok (.iload_n 1, 1) := by decide +kernel
theorem dX11_link_79 : decode cX11_link 79 = .ok (.iload_n 2, 1) := by decide +kernel
theorem dX11_link_80 : decode cX11_link 80 = .ok (.iload_n 3, 1) := by decide +kernel
theorem dX11_link_81 : decode cX11_link 81 = .ok (.invokevirtual 98, 3) := by decide +kernel
theorem dX11_link_84 : decode cX11_link 84 = .ok (.ireturn, 1) := by decide +kernel
theorem dX11_river_0 : decode cX11_river 0 = .ok (.aload_n 0, 1) := by decide +kernel
theorem dX11_river_1 : decode cX11_river 1 = .ok (.getfield 10, 3) := by decide +kernel
theorem dX11_river_4 : decode cX11_river 4 = .ok (.iload_n 1, 1) := by decide +kernel
theorem dX11_river_5 : decode cX11_river 5 = .ok (.invokevirtual 83, 3) := by decide +kernel
theorem dX11_river_8 : decode cX11_river 8 = .ok (.ifCond .ne 6, 3) := by decide +kernel
theorem dX11_river_11 : decode cX11_river 11 = .ok (.ldc 87, 2) := by decide +kernel
theorem dX11_river_13 : decode cX11_river 13 = .ok (.ireturn, 1) := by decide +kernel
theorem dX11_river_14 : decode cX11_river 14 = .ok (.iload_n 2, 1) := by decide +kernel
theorem dX11_river_15 : decode cX11_river 15 = .ok (.iconst 0, 1) := by decide +kernel
theorem dX11_river_16 : decode cX11_river 16 = .ok (.sipush 1000, 3) := by decide +kernel
theorem dX11_river_19 : decode cX11_river 19 = .ok (.invokestatic 66, 3) := by decide +kernel
theorem dX11_river_22 : decode cX11_river 22 = .ok (.ifCond .ne 23, 3) := by decide +kernel
theorem dX11_river_25 : decode cX11_river 25 = .ok (.iload_n 3, 1) := by decide +kernel
theorem dX11_river_26 : decode cX11_river 26 = .ok (.iconst 0, 1) := by decide +kernel
theorem dX11_river_27 : decode cX11_river 27 = .ok (.iload_n 2, 1) := by decide +kernel
theorem dX11_river_28 : decode cX11_river 28 = .ok (.invokestatic 66, 3) := by decide +kernel
theorem dX11_river_31 : decode cX11_river 31 = .ok (.ifCond .ne 14, 3) := by decide +kernel
theorem dX11_river_34 : decode cX11_river 34 = .ok (.iload 4, 2) := by decide +kernel
theorem dX11_river_36 : decode cX11_river 36 = .ok (.iconst 1, 1) := by decide +kernel
theorem dX11_river_37 : decode cX11_river 37 = .ok (.bipush 9, 2) := by decide +kernel
theorem dX11_river_39 : decode cX11_river 39 = .ok (.invokestatic 66, 3) := by decide +kernel
theorem dX11_river_42 : decode cX11_river 42 = .ok (.ifCond .eq 6, 3) := by decide +kernel
theorem dX11_river_45 : decode cX11_river 45 = .ok (.ldc 70, 2) := by decide +kernel
theorem dX11_river_47 : decode cX11_river 47 = .ok (.ireturn, 1) := by decide +kernel
theorem dX11_river_48 : decode cX11_river 48 = .ok (.aload_n 0, 1) := by decide +kernel
theorem dX11_river_49 : decode cX11_river 49 = .ok (.getfield 10, 3) := by decide +kernel
theorem dX11_river_52 : decode cX11_river 52 = .ok (.getfield 101, 3) := by decide +kernel
theorem dX11_river_55 : decode cX11_river 55 = .ok (.getfield 105, 3) := by decide +kernel
theorem dX11_river_58 : decode cX11_river 58 = .ok (.iconst 3, 1) := by decide +kernel
theorem dX11_river_59 : decode cX11_river 59 = .ok (.if_icmp .lt 6, 3) := by decide +kernel
theorem dX11_river_62 : decode cX11_river 62 = .ok (.ldc 75, 2) := by decide +kernel
theorem dX11_river_64 : decode cX11_river 64 = .ok (.ireturn, 1) := by decide +kernel
theorem dX11_river_65 : decode cX11_river 65 = .ok (.aload_n 0, 1) := by decide +kernel
theorem dX11_river_66 : decode cX11_river 66 = .ok (.getfield 21, 3) := by decide +kernel
theorem dX11_river_69 : decode cX11_river 69 = .ok (.invokevirtual 76, 3) := by decide +kernel
theorem dX11_river_72 : decode cX11_river 72 = .ok (.aload_n 0, 1) := by decide +kernel
theorem dX11_river_73 : decode cX11_river 73 = .ok (.getfield 10, 3) := by decide +kernel
theorem dX11_river_76 : decode cX11_river 76 = .ok (.getfield 101, 3) := by decide +kernel
theorem dX11_river_79 : decode cX11_river 79 = .ok (.iload_n 1, 1) := by decide +kernel
theorem dX11_river_80 : decode cX11_river 80 = .ok (.iload_n 2, 1) := by decide +kernel
theorem dX11_river_81 : decode cX11_river 81 = .ok (.iload_n 3, 1) := by decide +kernel
theorem dX11_river_82 : decode cX11_river 82 = .ok (.iload 4, 2) := by decide +kernel
theorem dX11_river_84 : decode cX11_river 84 = .ok (.invokevirtual 108, 3) := by decide +kernel
theorem dX11_river_87 : decode cX11_river 87 = .ok (.ireturn, 1) := by decide +kernel
theorem dX11_drain_0 : decode cX11_drain 0 = .ok (.aload_n 0, 1) := by decide +kernel
theorem dX11_drain_1 : decode cX11_drain 1 = .ok (.getfield 10, 3) := by decide +kernel
theorem dX11_drain_4 : decode cX11_drain 4 = .ok (.iload_n 1, 1) := by decide +kernel
theorem dX11_drain_5 : decode cX11_drain 5 = .ok (.invokevirtual 83, 3) := by decide +kernel
theorem dX11_drain_8 : decode cX11_drain 8 = .ok (.ifCond .ne 6, 3) := by decide +kernel
theorem dX11_drain_11 : decode cX11_drain 11 = .ok (.ldc 87, 2) := by decide +kernel
theorem dX11_drain_13 : decode cX11_drain 13 = .ok (.ireturn, 1) := by decide +kernel
theorem dX11_drain_14 : decode cX11_drain 14 = .ok (.iload_n 2, 1) := by decide +kernel
theorem dX11_drain_15 : decode cX11_drain 15 = .ok (.iconst 0, 1) := by decide +kernel
theorem dX11_drain_16 : decode cX11_drain 16 = .ok (.sipush 1000, 3) := by decide +kernel
theorem dX11_drain_19 : decode cX11_drain 19 = .ok (.invokestatic 66, 3) := by decide +kernel
theorem dX11_drain_22 : decode cX11_drain 22 = .ok (.ifCond .ne 13, 3) := by decide +kernel
theorem dX11_drain_25 : decode cX11_drain 25 = .ok (.iload_n 3, 1) := by decide +kernel
theorem dX11_drain_26 : decode cX11_drain 26 = .ok (.iconst 1, 1) := by decide +kernel
theorem dX11_drain_27 : decode cX11_drain 27 = .ok (.bipush 9, 2) := by decide +kernel
theorem dX11_drain_29 : decode cX11_drain 29 = .ok (.invokestatic 66, 3) := by decide +kernel
theorem dX11_drain_32 : decode cX11_drain 32 = .ok (.ifCond .eq 6, 3) := by decide +kernel
theorem dX11_drain_35 : decode cX11_drain 35 = .ok (.ldc 70, 2) := by decide +kernel
theorem dX11_drain_37 : decode cX11_drain 37 = .ok (.ireturn, 1) := by decide +kernel
theorem dX11_drain_38 : decode cX11_drain 38 = .ok (.aload_n 0, 1) := by decide +kernel
theorem dX11_drain_39 : decode cX11_drain 39 = .ok (.getfield 10, 3) := by decide +kernel
theorem dX11_drain_42 : decode cX11_drain 42 = .ok (.getfield 111, 3) := by decide +kernel
theorem dX11_drain_45 : decode cX11_drain 45 = .ok (.getfield 115, 3) := by decide +kernel
theorem dX11_drain_48 : decode cX11_drain 48 = .ok (.iconst 2, 1) := by decide +kernel
theorem dX11_drain_49 : decode cX11_drain 49 = .ok (.if_icmp .lt 6, 3) := by decide +kernel
theorem dX11_drain_52 : decode cX11_drain 52 = .ok (.ldc 75, 2) := by decide +kernel
theorem dX11_drain_54 : decode cX11_drain 54 = .ok (.ireturn, 1) := by decide +kernel
theorem dX11_drain_55 : decode cX11_drain 55 = .ok (.aload_n 0, 1) := by decide +kernel
theorem dX11_drain_56 : decode cX11_drain 56 = .ok (.getfield 21, 3) := by decide +kernel
theorem dX11_drain_59 : decode cX11_drain 59 = .ok (.invokevirtual 76, 3) := by decide +kernel
theorem dX11_drain_62 : decode cX11_drain 62 = .ok (.aload_n 0, 1) := by decide +kernel
theorem dX11_drain_63 : decode cX11_drain 63 = .ok (.getfield 10, 3) := by decide +kernel
theorem dX11_drain_66 : decode cX11_drain 66 = .ok (.getfield 111, 3) := by decide +kernel
theorem dX11_drain_69 : decode cX11_drain 69 = .ok (.iload_n 1, 1) := by decide +kernel
theorem dX11_drain_70 : decode cX11_drain 70 = .ok (.iload_n 2, 1) := by decide +kernel
theorem dX11_drain_71 : decode cX11_drain 71 = .ok (.iload_n 3, 1) := by decide +kernel
theorem dX11_drain_72 : decode cX11_drain 72 = .ok (.invokevirtual 118, 3) := by decide +kernel
theorem dX11_drain_75 : decode cX11_drain 75 = .ok (.ireturn, 1) := by decide +kernel
theorem dX11_well_0 : decode cX11_well 0 = .ok (.aload_n 0, 1) := by decide +kernel
theorem dX11_well_1 : decode cX11_well 1 = .ok (.getfield 10, 3) := by decide +kernel
theorem dX11_well_4 : decode cX11_well 4 = .ok (.iload_n 1, 1) := by decide +kernel
theorem dX11_well_5 : decode cX11_well 5 = .ok (.invokevirtual 83, 3) := by decide +kernel
theorem dX11_well_8 : decode cX11_well 8 = .ok (.ifCond .ne 6, 3) := by decide +kernel
theorem dX11_well_11 : decode cX11_well 11 = .ok (.ldc 87, 2) := by decide +kernel
theorem dX11_well_13 : decode cX11_well 13 = .ok (.ireturn, 1) := by decide +kernel
theorem dX11_well_14 : decode cX11_well 14 = .ok (.iload_n 2, 1) := by decide +kernel
theorem dX11_well_15 : decode cX11_well 15 = .ok (.iconst 0, 1) := by decide +kernel
theorem dX11_well_16 : decode cX11_well 16 = .ok (.bipush 99, 2) := by decide +kernel
theorem dX11_well_18 : decode cX11_well 18 = .ok (.invokestatic 66, 3) := by decide +kernel
theorem dX11_well_21 : decode cX11_well 21 = .ok (.ifCond .ne 13, 3) := by decide +kernel
theorem dX11_well_24 : decode cX11_well 24 = .ok (.iload_n 3, 1) := by decide +kernel
theorem dX11_well_25 : decode cX11_well 25 = .ok (.iconst 0, 1) := by decide +kernel
theorem dX11_well_26 : decode cX11_well 26 = .ok (.bipush 99, 2) := by decide +kernel
theorem dX11_well_28 : decode cX11_well 28 = .ok (.invokestatic 66, 3) := by decide +kernel
theorem dX11_well_31 : decode cX11_well 31 = .ok (.ifCond .eq 6, 3) := by decide +kernel
theorem dX11_well_34 : decode cX11_well 34 = .ok (.ldc 70, 2) := by decide +kernel
theorem dX11_well_36 : decode cX11_well 36 = .ok (.ireturn, 1) := by decide +kernel
theorem dX11_well_37 : decode cX11_well 37 = .ok (.aload_n 0, 1) := by decide +kernel
theorem dX11_well_38 : decode cX11_well 38 = .ok (.getfield 10, 3) := by decide +kernel
theorem dX11_well_41 : decode cX11_well 41 = .ok (.getfield 119, 3) := by decide +kernel
theorem dX11_well_44 : decode cX11_well 44 = .ok (.getfield 123, 3) := by decide +kernel
theorem dX11_well_47 : decode cX11_well 47 = .ok (.iconst 3, 1) := by decide +kernel
theorem dX11_well_48 : decode cX11_well 48 = .ok (.if_icmp .lt 6, 3) := by decide +kernel
theorem dX11_well_51 : decode cX11_well 51 = .ok (.ldc 75, 2) := by decide +kernel
theorem dX11_well_53 : decode cX11_well 53 = .ok (.ireturn, 1) := by decide +kernel
theorem dX11_well_54 : decode cX11_well 54 = .ok (.aload_n 0, 1) := by decide +kernel
theorem dX11_well_55 : decode cX11_well 55 = .ok (.getfield 10, 3) := by decide +kernel
theorem dX11_well_58 : decode cX11_well 58 = .ok (.getfield 119, 3) := by decide +kernel
theorem dX11_well_61 : decode cX11_well 61 = .ok (.iload_n 1, 1) := by decide +kernel
theorem dX11_well_62 : decode cX11_well 62 = .ok (.iload_n 2, 1) := by decide +kernel
theorem dX11_well_63 : decode cX11_well 63 = .ok (.iload_n 3, 1) := by decide +kernel
theorem dX11_well_64 : decode cX11_well 64 = .ok (.invokevirtual 126, 3) := by decide +kernel
theorem dX11_well_67 : decode cX11_well 67 = .ok (.ireturn, 1) := by decide +kernel
theorem dX11_rain_0 : decode cX11_rain 0 = .ok (.aload_n 0, 1) := by decide +kernel
theorem dX11_rain_1 : decode cX11_rain 1 = .ok (.getfield 10, 3) := by decide +kernel
theorem dX11_rain_4 : decode cX11_rain 4 = .ok (.iload_n 1, 1) := by decide +kernel
theorem dX11_rain_5 : decode cX11_rain 5 = .ok (.invokevirtual 83, 3) := by decide +kernel
theorem dX11_rain_8 : decode cX11_rain 8 = .ok (.ifCond .ne 6, 3) := by decide +kernel
theorem dX11_rain_11 : decode cX11_rain 11 = .ok (.ldc 87, 2) := by decide +kernel
theorem dX11_rain_13 : decode cX11_rain 13 = .ok (.ireturn, 1) := by decide +kernel
theorem dX11_rain_14 : decode cX11_rain 14 = .ok (.iload_n 2, 1) := by decide +kernel
theorem dX11_rain_15 : decode cX11_rain 15 = .ok (.iconst 0, 1) := by decide +kernel
theorem dX11_rain_16 : decode cX11_rain 16 = .ok (.bipush 99, 2) := by decide +kernel
theorem dX11_rain_18 : decode cX11_rain 18 = .ok (.invokestatic 66, 3) := by decide +kernel
theorem dX11_rain_21 : decode cX11_rain 21 = .ok (.ifCond .eq 6, 3) := by decide +kernel
theorem dX11_rain_24 : decode cX11_rain 24 = .ok (.ldc 70, 2) := by decide +kernel
theorem dX11_rain_26 : decode cX11_rain 26 = .ok (.ireturn, 1) := by decide +kernel
theorem dX11_rain_27 : decode cX11_rain 27 = .ok (.aload_n 0, 1) := by decide +kernel
theorem dX11_rain_28 : decode cX11_rain 28 = .ok (.getfield 10, 3) := by decide +kernel
theorem dX11_rain_31 : decode cX11_rain 31 = .ok (.getfield 127, 3) := by decide +kernel
theorem dX11_rain_34 : decode cX11_rain 34 = .ok (.iload_n 1, 1) := by decide +kernel
theorem dX11_rain_35 : decode cX11_rain 35 = .ok (.iload_n 2, 1) := by decide +kernel
theorem dX11_rain_36 : decode cX11_rain 36 = .ok (.invokestatic 131, 3) := by decide +kernel
theorem dX11_rain_39 : decode cX11_rain 39 = .ok (.ireturn, 1) := by decide +kernel
theorem dX11_ease_0 : decode cX11_ease 0 = .ok (.aload_n 0, 1) := by decide +kernel
theorem dX11_ease_1 : decode cX11_ease 1 = .ok (.getfield 10, 3) := by decide +kernel
theorem dX11_ease_4 : decode cX11_ease 4 = .ok (.getfield 89, 3) := by decide +kernel
theorem dX11_ease_7 : decode cX11_ease 7 = .ok (.iload_n 1, 1) := by decide +kernel
theorem dX11_ease_8 : decode cX11_ease 8 = .ok (.invokevirtual 135, 3) := by decide +kernel
theorem dX11_ease_11 : decode cX11_ease 11 = .ok (.ifCond .ne 6, 3) := by decide +kernel
theorem dX11_ease_14 : decode cX11_ease 14 = .ok (.ldc 87, 2) := by decide +kernel
theorem dX11_ease_16 : decode cX11_ease 16 = .ok (.ireturn, 1) := by decide +kernel
theorem dX11_ease_17 : decode cX11_ease 17 = .ok (.iload_n 2, 1) := by decide +kernel
theorem dX11_ease_18 : decode cX11_ease 18 = .ok (.iconst 1, 1) := by decide +kernel
theorem dX11_ease_19 : decode cX11_ease 19 = .ok (.bipush 9, 2) := by decide +kernel
theorem dX11_ease_21 : decode cX11_ease 21 = .ok (.invokestatic 66, 3) := by decide +kernel
theorem dX11_ease_24 : decode cX11_ease 24 = .ok (.ifCond .eq 6, 3) := by decide +kernel
theorem dX11_ease_27 : decode cX11_ease 27 = .ok (.ldc 70, 2) := by decide +kernel
theorem dX11_ease_29 : decode cX11_ease 29 = .ok (.ireturn, 1) := by decide +kernel
theorem dX11_ease_30 : decode cX11_ease 30 = .ok (.aload_n 0, 1) := by decide +kernel
theorem dX11_ease_31 : decode cX11_ease 31 = .ok (.getfield 21, 3) := by decide +kernel
theorem dX11_ease_34 : decode cX11_ease 34 = .ok (.invokevirtual 76, 3) := by decide +kernel
theorem dX11_ease_37 : decode cX11_ease 37 = .ok (.aload_n 0, 1) := by decide +kernel
theorem dX11_ease_38 : decode cX11_ease 38 = .ok (.getfield 10, 3) := by decide +kernel
theorem dX11_ease_41 : decode cX11_ease 41 = .ok (.getfield 89, 3) := by decide +kernel
theorem dX11_ease_44 : decode cX11_ease 44 = .ok (.getfield 138, 3) := by decide +kernel
theorem dX11_ease_47 : decode cX11_ease 47 = .ok (.iload_n 1, 1) := by decide +kernel
theorem dX11_ease_48 : decode cX11_ease 48 = .ok (.iload_n 2, 1) := by decide +kernel
theorem dX11_ease_49 : decode cX11_ease 49 = .ok (.invokestatic 131, 3) := by decide +kernel
theorem dX11_ease_52 : decode cX11_ease 52 = .ok (.ireturn, 1) := by decide +kernel
theorem dX11_rate_0 : decode cX11_rate 0 = .ok (.aload_n 0, 1) := by decide +kernel
theorem dX11_rate_1 : decode cX11_rate 1 = .ok (.getfield 10, 3) := by decide +kernel
theorem dX11_rate_4 : decode cX11_rate 4 = .ok (.getfield 119, 3) := by decide +kernel
theorem dX11_rate_7 : decode cX11_rate 7 = .ok (.iload_n 1, 1) := by decide +kernel
theorem dX11_rate_8 : decode cX11_rate 8 = .ok (.invokevirtual 141, 3) := by decide +kernel
theorem dX11_rate_11 : decode cX11_rate 11 = .ok (.ifCond .ne 6, 3) := by decide +kernel
theorem dX11_rate_14 : decode cX11_rate 14 = .ok (.ldc 87, 2) := by decide +kernel
theorem dX11_rate_16 : decode cX11_rate 16 = .ok (.ireturn, 1) := by decide +kernel
theorem dX11_rate_17 : decode cX11_rate 17 = .ok (.iload_n 2, 1) := by decide +kernel
theorem dX11_rate_18 : decode cX11_rate 18 = .ok (.iconst 0, 1) := by decide +kernel
theorem dX11_rate_19 : decode cX11_rate 19 = .ok (.aload_n 0, 1) := by decide +kernel
theorem dX11_rate_20 : decode cX11_rate 20 = .ok (.getfield 10, 3) := by decide +kernel
theorem dX11_rate_23 : decode cX11_rate 23 = .ok (.getfield 119, 3) := by decide +kernel
theorem dX11_rate_26 : decode cX11_rate 26 = .ok (.getfield 142, 3) := by decide +kernel
theorem dX11_rate_29 : decode cX11_rate 29 = .ok (.iload_n 1, 1) := by decide +kernel
theorem dX11_rate_30 : decode cX11_rate 30 = .ok (.iaload, 1) := by decide +kernel
theorem dX11_rate_31 : decode cX11_rate 31 = .ok (.invokestatic 66, 3) := by decide +kernel
theorem dX11_rate_34 : decode cX11_rate 34 = .ok (.ifCond .eq 6, 3) := by decide +kernel
theorem dX11_rate_37 : decode cX11_rate 37 = .ok (.ldc 70, 2) := by decide +kernel
theorem dX11_rate_39 : decode cX11_rate 39 = .ok (.ireturn, 1) := by decide +kernel
theorem dX11_rate_40 : decode cX11_rate 40 = .ok (.aload_n 0, 1) := by decide +kernel
theorem dX11_rate_41 : decode cX11_rate 41 = .ok (.getfield 10, 3) := by decide +kernel
theorem dX11_rate_44 : decode cX11_rate 44 = .ok (.getfield 119, 3) := by decide +kernel
theorem dX11_rate_47 : decode cX11_rate 47 = .ok (.getfield 145, 3) := by decide +kernel
theorem dX11_rate_50 : decode cX11_rate 50 = .ok (.iload_n 1, 1) := by decide +kernel
theorem dX11_rate_51 : decode cX11_rate 51 = .ok (.iload_n 2, 1) := by decide +kernel
theorem dX11_rate_52 : decode cX11_rate 52 = .ok (.invokestatic 131, 3) := by decide +kernel
theorem dX11_rate_55 : decode cX11_rate 55 = .ok (.ireturn, 1) := by decide +kernel
theorem dX11_stage_0 : decode cX11_stage 0 = .ok (.aload_n 0, 1) := by decide +kernel
theorem dX11_stage_1 : decode cX11_stage 1 = .ok (.getfield 10, 3) := by decide +kernel
theorem dX11_stage_4 : decode cX11_stage 4 = .ok (.getfield 101, 3) := by decide +kernel
theorem dX11_stage_7 : decode cX11_stage 7 = .ok (.iload_n 1, 1) := by decide +kernel
theorem dX11_stage_8 : decode cX11_stage 8 = .ok (.invokevirtual 148, 3) := by decide +kernel
theorem dX11_stage_11 : decode cX11_stage 11 = .ok (.ifCond .ne 6, 3) := by decide +kernel
theorem dX11_stage_14 : decode cX11_stage 14 = .ok (.ldc 87, 2) := by decide +kernel
theorem dX11_stage_16 : decode cX11_stage 16 = .ok (.ireturn, 1) := by decide +kernel
theorem dX11_stage_17 : decode cX11_stage 17 = .ok (.iload_n 2, 1) := by decide +kernel
theorem dX11_stage_18 : decode cX11_stage 18 = .ok (.aload_n 0, 1) := by decide +kernel
theorem dX11_stage_19 : decode cX11_stage 19 = .ok (.getfield 10, 3) := by decide +kernel
theorem dX11_stage_22 : decode cX11_stage 22 = .ok (.getfield 101, 3) := by decide +kernel
theorem dX11_stage_25 : decode cX11_stage 25 = .ok (.getfield 149, 3) := by decide +kernel
theorem dX11_stage_28 : decode cX11_stage 28 = .ok (.iload_n 1, 1) := by decide +kernel
theorem dX11_stage_29 : decode cX11_stage 29 = .ok (.iaload, 1) := by decide +kernel
theorem dX11_stage_30 : decode cX11_stage 30 = .ok (.sipush 1000, 3) := by decide +kernel
theorem dX11_stage_33 : decode cX11_stage 33 = .ok (.invokestatic 66, 3) := by decide +kernel
theorem dX11_stage_36 : decode cX11_stage 36 = .ok (.ifCond .eq 6, 3) := by decide +kernel
theorem dX11_stage_39 : decode cX11_stage 39 = .ok (.ldc 70, 2) := by decide +kernel
theorem dX11_stage_41 : decode cX11_stage 41 = .ok (.ireturn, 1) := by decide +kernel
theorem dX11_stage_42 : decode cX11_stage 42 = .ok (.aload_n 0, 1) := by decide +kernel
theorem dX11_stage_43 : decode cX11_stage 43 = .ok (.getfield 10, 3) := by decide +kernel
theorem dX11_stage_46 : decode cX11_stage 46 = .ok (.getfield 101, 3) := by decide +kernel
theorem dX11_stage_49 : decode cX11_stage 49 = .ok (.getfield 152, 3) := by decide +kernel
theorem dX11_stage_52 : decode cX11_stage 52 = .ok (.iload_n 1, 1) := by decide +kernel
theorem dX11_stage_53 : decode cX11_stage 53 = .ok (.iload_n 2, 1) := by decide +kernel
theorem dX11_stage_54 : decode cX11_stage 54 = .ok (.invokestatic 131, 3) := by decide +kernel
theorem dX11_stage_57 : decode cX11_stage 57 = .ok (.ireturn, 1) := by decide +kernel
theorem dX11_pattern_0 : decode cX11_pattern 0 = .ok (.aload_n 0, 1) := by decide +kernel
theorem dX11_pattern_1 : decode cX11_pattern 1 = .ok (.invokevirtual 155, 3) := by decide +kernel
theorem dX11_pattern_4 : decode cX11_pattern 4 = .ok (.ifCond .eq 13, 3) := by decide +kernel
theorem dX11_pattern_7 : decode cX11_pattern 7 = .ok (.aload_n 0, 1) := by decide +kernel
theorem dX11_pattern_8 : decode cX11_pattern 8 = .ok (.getfield 21, 3) := by decide +kernel
theorem dX11_pattern_11 : decode cX11_pattern 11 = .ok (.getfield 159, 3) := by decide +kernel
theorem dX11_pattern_14 : decode cX11_pattern 14 = .ok (.goto 5, 3) := by decide +kernel
theorem dX11_pattern_17 : decode cX11_pattern 17 = .ok (.ldc 162, 2) := by decide +kernel
theorem dX11_pattern_19 : decode cX11_pattern 19 = .ok (.ireturn, 1) := by decide +kernel
theorem dX11_head_0 : decode cX11_head 0 = .ok (.aload_n 0, 1) := by decide +kernel
theorem dX11_head_1 : decode cX11_head 1 = .ok (.getfield 10, 3) := by decide +kernel
theorem dX11_head_4 : decode cX11_head 4 = .ok (.iload_n 1, 1) := by decide +kernel
theorem dX11_head_5 : decode cX11_head 5 = .ok (.invokevirtual 83, 3) := by decide +kernel
theorem dX11_head_8 : decode cX11_head 8 = .ok (.ifCond .ne 7, 3) := by decide +kernel
theorem dX11_head_11 : decode cX11_head 11 = .ok (.ldc2_w 163, 3) := by decide +kernel
theorem dX11_head_14 : decode cX11_head 14 = .ok (.lreturn, 1) := by decide +kernel
theorem dX11_head_15 : decode cX11_head 15 = .ok (.aload_n 0, 1) := by decide +kernel
theorem dX11_head_16 : decode cX11_head 16 = .ok (.invokevirtual 155, 3) := by decide +kernel
theorem dX11_head_19 : decode cX11_head 19 = .ok (.ifCond .ne 7, 3) := by decide +kernel
theorem dX11_head_22 : decode cX11_head 22 = .ok (.ldc2_w 165, 3) := by decide +kernel
theorem dX11_head_25 : decode cX11_head 25 = .ok (.lreturn, 1) := by decide +kernel
theorem dX11_head_26 : decode cX11_head 26 = .ok (.aload_n 0, 1) := by decide +kernel
theorem dX11_head_27 : decode cX11_head 27 = .ok (.getfield 21, 3) := by decide +kernel
theorem dX11_head_30 : decode cX11_head 30 = .ok (.getfield 167, 3) := by decide +kernel
theorem dX11_head_33 : decode cX11_head 33 = .ok (.iload_n 1, 1) := by decide +kernel
theorem dX11_head_34 : decode cX11_head 34 = .ok (.laload, 1) := by decide +kernel
theorem dX11_head_35 : decode cX11_head 35 = .ok (.aload_n 0, 1) := by decide +kernel
theorem dX11_head_36 : decode cX11_head 36 = .ok (.getfield 21, 3) := by decide +kernel
theorem dX11_head_39 : decode cX11_head 39 = .ok (.getfield 171, 3) := by decide +kernel
theorem dX11_head_42 : decode cX11_head 42 = .ok (.iload_n 2, 1) := by decide +kernel
theorem dX11_head_43 : decode cX11_head 43 = .ok (.invokestatic 175, 3) := by decide +kernel
theorem dX11_head_46 : decode cX11_head 46 = .ok (.lreturn, 1) := by decide +kernel
theorem dX11_milli_0 : decode cX11_milli 0 = .ok (.aload_n 0, 1) := by decide +kernel
theorem dX11_milli_1 : decode cX11_milli 1 = .ok (.getfield 10, 3) := by decide +kernel
theorem dX11_milli_4 : decode cX11_milli 4 = .ok (.iload_n 1, 1) := by decide +kernel
theorem dX11_milli_5 : decode cX11_milli 5 = .ok (.invokevirtual 83, 3) := by decide +kernel
theorem dX11_milli_8 : decode cX11_milli 8 = .ok (.ifCond .ne 6, 3) := by decide +kernel
theorem dX11_milli_11 : decode cX11_milli 11 = .ok (.ldc 87, 2) := by decide +kernel
theorem dX11_milli_13 : decode cX11_milli 13 = .ok (.ireturn, 1) := by decide +kernel
theorem dX11_milli_14 : decode cX11_milli 14 = .ok (.aload_n 0, 1) := by decide +kernel
theorem dX11_milli_15 : decode cX11_milli 15 = .ok (.invokevirtual 155, 3) := by decide +kernel
theorem dX11_milli_18 : decode cX11_milli 18 = .ok (.ifCond .ne 6, 3) := by decide +kernel
theorem dX11_milli_21 : decode cX11_milli 21 = .ok (.ldc 88, 2) := by decide +kernel
theorem dX11_milli_23 : decode cX11_milli 23 = .ok (.ireturn, 1) := by decide +kernel
theorem dX11_milli_24 : decode cX11_milli 24 = .ok (.aload_n 0, 1) := by decide +kernel
theorem dX11_milli_25 : decode cX11_milli 25 = .ok (.getfield 21, 3) := by decide +kernel
theorem dX11_milli_28 : decode cX11_milli 28 = .ok (.iload_n 1, 1) := by decide +kernel
theorem dX11_milli_29 : decode cX11_milli 29 = .ok (.invokevirtual 179, 3) := by decide +kernel
theorem dX11_milli_32 : decode cX11_milli 32 = .ok (.ireturn, 1) := by decide +kernel
theorem dX11_flow_0 : decode cX11_flow 0 = .ok (.aload_n 0, 1) := by decide +kernel
theorem dX11_flow_1 : decode cX11_flow 1 = .ok (.getfield 10, 3) := by decide +kernel
theorem dX11_flow_4 : decode cX11_flow 4 = .ok (.getfield 89, 3) := by decide +kernel
theorem dX11_flow_7 : decode cX11_flow 7 = .ok (.iload_n 1, 1) := by decide +kernel
theorem dX11_flow_8 : decode cX11_flow 8 = .ok (.invokevirtual 135, 3) := by decide +kernel
theorem dX11_flow_11 : decode cX11_flow 11 = .ok (.ifCond .ne 6, 3) := by decide +kernel
theorem dX11_flow_14 : decode cX11_flow 14 = .ok (.ldc 87, 2) := by decide +kernel
theorem dX11_flow_16 : decode cX11_flow 16 = .ok (.ireturn, 1) := by decide +kernel
theorem dX11_flow_17 : decode cX11_flow 17 = .ok (.aload_n 0, 1) := by decide +kernel
theorem dX11_flow_18 : decode cX11_flow 18 = .ok (.invokevirtual 155, 3) := by decide +kernel
theorem dX11_flow_21 : decode cX11_flow 21 = .ok (.ifCond .ne 6, 3) := by decide +kernel
theorem dX11_flow_24 : decode cX11_flow 24 = .ok (.ldc 88, 2) := by decide +kernel
theorem dX11_flow_26 : decode cX11_flow 26 = .ok (.ireturn, 1) := by decide +kernel
theorem dX11_flow_27 : decode cX11_flow 27 = .ok (.aload_n 0, 1) := by decide +kernel
theorem dX11_flow_28 : decode cX11_flow 28 = .ok (.getfield 21, 3) := by decide +kernel
theorem dX11_flow_31 : decode cX11_flow 31 = .ok (.iload_n 1, 1) := by decide +kernel
theorem dX11_flow_32 : decode cX11_flow 32 = .ok (.invokevirtual 183, 3) := by decide +kernel
theorem dX11_flow_35 : decode cX11_flow 35 = .ok (.aload_n 0, 1) := by decide +kernel
theorem dX11_flow_36 : decode cX11_flow 36 = .ok (.getfield 21, 3) := by decide +kernel
theorem dX11_flow_39 : decode cX11_flow 39 = .ok (.getfield 171, 3) := by decide +kernel
theorem dX11_flow_42 : decode cX11_flow 42 = .ok (.invokestatic 187, 3) := by decide +kernel
theorem dX11_flow_45 : decode cX11_flow 45 = .ok (.ireturn, 1) := by decide +kernel
theorem dX11_gives_0 : decode cX11_gives 0 = .ok (.aload_n 0, 1) := by decide +kernel
theorem dX11_gives_1 : decode cX11_gives 1 = .ok (.getfield 10, 3) := by decide +kernel
theorem dX11_gives_4 : decode cX11_gives 4 = .ok (.getfield 101, 3) := by decide +kernel
theorem dX11_gives_7 : decode cX11_gives 7 = .ok (.iload_n 1, 1) := by decide +kernel
theorem dX11_gives_8 : decode cX11_gives 8 = .ok (.invokevirtual 148, 3) := by decide +kernel
theorem dX11_gives_11 : decode cX11_gives 11 = .ok (.ifCond .ne 6, 3) := by decide +kernel
theorem dX11_gives_14 : decode cX11_gives 14 = .ok (.ldc 87, 2) := by decide +kernel
theorem dX11_gives_16 : decode cX11_gives 16 = .ok (.ireturn, 1) := by decide +kernel
theorem dX11_gives_17 : decode cX11_gives 17 = .ok (.aload_n 0, 1) := by decide +kernel
theorem dX11_gives_18 : decode cX11_gives 18 = .ok (.invokevirtual 155, 3) := by decide +kernel
theorem dX11_gives_21 : decode cX11_gives 21 = .ok (.ifCond .ne 6, 3) := by decide +kernel
theorem dX11_gives_24 : decode cX11_gives 24 = .ok (.ldc 88, 2) := by decide +kernel
theorem dX11_gives_26 : decode cX11_gives 26 = .ok (.ireturn, 1) := by decide +kernel
theorem dX11_gives_27 : decode cX11_gives 27 = .ok (.aload_n 0, 1) := by decide +kernel
theorem dX11_gives_28 : decode cX11_gives 28 = .ok (.getfield 21, 3) := by decide +kernel
theorem dX11_gives_31 : decode cX11_gives 31 = .ok (.iload_n 1, 1) := by decide +kernel
theorem dX11_gives_32 : decode cX11_gives 32 = .ok (.invokevirtual 191, 3) := by decide +kernel
theorem dX11_gives_35 : decode cX11_gives 35 = .ok (.aload_n 0, 1) := by decide +kernel
theorem dX11_gives_36 : decode cX11_gives 36 = .ok (.getfield 21, 3) := by decide +kernel
theorem dX11_gives_39 : decode cX11_gives 39 = .ok (.getfield 171, 3) := by decide +kernel
theorem dX11_gives_42 : decode cX11_gives 42 = .ok (.invokestatic 187, 3) := by decide +kernel
theorem dX11_gives_45 : decode cX11_gives 45 = .ok (.ireturn, 1) := by decide +kernel
theorem dX11_takes_0 : decode cX11_takes 0 = .ok (.aload_n 0, 1) := by decide +kernel
theorem dX11_takes_1 : decode cX11_takes 1 = .ok (.getfield 10, 3) := by decide +kernel
theorem dX11_takes_4 : decode cX11_takes 4 = .ok (.getfield 111, 3) := by decide +kernel
theorem dX11_takes_7 : decode cX11_takes 7 = .ok (.iload_n 1, 1) := by decide +kernel
theorem dX11_takes_8 : decode cX11_takes 8 = .ok (.invokevirtual 194, 3) := by decide +kernel
theorem dX11_takes_11 : decode cX11_takes 11 = .ok (.ifCond .ne 6, 3) := by decide +kernel
theorem dX11_takes_14 : decode cX11_takes 14 = .ok (.ldc 87, 2) := by decide +kernel
theorem dX11_takes_16 : decode cX11_takes 16 = .ok (.ireturn, 1) := by decide +kernel
theorem dX11_takes_17 : decode cX11_takes 17 = .ok (.aload_n 0, 1) := by decide +kernel
theorem dX11_takes_18 : decode cX11_takes 18 = .ok (.invokevirtual 155, 3) := by decide +kernel
theorem dX11_takes_21 : decode cX11_takes 21 = .ok (.ifCond .ne 6, 3) := by decide +kernel
theorem dX11_takes_24 : decode cX11_takes 24 = .ok (.ldc 88, 2) := by decide +kernel
theorem dX11_takes_26 : decode cX11_takes 26 = .ok (.ireturn, 1) := by decide +kernel
theorem dX11_takes_27 : decode cX11_takes 27 = .ok (.aload_n 0, 1) := by decide +kernel
theorem dX11_takes_28 : decode cX11_takes 28 = .ok (.getfield 21, 3) := by decide +kernel
theorem dX11_takes_31 : decode cX11_takes 31 = .ok (.iload_n 1, 1) := by decide +kernel
theorem dX11_takes_32 : decode cX11_takes 32 = .ok (.invokevirtual 195, 3) := by decide +kernel
theorem dX11_takes_35 : decode cX11_takes 35 = .ok (.aload_n 0, 1) := by decide +kernel
theorem dX11_takes_36 : decode cX11_takes 36 = .ok (.getfield 21, 3) := by decide +kernel
theorem dX11_takes_39 : decode cX11_takes 39 = .ok (.getfield 171, 3) := by decide +kernel
theorem dX11_takes_42 : decode cX11_takes 42 = .ok (.invokestatic 187, 3) := by decide +kernel
theorem dX11_takes_45 : decode cX11_takes 45 = .ok (.ireturn, 1) := by decide +kernel
theorem dX11_dry_0 : decode cX11_dry 0 = .ok (.aload_n 0, 1) := by decide +kernel
theorem dX11_dry_1 : decode cX11_dry 1 = .ok (.getfield 10, 3) := by decide +kernel
theorem dX11_dry_4 : decode cX11_dry 4 = .ok (.iload_n 1, 1) := by decide +kernel
theorem dX11_dry_5 : decode cX11_dry 5 = .ok (.invokevirtual 83, 3) := by decide +kernel
theorem dX11_dry_8 : decode cX11_dry 8 = .ok (.ifCond .ne 6, 3) := by decide +kernel
theorem dX11_dry_11 : decode cX11_dry 11 = .ok (.ldc 87, 2) := by decide +kernel
theorem dX11_dry_13 : decode cX11_dry 13 = .ok (.ireturn, 1) := by decide +kernel
theorem dX11_dry_14 : decode cX11_dry 14 = .ok (.aload_n 0, 1) := by decide +kernel
theorem dX11_dry_15 : decode cX11_dry 15 = .ok (.invokevirtual 155, 3) := by decide +kernel
theorem dX11_dry_18 : decode cX11_dry 18 = .ok (.ifCond .ne 6, 3) := by decide +kernel
theorem dX11_dry_21 : decode cX11_dry 21 = .ok (.ldc 88, 2) := by decide +kernel
theorem dX11_dry_23 : decode cX11_dry 23 = .ok (.ireturn, 1) := by decide +kernel
theorem dX11_dry_24 : decode cX11_dry 24 = .ok (.aload_n 0, 1) := by decide +kernel
theorem dX11_dry_25 : decode cX11_dry 25 = .ok (.getfield 21, 3) := by decide +kernel
theorem dX11_dry_28 : decode cX11_dry 28 = .ok (.iload_n 1, 1) := by decide +kernel
theorem dX11_dry_29 : decode cX11_dry 29 = .ok (.invokevirtual 198, 3) := by decide +kernel
theorem dX11_dry_32 : decode cX11_dry 32 = .ok (.ifCond .eq 7, 3) := by decide +kernel
theorem dX11_dry_35 : decode cX11_dry 35 = .ok (.iconst 1, 1) := by decide +kernel
theorem dX11_dry_36 : decode cX11_dry 36 = .ok (.goto 4, 3) := by decide +kernel
theorem dX11_dry_39 : decode cX11_dry 39 = .ok (.iconst 0, 1) := by decide +kernel
theorem dX11_dry_40 : decode cX11_dry 40 = .ok (.ireturn, 1) := by decide +kernel
theorem dX11_salt_0 : decode cX11_salt 0 = .ok (.aload_n 0, 1) := by decide +kernel
theorem dX11_salt_1 : decode cX11_salt 1 = .ok (.getfield 10, 3) := by decide +kernel
theorem dX11_salt_4 : decode cX11_salt 4 = .ok (.iload_n 1, 1) := by decide +kernel
theorem dX11_salt_5 : decode cX11_salt 5 = .ok (.invokevirtual 83, 3) := by decide +kernel
theorem dX11_salt_8 : decode cX11_salt 8 = .ok (.ifCond .ne 6, 3) := by decide +kernel
theorem dX11_salt_11 : decode cX11_salt 11 = .ok (.ldc 87, 2) := by decide +kernel
theorem dX11_salt_13 : decode cX11_salt 13 = .ok (.ireturn, 1) := by decide +kernel
theorem dX11_salt_14 : decode cX11_salt 14 = .ok (.aload_n 0, 1) := by decide +kernel
theorem dX11_salt_15 : decode cX11_salt 15 = .ok (.invokevirtual 155, 3) := by decide +kernel
theorem dX11_salt_18 : decode cX11_salt 18 = .ok (.ifCond .ne 6, 3) := by decide +kernel
theorem dX11_salt_21 : decode cX11_salt 21 = .ok (.ldc 88, 2) := by decide +kernel
theorem dX11_salt_23 : decode cX11_salt 23 = .ok (.ireturn, 1) := by decide +kernel
theorem dX11_salt_24 : decode cX11_salt 24 = .ok (.ldc2_w 201, 3) := by decide +kernel
theorem dX11_salt_27 : decode cX11_salt 27 = .ok (.aload_n 0, 1) := by decide +kernel
theorem dX11_salt_28 : decode cX11_salt 28 = .ok (.getfield 21, 3) := by decide +kernel
theorem dX11_salt_31 : decode cX11_salt 31 = .ok (.getfield 167, 3) := by decide +kernel
theorem dX11_salt_34 : decode cX11_salt 34 = .ok (.iload_n 1, 1) := by decide +kernel
theorem dX11_salt_35 : decode cX11_salt 35 = .ok (.laload, 1) := by decide +kernel
theorem dX11_salt_36 : decode cX11_salt 36 = .ok (.lmul, 1) := by decide +kernel
theorem dX11_salt_37 : decode cX11_salt 37 = .ok (.aload_n 0, 1) := by decide +kernel
theorem dX11_salt_38 : decode cX11_salt 38 = .ok (.getfield 21, 3) := by decide +kernel
theorem dX11_salt_41 : decode cX11_salt 41 = .ok (.getfield 171, 3) := by decide +kernel
theorem dX11_salt_44 : decode cX11_salt 44 = .ok (.invokestatic 187, 3) := by decide +kernel
theorem dX11_salt_47 : decode cX11_salt 47 = .ok (.ireturn, 1) := by decide +kernel
theorem dX11_through_0 : decode cX11_through 0 = .ok (.aload_n 0, 1) := by decide +kernel
theorem dX11_through_1 : decode cX11_through 1 = .ok (.invokevirtual 155, 3) := by decide +kernel
theorem dX11_through_4 : decode cX11_through 4 = .ok (.ifCond .ne 7, 3) := by decide +kernel
theorem dX11_through_7 : decode cX11_through 7 = .ok (.ldc2_w 165, 3) := by decide +kernel
theorem dX11_through_10 : decode cX11_through 10 = .ok (.lreturn, 1) := by decide +kernel
theorem dX11_through_11 : decode cX11_through 11 = .ok (.aload_n 0, 1) := by decide +kernel
theorem dX11_through_12 : decode cX11_through 12 = .ok (.getfield 21, 3) := by decide +kernel
theorem dX11_through_15 : decode cX11_through 15 = .ok (.invokevirtual 203, 3) := by decide +kernel
theorem dX11_through_18 : decode cX11_through 18 = .ok (.aload_n 0, 1) := by decide +kernel
theorem dX11_through_19 : decode cX11_through 19 = .ok (.getfield 21, 3) := by decide +kernel
theorem dX11_through_22 : decode cX11_through 22 = .ok (.getfield 171, 3) := by decide +kernel
theorem dX11_through_25 : decode cX11_through 25 = .ok (.iload_n 1, 1) := by decide +kernel
theorem dX11_through_26 : decode cX11_through 26 = .ok (.invokestatic 175, 3) := by decide +kernel
theorem dX11_through_29 : decode cX11_through 29 = .ok (.lreturn, 1) := by decide +kernel
theorem dX11_way_0 : decode cX11_way 0 = .ok (.aload_n 0, 1) := by decide +kernel
theorem dX11_way_1 : decode cX11_way 1 = .ok (.getfield 10, 3) := by decide +kernel
theorem dX11_way_4 : decode cX11_way 4 = .ok (.iload_n 1, 1) := by decide +kernel
theorem dX11_way_5 : decode cX11_way 5 = .ok (.invokevirtual 83, 3) := by decide +kernel
theorem dX11_way_8 : decode cX11_way 8 = .ok (.ifCond .ne 6, 3) := by decide +kernel
theorem dX11_way_11 : decode cX11_way 11 = .ok (.ldc 87, 2) := by decide +kernel
theorem dX11_way_13 : decode cX11_way 13 = .ok (.ireturn, 1) := by decide +kernel
theorem dX11_way_14 : decode cX11_way 14 = .ok (.aload_n 0, 1) := by decide +kernel
theorem dX11_way_15 : decode cX11_way 15 = .ok (.invokevirtual 155, 3) := by decide +kernel
theorem dX11_way_18 : decode cX11_way 18 = .ok (.ifCond .ne 6, 3) := by decide +kernel
theorem dX11_way_21 : decode cX11_way 21 = .ok (.ldc 88, 2) := by decide +kernel
theorem dX11_way_23 : decode cX11_way 23 = .ok (.ireturn, 1) := by decide +kernel
theorem dX11_way_24 : decode cX11_way 24 = .ok (.aload_n 0, 1) := by decide +kernel
theorem dX11_way_25 : decode cX11_way 25 = .ok (.getfield 30, 3) := by decide +kernel
theorem dX11_way_28 : decode cX11_way 28 = .ok (.iload_n 1, 1) := by decide +kernel
theorem dX11_way_29 : decode cX11_way 29 = .ok (.iload_n 2, 1) := by decide +kernel
theorem dX11_way_30 : decode cX11_way 30 = .ok (.invokevirtual 207, 3) := by decide +kernel
theorem dX11_way_33 : decode cX11_way 33 = .ok (.ireturn, 1) := by decide +kernel
theorem dX11_end_0 : decode cX11_end 0 = .ok (.aload_n 0, 1) := by decide +kernel
theorem dX11_end_1 : decode cX11_end 1 = .ok (.getfield 10, 3) := by decide +kernel
theorem dX11_end_4 : decode cX11_end 4 = .ok (.iload_n 1, 1) := by decide +kernel
theorem dX11_end_5 : decode cX11_end 5 = .ok (.invokevirtual 83, 3) := by decide +kernel
theorem dX11_end_8 : decode cX11_end 8 = .ok (.ifCond .ne 6, 3) := by decide +kernel
theorem dX11_end_11 : decode cX11_end 11 = .ok (.ldc 87, 2) := by decide +kernel
theorem dX11_end_13 : decode cX11_end 13 = .ok (.ireturn, 1) := by decide +kernel
theorem dX11_end_14 : decode cX11_end 14 = .ok (.aload_n 0, 1) := by decide +kernel
theorem dX11_end_15 : decode cX11_end 15 = .ok (.invokevirtual 155, 3) := by decide +kernel
theorem dX11_end_18 : decode cX11_end 18 = .ok (.ifCond .ne 6, 3) := by decide +kernel
theorem dX11_end_21 : decode cX11_end 21 = .ok (.ldc 88, 2) := by decide +kernel
theorem dX11_end_23 : decode cX11_end 23 = .ok (.ireturn, 1) := by decide +kernel
theorem dX11_end_24 : decode cX11_end 24 = .ok (.aload_n 0, 1) := by decide +kernel
theorem dX11_end_25 : decode cX11_end 25 = .ok (.getfield 30, 3) := by decide +kernel
theorem dX11_end_28 : decode cX11_end 28 = .ok (.iload_n 1, 1) := by decide +kernel
theorem dX11_end_29 : decode cX11_end 29 = .ok (.invokevirtual 211, 3) := by decide +kernel
theorem dX11_end_32 : decode cX11_end 32 = .ok (.ireturn, 1) := by decide +kernel
theorem dX11_time_0 : decode cX11_time 0 = .ok (.aload_n 0, 1) := by decide +kernel
theorem dX11_time_1 : decode cX11_time 1 = .ok (.getfield 10, 3) := by decide +kernel
theorem dX11_time_4 : decode cX11_time 4 = .ok (.iload_n 1, 1) := by decide +kernel
theorem dX11_time_5 : decode cX11_time 5 = .ok (.invokevirtual 83, 3) := by decide +kernel
theorem dX11_time_8 : decode cX11_time 8 = .ok (.ifCond .ne 7, 3) := by decide +kernel
theorem dX11_time_11 : decode cX11_time 11 = .ok (.ldc2_w 163, 3) := by decide +kernel
theorem dX11_time_14 : decode cX11_time 14 = .ok (.lreturn, 1) := by decide +kernel
theorem dX11_time_15 : decode cX11_time 15 = .ok (.aload_n 0, 1) := by decide +kernel
theorem dX11_time_16 : decode cX11_time 16 = .ok (.invokevirtual 155, 3) := by decide +kernel
theorem dX11_time_19 : decode cX11_time 19 = .ok (.ifCond .ne 7, 3) := by decide +kernel
theorem dX11_time_22 : decode cX11_time 22 = .ok (.ldc2_w 165, 3) := by decide +kernel
theorem dX11_time_25 : decode cX11_time 25 = .ok (.lreturn, 1) := by decide +kernel
theorem dX11_time_26 : decode cX11_time 26 = .ok (.aload_n 0, 1) := by decide +kernel
theorem dX11_time_27 : decode cX11_time 27 = .ok (.getfield 30, 3) := by decide +kernel
theorem dX11_time_30 : decode cX11_time 30 = .ok (.iload_n 1, 1) := by decide +kernel
theorem dX11_time_31 : decode cX11_time 31 = .ok (.invokevirtual 214, 3) := by decide +kernel
theorem dX11_time_34 : decode cX11_time 34 = .ok (.aload_n 0, 1) := by decide +kernel
theorem dX11_time_35 : decode cX11_time 35 = .ok (.getfield 30, 3) := by decide +kernel
theorem dX11_time_38 : decode cX11_time 38 = .ok (.getfield 218, 3) := by decide +kernel
theorem dX11_time_41 : decode cX11_time 41 = .ok (.ifCond .ne 7, 3) := by decide +kernel
theorem dX11_time_44 : decode cX11_time 44 = .ok (.ldc2_w 221, 3) := by decide +kernel
theorem dX11_time_47 : decode cX11_time 47 = .ok (.lreturn, 1) := by decide +kernel
theorem dX11_time_48 : decode cX11_time 48 = .ok (.aload_n 0, 1) := by decide +kernel
theorem dX11_time_49 : decode cX11_time 49 = .ok (.getfield 30, 3) := by decide +kernel
theorem dX11_time_52 : decode cX11_time 52 = .ok (.iload_n 1, 1) := by decide +kernel
theorem dX11_time_53 : decode cX11_time 53 = .ok (.invokevirtual 223, 3) := by decide +kernel
theorem dX11_time_56 : decode cX11_time 56 = .ok (.aload_n 0, 1) := by decide +kernel
theorem dX11_time_57 : decode cX11_time 57 = .ok (.getfield 30, 3) := by decide +kernel
theorem dX11_time_60 : decode cX11_time 60 = .ok (.invokevirtual 226, 3) := by decide +kernel
theorem dX11_time_63 : decode cX11_time 63 = .ok (.iload_n 2, 1) := by decide +kernel
theorem dX11_time_64 : decode cX11_time 64 = .ok (.invokestatic 175, 3) := by decide +kernel
theorem dX11_time_67 : decode cX11_time 67 = .ok (.lreturn, 1) := by decide +kernel
theorem dX11_wayTime_0 : decode cX11_wayTime 0 = .ok (.aload_n 0, 1) := by decide +kernel
theorem dX11_wayTime_1 : decode cX11_wayTime 1 = .ok (.getfield 10, 3) := by decide +kernel
theorem dX11_wayTime_4 : decode cX11_wayTime 4 = .ok (.iload_n 1, 1) := by decide +kernel
theorem dX11_wayTime_5 : decode cX11_wayTime 5 = .ok (.invokevirtual 83, 3) := by decide +kernel
theorem dX11_wayTime_8 : decode cX11_wayTime 8 = .ok (.ifCond .ne 7, 3) := by decide +kernel
theorem dX11_wayTime_11 : decode cX11_wayTime 11 = .ok (.ldc2_w 163, 3) := by decide +kernel
theorem dX11_wayTime_14 : decode cX11_wayTime 14 = .ok (.lreturn, 1) := by decide +kernel
theorem dX11_wayTime_15 : decode cX11_wayTime 15 = .ok (.aload_n 0, 1) := by decide +kernel
theorem dX11_wayTime_16 : decode cX11_wayTime 16 = .ok (.invokevirtual 155, 3) := by decide +kernel
theorem dX11_wayTime_19 : decode cX11_wayTime 19 = .ok (.ifCond .ne 7, 3) := by decide +kernel
theorem dX11_wayTime_22 : decode cX11_wayTime 22 = .ok (.ldc2_w 165, 3) := by decide +kernel
theorem dX11_wayTime_25 : decode cX11_wayTime 25 = .ok (.lreturn, 1) := by decide +kernel
theorem dX11_wayTime_26 : decode cX11_wayTime 26 = .ok (.aload_n 0, 1) := by decide +kernel
theorem dX11_wayTime_27 : decode cX11_wayTime 27 = .ok (.getfield 30, 3) := by decide +kernel
theorem dX11_wayTime_30 : decode cX11_wayTime 30 = .ok (.iload_n 1, 1) := by decide +kernel
theorem dX11_wayTime_31 : decode cX11_wayTime 31 = .ok (.invokevirtual 229, 3) := by decide +kernel
theorem dX11_wayTime_34 : decode cX11_wayTime 34 = .ok (.lreturn, 1) := by decide +kernel
theorem dX11_zone_0 : decode cX11_zone 0 = .ok (.aload_n 0, 1) := by decide +kernel
theorem dX11_zone_1 : decode cX11_zone 1 = .ok (.getfield 10, 3) := by decide +kernel
theorem dX11_zone_4 : decode cX11_zone 4 = .ok (.getfield 119, 3) := by decide +kernel
theorem dX11_zone_7 : decode cX11_zone 7 = .ok (.iload_n 1, 1) := by decide +kernel
theorem dX11_zone_8 : decode cX11_zone 8 = .ok (.invokevirtual 141, 3) := by decide +kernel
theorem dX11_zone_11 : decode cX11_zone 11 = .ok (.ifCond .ne 6, 3) := by decide +kernel
theorem dX11_zone_14 : decode cX11_zone 14 = .ok (.ldc 87, 2) := by decide +kernel
theorem dX11_zone_16 : decode cX11_zone 16 = .ok (.ireturn, 1) := by decide +kernel
theorem dX11_zone_17 : decode cX11_zone 17 = .ok (.aload_n 0, 1) := by decide +kernel
theorem dX11_zone_18 : decode cX11_zone 18 = .ok (.invokevirtual 155, 3) := by decide +kernel
theorem dX11_zone_21 : decode cX11_zone 21 = .ok (.ifCond .ne 6, 3) := by decide +kernel
theorem dX11_zone_24 : decode cX11_zone 24 = .ok (.ldc 88, 2) := by decide +kernel
theorem dX11_zone_26 : decode cX11_zone 26 = .ok (.ireturn, 1) := by decide +kernel
theorem dX11_zone_27 : decode cX11_zone 27 = .ok (.aload_n 0, 1) := by decide +kernel
theorem dX11_zone_28 : decode cX11_zone 28 = .ok (.getfield 30, 3) := by decide +kernel
theorem dX11_zone_31 : decode cX11_zone 31 = .ok (.iload_n 1, 1) := by decide +kernel
theorem dX11_zone_32 : decode cX11_zone 32 = .ok (.invokevirtual 232, 3) := by decide +kernel
theorem dX11_zone_35 : decode cX11_zone 35 = .ok (.ireturn, 1) := by decide +kernel
theorem dX11_spill_0 : decode cX11_spill 0 = .ok (.aload_n 0, 1) := by decide +kernel
theorem dX11_spill_1 : decode cX11_spill 1 = .ok (.getfield 10, 3) := by decide +kernel
theorem dX11_spill_4 : decode cX11_spill 4 = .ok (.iload_n 1, 1) := by decide +kernel
theorem dX11_spill_5 : decode cX11_spill 5 = .ok (.invokevirtual 83, 3) := by decide +kernel
theorem dX11_spill_8 : decode cX11_spill 8 = .ok (.ifCond .eq 14, 3) := by decide +kernel
theorem dX11_spill_11 : decode cX11_spill 11 = .ok (.aload_n 0, 1) := by decide +kernel
theorem dX11_spill_12 : decode cX11_spill 12 = .ok (.getfield 10, 3) := by decide +kernel
theorem dX11_spill_15 : decode cX11_spill 15 = .ok (.iload_n 2, 1) := by decide +kernel
theorem dX11_spill_16 : decode cX11_spill 16 = .ok (.invokevirtual 235, 3) := by decide +kernel
theorem dX11_spill_19 : decode cX11_spill 19 = .ok (.ifCond .ne 6, 3) := by decide +kernel
theorem dX11_spill_22 : decode cX11_spill 22 = .ok (.ldc 87, 2) := by decide +kernel
theorem dX11_spill_24 : decode cX11_spill 24 = .ok (.ireturn, 1) := by decide +kernel
theorem dX11_spill_25 : decode cX11_spill 25 = .ok (.aload_n 0, 1) := by decide +kernel
theorem dX11_spill_26 : decode cX11_spill 26 = .ok (.invokevirtual 155, 3) := by decide +kernel
theorem dX11_spill_29 : decode cX11_spill 29 = .ok (.ifCond .ne 6, 3) := by decide +kernel
theorem dX11_spill_32 : decode cX11_spill 32 = .ok (.ldc 88, 2) := by decide +kernel
theorem dX11_spill_34 : decode cX11_spill 34 = .ok (.ireturn, 1) := by decide +kernel
theorem dX11_spill_35 : decode cX11_spill 35 = .ok (.aload_n 0, 1) := by decide +kernel
theorem dX11_spill_36 : decode cX11_spill 36 = .ok (.getfield 30, 3) := by decide +kernel
theorem dX11_spill_39 : decode cX11_spill 39 = .ok (.iload_n 1, 1) := by decide +kernel
theorem dX11_spill_40 : decode cX11_spill 40 = .ok (.iload_n 2, 1) := by decide +kernel
theorem dX11_spill_41 : decode cX11_spill 41 = .ok (.invokevirtual 238, 3) := by decide +kernel
theorem dX11_spill_44 : decode cX11_spill 44 = .ok (.ireturn, 1) := by decide +kernel
theorem dX11_pour_0 : decode cX11_pour 0 = .ok (.aload_n 0, 1) := by decide +kernel
theorem dX11_pour_1 : decode cX11_pour 1 = .ok (.getfield 10, 3) := by decide +kernel
theorem dX11_pour_4 : decode cX11_pour 4 = .ok (.iload_n 1, 1) := by decide +kernel
theorem dX11_pour_5 : decode cX11_pour 5 = .ok (.invokevirtual 83, 3) := by decide +kernel
theorem dX11_pour_8 : decode cX11_pour 8 = .ok (.ifCond .ne 6, 3) := by decide +kernel
theorem dX11_pour_11 : decode cX11_pour 11 = .ok (.ldc 87, 2) := by decide +kernel
theorem dX11_pour_13 : decode cX11_pour 13 = .ok (.ireturn, 1) := by decide +kernel
theorem dX11_pour_14 : decode cX11_pour 14 = .ok (.iload_n 2, 1) := by decide +kernel
theorem dX11_pour_15 : decode cX11_pour 15 = .ok (.iconst 0, 1) := by decide +kernel
theorem dX11_pour_16 : decode cX11_pour 16 = .ok (.ldc 241, 2) := by decide +kernel
theorem dX11_pour_18 : decode cX11_pour 18 = .ok (.invokestatic 66, 3) := by decide +kernel
theorem dX11_pour_21 : decode cX11_pour 21 = .ok (.ifCond .eq 6, 3) := by decide +kernel
theorem dX11_pour_24 : decode cX11_pour 24 = .ok (.ldc 70, 2) := by decide +kernel
theorem dX11_pour_26 : decode cX11_pour 26 = .ok (.ireturn, 1) := by decide +kernel
theorem dX11_pour_27 : decode cX11_pour 27 = .ok (.aload_n 0, 1) := by decide +kernel
theorem dX11_pour_28 : decode cX11_pour 28 = .ok (.getfield 39, 3) := by decide +kernel
theorem dX11_pour_31 : decode cX11_pour 31 = .ok (.invokevirtual 242, 3) := by decide +kernel
theorem dX11_pour_34 : decode cX11_pour 34 = .ok (.aload_n 0, 1) := by decide +kernel
theorem dX11_pour_35 : decode cX11_pour 35 = .ok (.getfield 39, 3) := by decide +kernel
theorem dX11_pour_38 : decode cX11_pour 38 = .ok (.getfield 245, 3) := by decide +kernel
theorem dX11_pour_41 : decode cX11_pour 41 = .ok (.iload_n 1, 1) := by decide +kernel
theorem dX11_pour_42 : decode cX11_pour 42 = .ok (.iload_n 2, 1) := by decide +kernel
theorem dX11_pour_43 : decode cX11_pour 43 = .ok (.invokestatic 131, 3) := by decide +kernel
theorem dX11_pour_46 : decode cX11_pour 46 = .ok (.ireturn, 1) := by decide +kernel
theorem dX11_cups_0 : decode cX11_cups 0 = .ok (.aload_n 0, 1) := by decide +kernel
theorem dX11_cups_1 : decode cX11_cups 1 = .ok (.getfield 10, 3) := by decide +kernel
theorem dX11_cups_4 : decode cX11_cups 4 = .ok (.iload_n 1, 1) := by decide +kernel
theorem dX11_cups_5 : decode cX11_cups 5 = .ok (.invokevirtual 83, 3) := by decide +kernel
theorem dX11_cups_8 : decode cX11_cups 8 = .ok (.ifCond .ne 6, 3) := by decide +kernel
theorem dX11_cups_11 : decode cX11_cups 11 = .ok (.ldc 87, 2) := by decide +kernel
theorem dX11_cups_13 : decode cX11_cups 13 = .ok (.ireturn, 1) := by decide +kernel
theorem dX11_cups_14 : decode cX11_cups 14 = .ok (.aload_n 0, 1) := by decide +kernel
theorem dX11_cups_15 : decode cX11_cups 15 = .ok (.getfield 39, 3) := by decide +kernel
theorem dX11_cups_18 : decode cX11_cups 18 = .ok (.getfield 245, 3) := by decide +kernel
theorem dX11_cups_21 : decode cX11_cups 21 = .ok (.iload_n 1, 1) := by decide +kernel
theorem dX11_cups_22 : decode cX11_cups 22 = .ok (.iaload, 1) := by decide +kernel
theorem dX11_cups_23 : decode cX11_cups 23 = .ok (.ireturn, 1) := by decide +kernel
theorem dX11_mark_0 : decode cX11_mark 0 = .ok (.aload_n 0, 1) := by decide +kernel
theorem dX11_mark_1 : decode cX11_mark 1 = .ok (.getfield 10, 3) := by decide +kernel
theorem dX11_mark_4 : decode cX11_mark 4 = .ok (.iload_n 1, 1) := by decide +kernel
theorem dX11_mark_5 : decode cX11_mark 5 = .ok (.invokevirtual 83, 3) := by decide +kernel
theorem dX11_mark_8 : decode cX11_mark 8 = .ok (.ifCond .ne 6, 3) := by decide +kernel
theorem dX11_mark_11 : decode cX11_mark 11 = .ok (.ldc 87, 2) := by decide +kernel
theorem dX11_mark_13 : decode cX11_mark 13 = .ok (.ireturn, 1) := by decide +kernel
theorem dX11_mark_14 : decode cX11_mark 14 = .ok (.aload_n 0, 1) := by decide +kernel
theorem dX11_mark_15 : decode cX11_mark 15 = .ok (.getfield 39, 3) := by decide +kernel
theorem dX11_mark_18 : decode cX11_mark 18 = .ok (.iload_n 1, 1) := by decide +kernel
theorem dX11_mark_19 : decode cX11_mark 19 = .ok (.invokevirtual 248, 3) := by decide +kernel
theorem dX11_mark_22 : decode cX11_mark 22 = .ok (.ireturn, 1) := by decide +kernel
theorem dX11_tick_0 : decode cX11_tick 0 = .ok (.iload_n 1, 1) := by decide +kernel
theorem dX11_tick_1 : decode cX11_tick 1 = .ok (.iconst 1, 1) := by decide +kernel
theorem dX11_tick_2 : decode cX11_tick 2 = .ok (.bipush 100, 2) := by decide +kernel
theorem dX11_tick_4 : decode cX11_tick 4 = .ok (.invokestatic 66, 3) := by decide +kernel
theorem dX11_tick_7 : decode cX11_tick 7 = .ok (.ifCond .eq 6, 3) := by decide +kernel
theorem dX11_tick_10 : decode cX11_tick 10 = .ok (.ldc 70, 2) := by decide +kernel
theorem dX11_tick_12 : decode cX11_tick 12 = .ok (.ireturn, 1) := by decide +kernel
theorem dX11_tick_13 : decode cX11_tick 13 = .ok (.iconst 0, 1) := by decide +kernel
theorem dX11_tick_14 : decode cX11_tick 14 = .ok (.istore_n 2, 1) := by decide +kernel
theorem dX11_tick_15 : decode cX11_tick 15 = .ok (.iload_n 2, 1) := by decide +kernel
theorem dX11_tick_16 : decode cX11_tick 16 = .ok (.iload_n 1, 1) := by decide +kernel
theorem dX11_tick_17 : decode cX11_tick 17 = .ok (.if_icmp .ge 16, 3) := by decide +kernel
theorem dX11_tick_20 : decode cX11_tick 20 = .ok (.aload_n 0, 1) := by decide +kernel
theorem dX11_tick_21 : decode cX11_tick 21 = .ok (.getfield 39, 3) := by decide +kernel
theorem dX11_tick_24 : decode cX11_tick 24 = .ok (.invokevirtual 251, 3) := by decide +kernel
theorem dX11_tick_27 : decode cX11_tick 27 = .ok (.iinc 2 1, 3) := by decide +kernel
theorem dX11_tick_30 : decode cX11_tick 30 = .ok (.goto (-15), 3) := by decide +kernel
theorem dX11_tick_33 : decode cX11_tick 33 = .ok (.aload_n 0, 1) := by decide +kernel
theorem dX11_tick_34 : decode cX11_tick 34 = .ok (.getfield 39, 3) := by decide +kernel
theorem dX11_tick_37 : decode cX11_tick 37 = .ok (.invokevirtual 254, 3) := by decide +kernel
theorem dX11_tick_40 : decode cX11_tick 40 = .ok (.ireturn, 1) := by decide +kernel
theorem dX11_book_0 : decode cX11_book 0 = .ok (.iload_n 1, 1) := by decide +kernel
theorem dX11_book_1 : decode cX11_book 1 = .ok (.iconst 0, 1) := by decide +kernel
theorem dX11_book_2 : decode cX11_book 2 = .ok (.iconst 5, 1) := by decide +kernel
theorem dX11_book_3 : decode cX11_book 3 = .ok (.invokestatic 66, 3) := by decide +kernel
theorem dX11_book_6 : decode cX11_book 6 = .ok (.ifCond .eq 7, 3) := by decide +kernel
theorem dX11_book_9 : decode cX11_book 9 = .ok (.ldc2_w 258, 3) := by decide +kernel
theorem dX11_book_12 : decode cX11_book 12 = .ok (.lreturn, 1) := by decide +kernel
theorem dX11_book_13 : decode cX11_book 13 = .ok (.aload_n 0, 1) := by decide +kernel
theorem dX11_book_14 : decode cX11_book 14 = .ok (.getfield 39, 3) := by decide +kernel
theorem dX11_book_17 : decode cX11_book 17 = .ok (.getfield 260, 3) := by decide +kernel
theorem dX11_book_20 : decode cX11_book 20 = .ok (.iload_n 1, 1) := by decide +kernel
theorem dX11_book_21 : decode cX11_book 21 = .ok (.laload, 1) := by decide +kernel
theorem dX11_book_22 : decode cX11_book 22 = .ok (.lreturn, 1) := by decide +kernel
theorem dX11_world_0 : decode cX11_world 0 = .ok (.aload_n 0, 1) := by decide +kernel
theorem dX11_world_1 : decode cX11_world 1 = .ok (.getfield 10, 3) := by decide +kernel
theorem dX11_world_4 : decode cX11_world 4 = .ok (.getfield 89, 3) := by decide +kernel
theorem dX11_world_7 : decode cX11_world 7 = .ok (.iload_n 1, 1) := by decide +kernel
theorem dX11_world_8 : decode cX11_world 8 = .ok (.invokevirtual 135, 3) := by decide +kernel
theorem dX11_world_11 : decode cX11_world 11 = .ok (.ifCond .ne 6, 3) := by decide +kernel
theorem dX11_world_14 : decode cX11_world 14 = .ok (.ldc 87, 2) := by decide +kernel
theorem dX11_world_16 : decode cX11_world 16 = .ok (.ireturn, 1) := by decide +kernel
theorem dX11_world_17 : decode cX11_world 17 = .ok (.iload_n 2, 1) := by decide +kernel
theorem dX11_world_18 : decode cX11_world 18 = .ok (.iconst 1, 1) := by decide +kernel
theorem dX11_world_19 : decode cX11_world 19 = .ok (.bipush 9, 2) := by decide +kernel
theorem dX11_world_21 : decode cX11_world 21 = .ok (.invokestatic 66, 3) := by decide +kernel
theorem dX11_world_24 : decode cX11_world 24 = .ok (.ifCond .eq 6, 3) := by decide +kernel
theorem dX11_world_27 : decode cX11_world 27 = .ok (.ldc 70, 2) := by decide +kernel
theorem dX11_world_29 : decode cX11_world 29 = .ok (.ireturn, 1) := by decide +kernel
theorem dX11_world_30 : decode cX11_world 30 = .ok (.aload_n 0, 1) := by decide +kernel
theorem dX11_world_31 : decode cX11_world 31 = .ok (.getfield 46, 3) := by decide +kernel
theorem dX11_world_34 : decode cX11_world 34 = .ok (.getfield 263, 3) := by decide +kernel
theorem dX11_world_37 : decode cX11_world 37 = .ok (.iconst 5, 1) := by decide +kernel
theorem dX11_world_38 : decode cX11_world 38 = .ok (.if_icmp .lt 6, 3) := by decide +kernel
theorem dX11_world_41 : decode cX11_world 41 = .ok (.ldc 75, 2) := by decide +kernel
theorem dX11_world_43 : decode cX11_world 43 = .ok (.ireturn, 1) := by decide +kernel
theorem dX11_world_44 : decode cX11_world 44 = .ok (.aload_n 0, 1) := by decide +kernel
theorem dX11_world_45 : decode cX11_world 45 = .ok (.getfield 46, 3) := by decide +kernel
theorem dX11_world_48 : decode cX11_world 48 = .ok (.iload_n 1, 1) := by decide +kernel
theorem dX11_world_49 : decode cX11_world 49 = .ok (.iload_n 2, 1) := by decide +kernel
theorem dX11_world_50 : decode cX11_world 50 = .ok (.invokevirtual 264, 3) := by decide +kernel
theorem dX11_world_53 : decode cX11_world 53 = .ok (.ireturn, 1) := by decide +kernel
theorem dX11_see_0 : decode cX11_see 0 = .ok (.aload_n 0, 1) := by decide +kernel
theorem dX11_see_1 : decode cX11_see 1 = .ok (.getfield 10, 3) := by decide +kernel
theorem dX11_see_4 : decode cX11_see 4 = .ok (.iload_n 1, 1) := by decide +kernel
theorem dX11_see_5 : decode cX11_see 5 = .ok (.invokevirtual 83, 3) := by decide +kernel
theorem dX11_see_8 : decode cX11_see 8 = .ok (.ifCond .ne 6, 3) := by decide +kernel
theorem dX11_see_11 : decode cX11_see 11 = .ok (.ldc 87, 2) := by decide +kernel
theorem dX11_see_13 : decode cX11_see 13 = .ok (.ireturn, 1) := by decide +kernel
theorem dX11_see_14 : decode cX11_see 14 = .ok (.iload_n 2, 1) := by decide +kernel
theorem dX11_see_15 : decode cX11_see 15 = .ok (.ldc_w 266, 3) := by decide +kernel
theorem dX11_see_18 : decode cX11_see 18 = .ok (.ldc_w 267, 3) := by decide +kernel
theorem dX11_see_21 : decode cX11_see 21 = .ok (.invokestatic 66, 3) := by decide +kernel
theorem dX11_see_24 : decode cX11_see 24 = .ok (.ifCond .ne 10, 3) := by decide +kernel
theorem dX11_see_27 : decode cX11_see 27 = .ok (.iload_n 3, 1) := by decide +kernel
theorem dX11_see_28 : decode cX11_see 28 = .ok (.ldc_w 268, 3) := by decide +kernel
theorem dX11_see_31 : decode cX11_see 31 = .ok (.if_icmp .le 6, 3) := by decide +kernel
theorem dX11_see_34 : decode cX11_see 34 = .ok (.ldc 70, 2) := by decide +kernel
theorem dX11_see_36 : decode cX11_see 36 = .ok (.ireturn, 1) := by decide +kernel
theorem dX11_see_37 : decode cX11_see 37 = .ok (.aload_n 0, 1) := by decide +kernel
theorem dX11_see_38 : decode cX11_see 38 = .ok (.getfield 46, 3) := by decide +kernel
theorem dX11_see_41 : decode cX11_see 41 = .ok (.iload_n 1, 1) := by decide +kernel
theorem dX11_see_42 : decode cX11_see 42 = .ok (.iload_n 2, 1) := by decide +kernel
theorem dX11_see_43 : decode cX11_see 43 = .ok (.iload_n 3, 1) := by decide +kernel
theorem dX11_see_44 : decode cX11_see 44 = .ok (.invokevirtual 269, 3) := by decide +kernel
theorem dX11_see_47 : decode cX11_see 47 = .ok (.ifCond .eq 7, 3) := by decide +kernel
theorem dX11_see_50 : decode cX11_see 50 = .ok (.iconst 1, 1) := by decide +kernel
theorem dX11_see_51 : decode cX11_see 51 = .ok (.goto 4, 3) := by decide +kernel
theorem dX11_see_54 : decode cX11_see 54 = .ok (.iconst 0, 1) := by decide +kernel
theorem dX11_see_55 : decode cX11_see 55 = .ok (.ireturn, 1) := by decide +kernel
theorem dX11_left_0 : decode cX11_left 0 = .ok (.aload_n 0, 1) := by decide +kernel
theorem dX11_left_1 : decode cX11_left 1 = .ok (.getfield 46, 3) := by decide +kernel
theorem dX11_left_4 : decode cX11_left 4 = .ok (.invokevirtual 272, 3) := by decide +kernel
theorem dX11_left_7 : decode cX11_left 7 = .ok (.ireturn, 1) := by decide +kernel
theorem dX11_inWorld_0 : decode cX11_inWorld 0 = .ok (.aload_n 0, 1) := by decide +kernel
theorem dX11_inWorld_1 : decode cX11_inWorld 1 = .ok (.getfield 46, 3) := by decide +kernel
theorem dX11_inWorld_4 : decode cX11_inWorld 4 = .ok (.iload_n 1, 1) := by decide +kernel
theorem dX11_inWorld_5 : decode cX11_inWorld 5 = .ok (.invokevirtual 275, 3) := by decide +kernel
theorem dX11_inWorld_8 : decode cX11_inWorld 8 = .ok (.ifCond .eq 14, 3) := by decide +kernel
theorem dX11_inWorld_11 : decode cX11_inWorld 11 = .ok (.aload_n 0, 1) := by decide +kernel
theorem dX11_inWorld_12 : decode cX11_inWorld 12 = .ok (.getfield 10, 3) := by decide +kernel
theorem dX11_inWorld_15 : decode cX11_inWorld 15 = .ok (.iload_n 2, 1) := by decide +kernel
theorem dX11_inWorld_16 : decode cX11_inWorld 16 = .ok (.invokevirtual 83, 3) := by decide +kernel
theorem dX11_inWorld_19 : decode cX11_inWorld 19 = .ok (.ifCond .ne 6, 3) := by decide +kernel
theorem dX11_inWorld_22 : decode cX11_inWorld 22 = .ok (.ldc 87, 2) := by decide +kernel
theorem dX11_inWorld_24 : decode cX11_inWorld 24 = .ok (.ireturn, 1) := by decide +kernel
theorem dX11_inWorld_25 : decode cX11_inWorld 25 = .ok (.aload_n 0, 1) := by decide +kernel
theorem dX11_inWorld_26 : decode cX11_inWorld 26 = .ok (.getfield 46, 3) := by decide +kernel
theorem dX11_inWorld_29 : decode cX11_inWorld 29 = .ok (.iload_n 1, 1) := by decide +kernel
theorem dX11_inWorld_30 : decode cX11_inWorld 30 = .ok (.invokevirtual 276, 3) := by decide +kernel
theorem dX11_inWorld_33 : decode cX11_inWorld 33 = .ok (.ifCond .ne 6, 3) := by decide +kernel
theorem dX11_inWorld_36 : decode cX11_inWorld 36 = .ok (.ldc 88, 2) := by decide +kernel
theorem dX11_inWorld_38 : decode cX11_inWorld 38 = .ok (.ireturn, 1) := by decide +kernel
theorem dX11_inWorld_39 : decode cX11_inWorld 39 = .ok (.aload_n 0, 1) := by decide +kernel
theorem dX11_inWorld_40 : decode cX11_inWorld 40 = .ok (.getfield 46, 3) := by decide +kernel
theorem dX11_inWorld_43 : decode cX11_inWorld 43 = .ok (.getfield 279, 3) := by decide +kernel
theorem dX11_inWorld_46 : decode cX11_inWorld 46 = .ok (.iload_n 2, 1) := by decide +kernel
theorem dX11_inWorld_47 : decode cX11_inWorld 47 = .ok (.invokevirtual 179, 3) := by decide +kernel
theorem dX11_inWorld_50 : decode cX11_inWorld 50 = .ok (.ireturn, 1) := by decide +kernel
theorem dX11_next_0 : decode cX11_next 0 = .ok (.aload_n 0, 1) := by decide +kernel
theorem dX11_next_1 : decode cX11_next 1 = .ok (.getfield 46, 3) := by decide +kernel
theorem dX11_next_4 : decode cX11_next 4 = .ok (.invokevirtual 280, 3) := by decide +kernel
theorem dX11_next_7 : decode cX11_next 7 = .ok (.ireturn, 1) := by decide +kernel
theorem dX11_alike_0 : decode cX11_alike 0 = .ok (.aload_n 0, 1) := by decide +kernel
theorem dX11_alike_1 : decode cX11_alike 1 = .ok (.getfield 10, 3) := by decide +kernel
theorem dX11_alike_4 : decode cX11_alike 4 = .ok (.iload_n 1, 1) := by decide +kernel
theorem dX11_alike_5 : decode cX11_alike 5 = .ok (.invokevirtual 83, 3) := by decide +kernel
theorem dX11_alike_8 : decode cX11_alike 8 = .ok (.ifCond .ne 6, 3) := by decide +kernel
theorem dX11_alike_11 : decode cX11_alike 11 = .ok (.ldc 87, 2) := by decide +kernel
theorem dX11_alike_13 : decode cX11_alike 13 = .ok (.ireturn, 1) := by decide +kernel
theorem dX11_alike_14 : decode cX11_alike 14 = .ok (.aload_n 0, 1) := by decide +kernel
theorem dX11_alike_15 : decode cX11_alike 15 = .ok (.getfield 46, 3) := by decide +kernel
theorem dX11_alike_18 : decode cX11_alike 18 = .ok (.aload_n 0, 1) := by decide +kernel
theorem dX11_alike_19 : decode cX11_alike 19 = .ok (.getfield 46, 3) := by decide +kernel
theorem dX11_alike_22 : decode cX11_alike 22 = .ok (.invokevirtual 272, 3) := by decide +kernel
theorem dX11_alike_25 : decode cX11_alike 25 = .ok (.iload_n 1, 1) := by decide +kernel
theorem dX11_alike_26 : decode cX11_alike 26 = .ok (.invokevirtual 283, 3) := by decide +kernel
theorem dX11_alike_29 : decode cX11_alike 29 = .ok (.ireturn, 1) := by decide +kernel
theorem dX11_sign_0 : decode cX11_sign 0 = .ok (.iload_n 1, 1) := by decide +kernel
theorem dX11_sign_1 : decode cX11_sign 1 = .ok (.bipush 32, 2) := by decide +kernel
theorem dX11_sign_3 : decode cX11_sign 3 = .ok (.bipush 126, 2) := by decide +kernel
theorem dX11_sign_5 : decode cX11_sign 5 = .ok (.invokestatic 66, 3) := by decide +kernel
theorem dX11_sign_8 : decode cX11_sign 8 = .ok (.ifCond .eq 6, 3) := by decide +kernel
theorem dX11_sign_11 : decode cX11_sign 11 = .ok (.ldc 70, 2) := by decide +kernel
theorem dX11_sign_13 : decode cX11_sign 13 = .ok (.ireturn, 1) := by decide +kernel
theorem dX11_sign_14 : decode cX11_sign 14 = .ok (.aload_n 0, 1) := by decide +kernel
theorem dX11_sign_15 : decode cX11_sign 15 = .ok (.getfield 53, 3) := by decide +kernel
theorem dX11_sign_18 : decode cX11_sign 18 = .ok (.getfield 286, 3) := by decide +kernel
theorem dX11_sign_21 : decode cX11_sign 21 = .ok (.sipush 200, 3) := by decide +kernel
theorem dX11_sign_24 : decode cX11_sign 24 = .ok (.if_icmp .lt 6, 3) := by decide +kernel
theorem dX11_sign_27 : decode cX11_sign 27 = .ok (.ldc 75, 2) := by decide +kernel
theorem dX11_sign_29 : decode cX11_sign 29 = .ok (.ireturn, 1) := by decide +kernel
theorem dX11_sign_30 : decode cX11_sign 30 = .ok (.aload_n 0, 1) := by decide +kernel
theorem dX11_sign_31 : decode cX11_sign 31 = .ok (.getfield 53, 3) := by decide +kernel
theorem dX11_sign_34 : decode cX11_sign 34 = .ok (.iload_n 1, 1) := by decide +kernel
theorem dX11_sign_35 : decode cX11_sign 35 = .ok (.invokevirtual 287, 3) := by decide +kernel
theorem dX11_sign_38 : decode cX11_sign 38 = .ok (.ireturn, 1) := by decide +kernel
theorem dX11_wipe_0 : decode cX11_wipe 0 = .ok (.aload_n 0, 1) := by decide +kernel
theorem dX11_wipe_1 : decode cX11_wipe 1 = .ok (.getfield 53, 3) := by decide +kernel
theorem dX11_wipe_4 : decode cX11_wipe 4 = .ok (.getfield 286, 3) := by decide +kernel
theorem dX11_wipe_7 : decode cX11_wipe 7 = .ok (.istore_n 1, 1) := by decide +kernel
theorem dX11_wipe_8 : decode cX11_wipe 8 = .ok (.aload_n 0, 1) := by decide +kernel
theorem dX11_wipe_9 : decode cX11_wipe 9 = .ok (.getfield 53, 3) := by decide +kernel
theorem dX11_wipe_12 : decode cX11_wipe 12 = .ok (.iconst 0, 1) := by decide +kernel
theorem dX11_wipe_13 : decode cX11_wipe 13 = .ok (.putfield 286, 3) := by decide +kernel
theorem dX11_wipe_16 : decode cX11_wipe 16 = .ok (.iload_n 1, 1) := by decide +kernel
theorem dX11_wipe_17 : decode cX11_wipe 17 = .ok (.ireturn, 1) := by decide +kernel
theorem dX11_fault_0 : decode cX11_fault 0 = .ok (.aload_n 0, 1) := by decide +kernel
theorem dX11_fault_1 : decode cX11_fault 1 = .ok (.getfield 53, 3) := by decide +kernel
theorem dX11_fault_4 : decode cX11_fault 4 = .ok (.invokevirtual 290, 3) := by decide +kernel
theorem dX11_fault_7 : decode cX11_fault 7 = .ok (.ireturn, 1) := by decide +kernel
theorem dX11_holds_0 : decode cX11_holds 0 = .ok (.aload_n 0, 1) := by decide +kernel
theorem dX11_holds_1 : decode cX11_holds 1 = .ok (.getfield 53, 3) := by decide +kernel
theorem dX11_holds_4 : decode cX11_holds 4 = .ok (.invokevirtual 293, 3) := by decide +kernel
theorem dX11_holds_7 : decode cX11_holds 7 = .ok (.ifCond .eq 10, 3) := by decide +kernel
theorem dX11_holds_10 : decode cX11_holds 10 = .ok (.aload_n 0, 1) := by decide +kernel
theorem dX11_holds_11 : decode cX11_holds 11 = .ok (.invokevirtual 155, 3) := by decide +kernel
theorem dX11_holds_14 : decode cX11_holds 14 = .ok (.ifCond .ne 6, 3) := by decide +kernel
theorem dX11_holds_17 : decode cX11_holds 17 = .ok (.ldc 88, 2) := by decide +kernel
theorem dX11_holds_19 : decode cX11_holds 19 = .ok (.ireturn, 1) := by decide +kernel
theorem dX11_holds_20 : decode cX11_holds 20 = .ok (.aload_n 0, 1) := by decide +kernel
theorem dX11_holds_21 : decode cX11_holds 21 = .ok (.getfield 53, 3) := by decide +kernel
theorem dX11_holds_24 : decode cX11_holds 24 = .ok (.aload_n 0, 1) := by decide +kernel
theorem dX11_holds_25 : decode cX11_holds 25 = .ok (.getfield 10, 3) := by decide +kernel
theorem dX11_holds_28 : decode cX11_holds 28 = .ok (.getfield 119, 3) := by decide +kernel
theorem dX11_holds_31 : decode cX11_holds 31 = .ok (.getfield 145, 3) := by decide +kernel
theorem dX11_holds_34 : decode cX11_holds 34 = .ok (.invokevirtual 296, 3) := by decide +kernel
theorem dX11_holds_37 : decode cX11_holds 37 = .ok (.ifCond .eq 7, 3) := by decide +kernel
theorem dX11_holds_40 : decode cX11_holds 40 = .ok (.iconst 1, 1) := by decide +kernel
theorem dX11_holds_41 : decode cX11_holds 41 = .ok (.goto 4, 3) := by decide +kernel
theorem dX11_holds_44 : decode cX11_holds 44 = .ok (.iconst 0, 1) := by decide +kernel
theorem dX11_holds_45 : decode cX11_holds 45 = .ok (.ireturn, 1) := by decide +kernel
theorem dX11_limit_0 : decode cX11_limit 0 = .ok (.aload_n 0, 1) := by decide +kernel
theorem dX11_limit_1 : decode cX11_limit 1 = .ok (.getfield 10, 3) := by decide +kernel
theorem dX11_limit_4 : decode cX11_limit 4 = .ok (.iload_n 1, 1) := by decide +kernel
theorem dX11_limit_5 : decode cX11_limit 5 = .ok (.invokevirtual 83, 3) := by decide +kernel
theorem dX11_limit_8 : decode cX11_limit 8 = .ok (.ifCond .ne 6, 3) := by decide +kernel
theorem dX11_limit_11 : decode cX11_limit 11 = .ok (.ldc 87, 2) := by decide +kernel
theorem dX11_limit_13 : decode cX11_limit 13 = .ok (.ireturn, 1) := by decide +kernel
theorem dX11_limit_14 : decode cX11_limit 14 = .ok (.iload_n 2, 1) := by decide +kernel
theorem dX11_limit_15 : decode cX11_limit 15 = .ok (.ldc 162, 2) := by decide +kernel
theorem dX11_limit_17 : decode cX11_limit 17 = .ok (.if_icmp .eq 17, 3) := by decide +kernel
theorem dX11_limit_20 : decode cX11_limit 20 = .ok (.iload_n 2, 1) := by decide +kernel
theorem dX11_limit_21 : decode cX11_limit 21 = .ok (.iconst 0, 1) := by decide +kernel
theorem dX11_limit_22 : decode cX11_limit 22 = .ok (.ldc_w 300, 3) := by decide +kernel
theorem dX11_limit_25 : decode cX11_limit 25 = .ok (.invokestatic 66, 3) := by decide +kernel
theorem dX11_limit_28 : decode cX11_limit 28 = .ok (.ifCond .eq 6, 3) := by decide +kernel
theorem dX11_limit_31 : decode cX11_limit 31 = .ok (.ldc 70, 2) := by decide +kernel
theorem dX11_limit_33 : decode cX11_limit 33 = .ok (.ireturn, 1) := by decide +kernel
theorem dX11_limit_34 : decode cX11_limit 34 = .ok (.aload_n 0, 1) := by decide +kernel
theorem dX11_limit_35 : decode cX11_limit 35 = .ok (.getfield 62, 3) := by decide +kernel
theorem dX11_limit_38 : decode cX11_limit 38 = .ok (.getfield 301, 3) := by decide +kernel
theorem dX11_limit_41 : decode cX11_limit 41 = .ok (.iload_n 1, 1) := by decide +kernel
theorem dX11_limit_42 : decode cX11_limit 42 = .ok (.iload_n 2, 1) := by decide +kernel
theorem dX11_limit_43 : decode cX11_limit 43 = .ok (.invokestatic 131, 3) := by decide +kernel
theorem dX11_limit_46 : decode cX11_limit 46 = .ok (.ireturn, 1) := by decide +kernel
theorem dX11_worth_0 : decode cX11_worth 0 = .ok (.aload_n 0, 1) := by decide +kernel
theorem dX11_worth_1 : decode cX11_worth 1 = .ok (.getfield 62, 3) := by decide +kernel
theorem dX11_worth_4 : decode cX11_worth 4 = .ok (.invokevirtual 304, 3) := by decide +kernel
theorem dX11_worth_7 : decode cX11_worth 7 = .ok (.ireturn, 1) := by decide +kernel
theorem dX11_level_0 : decode cX11_level 0 = .ok (.aload_n 0, 1) := by decide +kernel
theorem dX11_level_1 : decode cX11_level 1 = .ok (.getfield 10, 3) := by decide +kernel
theorem dX11_level_4 : decode cX11_level 4 = .ok (.getfield 119, 3) := by decide +kernel
theorem dX11_level_7 : decode cX11_level 7 = .ok (.iload_n 1, 1) := by decide +kernel
theorem dX11_level_8 : decode cX11_level 8 = .ok (.invokevirtual 141, 3) := by decide +kernel
theorem dX11_level_11 : decode cX11_level 11 = .ok (.ifCond .ne 6, 3) := by decide +kernel
theorem dX11_level_14 : decode cX11_level 14 = .ok (.ldc 87, 2) := by decide +kernel
theorem dX11_level_16 : decode cX11_level 16 = .ok (.ireturn, 1) := by decide +kernel
theorem dX11_level_17 : decode cX11_level 17 = .ok (.aload_n 0, 1) := by decide +kernel
theorem dX11_level_18 : decode cX11_level 18 = .ok (.getfield 62, 3) := by decide +kernel
theorem dX11_level_21 : decode cX11_level 21 = .ok (.invokevirtual 304, 3) := by decide +kernel
theorem dX11_level_24 : decode cX11_level 24 = .ok (.ldc 162, 2) := by decide +kernel
theorem dX11_level_26 : decode cX11_level 26 = .ok (.if_icmp .ne 8, 3) := by decide +kernel
theorem dX11_level_29 : decode cX11_level 29 = .ok (.ldc 162, 2) := by decide +kernel
theorem dX11_level_31 : decode cX11_level 31 = .ok (.goto 12, 3) := by decide +kernel
theorem dX11_level_34 : decode cX11_level 34 = .ok (.aload_n 0, 1) := by decide +kernel
theorem dX11_level_35 : decode cX11_level 35 = .ok (.getfield 62, 3) := by decide +kernel
theorem dX11_level_38 : decode cX11_level 38 = .ok (.getfield 307, 3) := by decide +kernel
theorem dX11_level_41 : decode cX11_level 41 = .ok (.iload_n 1, 1) := by decide +kernel
theorem dX11_level_42 : decode cX11_level 42 = .ok (.iaload, 1) := by decide +kernel
theorem dX11_level_43 : decode cX11_level 43 = .ok (.ireturn, 1) := by decide +kernel
theorem dX11_draw_0 : decode cX11_draw 0 = .ok (.aload_n 0, 1) := by decide +kernel
theorem dX11_draw_1 : decode cX11_draw 1 = .ok (.getfield 62, 3) := by decide +kernel
theorem dX11_draw_4 : decode cX11_draw 4 = .ok (.invokevirtual 304, 3) := by decide +kernel
theorem dX11_draw_7 : decode cX11_draw 7 = .ok (.istore_n 1, 1) := by decide +kernel
theorem dX11_draw_8 : decode cX11_draw 8 = .ok (.iload_n 1, 1) := by decide +kernel
theorem dX11_draw_9 : decode cX11_draw 9 = .ok (.ldc 162, 2) := by decide +kernel
theorem dX11_draw_11 : decode cX11_draw 11 = .ok (.if_icmp .eq 57, 3) := by decide +kernel
theorem dX11_draw_14 : decode cX11_draw 14 = .ok (.iconst 0, 1) := by decide +kernel
theorem dX11_draw_15 : decode cX11_draw 15 = .ok (.istore_n 2, 1) := by decide +kernel
theorem dX11_draw_16 : decode cX11_draw 16 = .ok (.iload_n 2, 1) := by decide +kernel
theorem dX11_draw_17 : decode cX11_draw 17 = .ok (.aload_n 0, 1) := by decide +kernel
theorem dX11_draw_18 : decode cX11_draw 18 = .ok (.getfield 10, 3) := by decide +kernel
theorem dX11_draw_21 : decode cX11_draw 21 = .ok (.getfield 119, 3) := by decide +kernel
theorem dX11_draw_24 : decode cX11_draw 24 = .ok (.getfield 123, 3) := by decide +kernel
theorem dX11_draw_27 : decode cX11_draw 27 = .ok (.if_icmp .ge 41, 3) := by decide +kernel
theorem dX11_draw_30 : decode cX11_draw 30 = .ok (.aload_n 0, 1) := by decide +kernel
theorem dX11_draw_31 : decode cX11_draw 31 = .ok (.getfield 10, 3) := by decide +kernel
theorem dX11_draw_34 : decode cX11_draw 34 = .ok (.getfield 119, 3) := by decide +kernel
theorem dX11_draw_37 : decode cX11_draw 37 = .ok (.getfield 145, 3) := by decide +kernel
theorem dX11_draw_40 : decode cX11_draw 40 = .ok (.iload_n 2, 1) := by decide +kernel
theorem dX11_draw_41 : decode cX11_draw 41 = .ok (.aload_n 0, 1) := by decide +kernel
theorem dX11_draw_42 : decode cX11_draw 42 = .ok (.getfield 10, 3) := by decide +kernel
theorem dX11_draw_45 : decode cX11_draw 45 = .ok (.getfield 119, 3) := by decide +kernel
theorem dX11_draw_48 : decode cX11_draw 48 = .ok (.iload_n 2, 1) := by decide +kernel
theorem dX11_draw_49 : decode cX11_draw 49 = .ok (.aload_n 0, 1) := by decide +kernel
theorem dX11_draw_50 : decode cX11_draw 50 = .ok (.getfield 62, 3) := by decide +kernel
theorem dX11_draw_53 : decode cX11_draw 53 = .ok (.getfield 307, 3) := by decide +kernel
theorem dX11_draw_56 : decode cX11_draw 56 = .ok (.iload_n 2, 1) := by decide +kernel
theorem dX11_draw_57 : decode cX11_draw 57 = .ok (.iaload, 1) := by decide +kernel
theorem dX11_draw_58 : decode cX11_draw 58 = .ok (.invokevirtual 310, 3) := by decide +kernel
theorem dX11_draw_61 : decode cX11_draw 61 = .ok (.iastore, 1) := by decide +kernel
theorem dX11_draw_62 : decode cX11_draw 62 = .ok (.iinc 2 1, 3) := by decide +kernel
theorem dX11_draw_65 : decode cX11_draw 65 = .ok (.goto (-49), 3) := by decide +kernel
theorem dX11_draw_68 : decode cX11_draw 68 = .ok (.iload_n 1, 1) := by decide +kernel
theorem dX11_draw_69 : decode cX11_draw 69 = .ok (.ireturn, 1) := by decide +kernel
theorem dX11_price_0 : decode cX11_price 0 = .ok (.aload_n 0, 1) := by decide +kernel
theorem dX11_price_1 : decode cX11_price 1 = .ok (.getfield 10, 3) := by decide +kernel
theorem dX11_price_4 : decode cX11_price 4 = .ok (.iload_n 1, 1) := by decide +kernel
theorem dX11_price_5 : decode cX11_price 5 = .ok (.invokevirtual 83, 3) := by decide +kernel
theorem dX11_price_8 : decode cX11_price 8 = .ok (.ifCond .ne 6, 3) := by decide +kernel
theorem dX11_price_11 : decode cX11_price 11 = .ok (.ldc 87, 2) := by decide +kernel
theorem dX11_price_13 : decode cX11_price 13 = .ok (.ireturn, 1) := by decide +kernel
theorem dX11_price_14 : decode cX11_price 14 = .ok (.aload_n 0, 1) := by decide +kernel
theorem dX11_price_15 : decode cX11_price 15 = .ok (.getfield 62, 3) := by decide +kernel
theorem dX11_price_18 : decode cX11_price 18 = .ok (.getfield 301, 3) := by decide +kernel
theorem dX11_price_21 : decode cX11_price 21 = .ok (.iload_n 1, 1) := by decide +kernel
theorem dX11_price_22 : decode cX11_price 22 = .ok (.iaload, 1) := by decide +kernel
theorem dX11_price_23 : decode cX11_price 23 = .ok (.istore_n 2, 1) := by decide +kernel
theorem dX11_price_24 : decode cX11_price 24 = .ok (.iload_n 2, 1) := by decide +kernel
theorem dX11_price_25 : decode cX11_price 25 = .ok (.ldc 162, 2) := by decide +kernel
theorem dX11_price_27 : decode cX11_price 27 = .ok (.if_icmp .ne 5, 3) := by decide +kernel
theorem dX11_price_30 : decode cX11_price 30 = .ok (.iconst 0, 1) := by decide +kernel
theorem dX11_price_31 : decode cX11_price 31 = .ok (.ireturn, 1) := by decide +kernel
theorem dX11_price_32 : decode cX11_price 32 = .ok (.aload_n 0, 1) := by decide +kernel
theorem dX11_price_33 : decode cX11_price 33 = .ok (.getfield 62, 3) := by decide +kernel
theorem dX11_price_36 : decode cX11_price 36 = .ok (.invokevirtual 304, 3) := by decide +kernel
theorem dX11_price_39 : decode cX11_price 39 = .ok (.istore_n 3, 1) := by decide +kernel
theorem dX11_price_40 : decode cX11_price 40 = .ok (.iload_n 3, 1) := by decide +kernel
theorem dX11_price_41 : decode cX11_price 41 = .ok (.ldc 162, 2) := by decide +kernel
theorem dX11_price_43 : decode cX11_price 43 = .ok (.if_icmp .ne 6, 3) := by decide +kernel
theorem dX11_price_46 : decode cX11_price 46 = .ok (.ldc 162, 2) := by decide +kernel
theorem dX11_price_48 : decode cX11_price 48 = .ok (.ireturn, 1) := by decide +kernel
theorem dX11_price_49 : decode cX11_price 49 = .ok (.aload_n 0, 1) := by decide +kernel
theorem dX11_price_50 : decode cX11_price 50 = .ok (.getfield 62, 3) := by decide +kernel
theorem dX11_price_53 : decode cX11_price 53 = .ok (.getfield 301, 3) := by decide +kernel
theorem dX11_price_56 : decode cX11_price 56 = .ok (.iload_n 1, 1) := by decide +kernel
theorem dX11_price_57 : decode cX11_price 57 = .ok (.ldc 162, 2) := by decide +kernel
theorem dX11_price_59 : decode cX11_price 59 = .ok (.iastore, 1) := by decide +kernel
theorem dX11_price_60 : decode cX11_price 60 = .ok (.aload_n 0, 1) := by decide +kernel
theorem dX11_price_61 : decode cX11_price 61 = .ok (.getfield 62, 3) := by decide +kernel
theorem dX11_price_64 : decode cX11_price 64 = .ok (.invokevirtual 304, 3) := by decide +kernel
theorem dX11_price_67 : decode cX11_price 67 = .ok (.istore 4, 2) := by decide +kernel
theorem dX11_price_69 : decode cX11_price 69 = .ok (.aload_n 0, 1) := by decide +kernel
theorem dX11_price_70 : decode cX11_price 70 = .ok (.getfield 62, 3) := by decide +kernel
theorem dX11_price_73 : decode cX11_price 73 = .ok (.getfield 301, 3) := by decide +kernel
theorem dX11_price_76 : decode cX11_price 76 = .ok (.iload_n 1, 1) := by decide +kernel
theorem dX11_price_77 : decode cX11_price 77 = .ok (.iload_n 2, 1) := by decide +kernel
theorem dX11_price_78 : decode cX11_price 78 = .ok (.iastore, 1) := by decide +kernel
theorem dX11_price_79 : decode cX11_price 79 = .ok (.iload 4, 2) := by decide +kernel
theorem dX11_price_81 : decode cX11_price 81 = .ok (.iload_n 3, 1) := by decide +kernel
theorem dX11_price_82 : decode cX11_price 82 = .ok (.isub, 1) := by decide +kernel
theorem dX11_price_83 : decode cX11_price 83 = .ok (.ireturn, 1) := by decide +kernel
theorem dX11_harm_0 : decode cX11_harm 0 = .ok (.aload_n 0, 1) := by decide +kernel
theorem dX11_harm_1 : decode cX11_harm 1 = .ok (.getfield 10, 3) := by decide +kernel
theorem dX11_harm_4 : decode cX11_harm 4 = .ok (.iload_n 1, 1) := by decide +kernel
theorem dX11_harm_5 : decode cX11_harm 5 = .ok (.invokevirtual 83, 3) := by decide +kernel
theorem dX11_harm_8 : decode cX11_harm 8 = .ok (.ifCond .ne 6, 3) := by decide +kernel
theorem dX11_harm_11 : decode cX11_harm 11 = .ok (.ldc 87, 2) := by decide +kernel
theorem dX11_harm_13 : decode cX11_harm 13 = .ok (.ireturn, 1) := by decide +kernel
theorem dX11_harm_14 : decode cX11_harm 14 = .ok (.aload_n 0, 1) := by decide +kernel
theorem dX11_harm_15 : decode cX11_harm 15 = .ok (.getfield 62, 3) := by decide +kernel
theorem dX11_harm_18 : decode cX11_harm 18 = .ok (.iload_n 1, 1) := by decide +kernel
theorem dX11_harm_19 : decode cX11_harm 19 = .ok (.invokevirtual 313, 3) := by decide +kernel
theorem dX11_harm_22 : decode cX11_harm 22 = .ok (.ireturn, 1) := by decide +kernel
theorem dX11_share_0 : decode cX11_share 0 = .ok (.aload_n 0, 1) := by decide +kernel
theorem dX11_share_1 : decode cX11_share 1 = .ok (.getfield 10, 3) := by decide +kernel
theorem dX11_share_4 : decode cX11_share 4 = .ok (.iload_n 1, 1) := by decide +kernel
theorem dX11_share_5 : decode cX11_share 5 = .ok (.invokevirtual 83, 3) := by decide +kernel
theorem dX11_share_8 : decode cX11_share 8 = .ok (.ifCond .eq 17, 3) := by decide +kernel
theorem dX11_share_11 : decode cX11_share 11 = .ok (.aload_n 0, 1) := by decide +kernel
theorem dX11_share_12 : decode cX11_share 12 = .ok (.getfield 10, 3) := by decide +kernel
theorem dX11_share_15 : decode cX11_share 15 = .ok (.getfield 119, 3) := by decide +kernel
theorem dX11_share_18 : decode cX11_share 18 = .ok (.iload_n 2, 1) := by decide +kernel
theorem dX11_share_19 : decode cX11_share 19 = .ok (.invokevirtual 141, 3) := by decide +kernel
theorem dX11_share_22 : decode cX11_share 22 = .ok (.ifCond .ne 6, 3) := by decide +kernel
theorem dX11_share_25 : decode cX11_share 25 = .ok (.ldc 87, 2) := by decide +kernel
theorem dX11_share_27 : decode cX11_share 27 = .ok (.ireturn, 1) := by decide +kernel
theorem dX11_share_28 : decode cX11_share 28 = .ok (.aload_n 0, 1) := by decide +kernel
theorem dX11_share_29 : decode cX11_share 29 = .ok (.getfield 62, 3) := by decide +kernel
theorem dX11_share_32 : decode cX11_share 32 = .ok (.iload_n 1, 1) := by decide +kernel
theorem dX11_share_33 : decode cX11_share 33 = .ok (.iload_n 2, 1) := by decide +kernel
theorem dX11_share_34 : decode cX11_share 34 = .ok (.invokevirtual 316, 3) := by decide +kernel
theorem dX11_share_37 : decode cX11_share 37 = .ok (.ireturn, 1) := by decide +kernel
theorem dX11_count_0 : decode cX11_count 0 = .ok (.iload_n 1, 1) := by decide +kernel
theorem dX11_count_1 : decode cX11_count 1 = .ok (.tableswitch 138 0 8 #[51, 59, 70, 81, 92, 103, 111, 119, 127], 51) := by decide +kernel
theorem dX11_count_52 : decode cX11_count 52 = .ok (.aload_n 0, 1) := by decide +kernel
theorem dX11_count_53 : decode cX11_count 53 = .ok (.getfield 10, 3) := by decide +kernel
theorem dX11_count_56 : decode cX11_count 56 = .ok (.getfield 71, 3) := by decide +kernel
theorem dX11_count_59 : decode cX11_count 59 = .ok (.ireturn, 1) := by decide +kernel
theorem dX11_count_60 : decode cX11_count 60 = .ok (.aload_n 0, 1) := by decide +kernel
theorem dX11_count_61 : decode cX11_count 61 = .ok (.getfield 10, 3) := by decide +kernel
theorem dX11_count_64 : decode cX11_count 64 = .ok (.getfield 89, 3) := by decide +kernel
theorem dX11_count_67 : decode cX11_count 67 = .ok (.getfield 93, 3) := by decide +kernel
theorem dX11_count_70 : decode cX11_count 70 = .ok (.ireturn, 1) := by decide +kernel
theorem dX11_count_71 : decode cX11_count 71 = .ok (.aload_n 0, 1) := by decide +kernel
theorem dX11_count_72 : decode cX11_count 72 = .ok (.getfield 10, 3) := by decide +kernel
theorem dX11_count_75 : decode cX11_count 75 = .ok (.getfield 101, 3) := by decide +kernel
theorem dX11_count_78 : decode cX11_count 78 = .ok (.getfield 105, 3) := by decide +kernel
theorem dX11_count_81 : decode cX11_count 81 = .ok (.ireturn, 1) := by decide +kernel
theorem dX11_count_82 : decode cX11_count 82 = .ok (.aload_n 0, 1) := by decide +kernel
theorem dX11_count_83 : decode cX11_count 83 = .ok (.getfield 10, 3) := by decide +kernel
theorem dX11_count_86 : decode cX11_count 86 = .ok (.getfield 111, 3) := by decide +kernel
theorem dX11_count_89 : decode cX11_count 89 = .ok (.getfield 115, 3) := by decide +kernel
theorem dX11_count_92 : decode cX11_count 92 = .ok (.ireturn, 1) := by decide +kernel
theorem dX11_count_93 : decode cX11_count 93 = .ok (.aload_n 0, 1) := by decide +kernel
theorem dX11_count_94 : decode cX11_count 94 = .ok (.getfield 10, 3) := by decide +kernel
theorem dX11_count_97 : decode cX11_count 97 = .ok (.getfield 119, 3) := by decide +kernel
theorem dX11_count_100 : decode cX11_count 100 = .ok (.getfield 123, 3) := by decide +kernel
theorem dX11_count_103 : decode cX11_count 103 = .ok (.ireturn, 1) := by decide +kernel
theorem dX11_count_104 : decode cX11_count 104 = .ok (.aload_n 0, 1) := by decide +kernel
theorem dX11_count_105 : decode cX11_count 105 = .ok (.getfield 46, 3) := by decide +kernel
theorem dX11_count_108 : decode cX11_count 108 = .ok (.getfield 263, 3) := by decide +kernel
theorem dX11_count_111 : decode cX11_count 111 = .ok (.ireturn, 1) := by decide +kernel
theorem dX11_count_112 : decode cX11_count 112 = .ok (.aload_n 0, 1) := by decide +kernel
theorem dX11_count_113 : decode cX11_count 113 = .ok (.getfield 53, 3) := by decide +kernel
theorem dX11_count_116 : decode cX11_count 116 = .ok (.getfield 286, 3) := by decide +kernel
theorem dX11_count_119 : decode cX11_count 119 = .ok (.ireturn, 1) := by decide +kernel
theorem dX11_count_120 : decode cX11_count 120 = .ok (.aload_n 0, 1) := by decide +kernel
theorem dX11_count_121 : decode cX11_count 121 = .ok (.getfield 46, 3) := by decide +kernel
theorem dX11_count_124 : decode cX11_count 124 = .ok (.invokevirtual 319, 3) := by decide +kernel
theorem dX11_count_127 : decode cX11_count 127 = .ok (.ireturn, 1) := by decide +kernel
theorem dX11_count_128 : decode cX11_count 128 = .ok (.aload_n 0, 1) := by decide +kernel
theorem dX11_count_129 : decode cX11_count 129 = .ok (.getfield 10, 3) := by decide +kernel
theorem dX11_count_132 : decode cX11_count 132 = .ok (.getfield 119, 3) := by decide +kernel
theorem dX11_count_135 : decode cX11_count 135 = .ok (.invokevirtual 322, 3) := by decide +kernel
theorem dX11_count_138 : decode cX11_count 138 = .ok (.ireturn, 1) := by decide +kernel
theorem dX11_count_139 : decode cX11_count 139 = .ok (.ldc 70, 2) := by decide +kernel
theorem dX11_count_141 : decode cX11_count 141 = .ok (.ireturn, 1) := by decide +kernel
theorem dX11_atRest_0 : decode cX11_atRest 0 = .ok (.aload_n 0, 1) := by decide +kernel
theorem dX11_atRest_1 : decode cX11_atRest 1 = .ok (.getfield 21, 3) := by decide +kernel
theorem dX11_atRest_4 : decode cX11_atRest 4 = .ok (.aload_n 0, 1) := by decide +kernel
theorem dX11_atRest_5 : decode cX11_atRest 5 = .ok (.getfield 10, 3) := by decide +kernel
theorem dX11_atRest_8 : decode cX11_atRest 8 = .ok (.getfield 119, 3) := by decide +kernel
theorem dX11_atRest_11 : decode cX11_atRest 11 = .ok (.getfield 145, 3) := by decide +kernel
theorem dX11_atRest_14 : decode cX11_atRest 14 = .ok (.invokevirtual 325, 3) := by decide +kernel
theorem dX11_atRest_17 : decode cX11_atRest 17 = .ok (.ireturn, 1) := by decide +kernel
theorem dX11_outside_0 : decode cX11_outside 0 = .ok (.iload_n 0, 1) := by decide +kernel
theorem dX11_outside_1 : decode cX11_outside 1 = .ok (.iload_n 1, 1) := by decide +kernel
theorem dX11_outside_2 : decode cX11_outside 2 = .ok (.if_icmp .lt 8, 3) := by decide +kernel
theorem dX11_outside_5 : decode cX11_outside 5 = .ok (.iload_n 0, 1) := by decide +kernel
theorem dX11_outside_6 : decode cX11_outside 6 = .ok (.iload_n 2, 1) := by decide +kernel
theorem dX11_outside_7 : decode cX11_outside 7 = .ok (.if_icmp .le 7, 3) := by decide +kernel
theorem dX11_outside_10 : decode cX11_outside 10 = .ok (.iconst 1, 1) := by decide +kernel
theorem dX11_outside_11 : decode cX11_outside 11 = .ok (.goto 4, 3) := by decide +kernel
theorem dX11_outside_14 : decode cX11_outside 14 = .ok (.iconst 0, 1) := by decide +kernel
theorem dX11_outside_15 : decode cX11_outside 15 = .ok (.ireturn, 1) := by decide +kernel
theorem dX11_exchange_0 : decode cX11_exchange 0 = .ok (.aload_n 0, 1) := by decide +kernel
theorem dX11_exchange_1 : decode cX11_exchange 1 = .ok (.iload_n 1, 1) := by decide +kernel
theorem dX11_exchange_2 : decode cX11_exchange 2 = .ok (.iaload, 1) := by decide +kernel
theorem dX11_exchange_3 : decode cX11_exchange 3 = .ok (.istore_n 3, 1) := by decide +kernel
theorem dX11_exchange_4 : decode cX11_exchange 4 = .ok (.aload_n 0, 1) := by decide +kernel
theorem dX11_exchange_5 : decode cX11_exchange 5 = .ok (.iload_n 1, 1) := by decide +kernel
theorem dX11_exchange_6 : decode cX11_exchange 6 = .ok (.iload_n 2, 1) := by decide +kernel
theorem dX11_exchange_7 : decode cX11_exchange 7 = .ok (.iastore, 1) := by decide +kernel
theorem dX11_exchange_8 : decode cX11_exchange 8 = .ok (.iload_n 3, 1) := by decide +kernel
theorem dX11_exchange_9 : decode cX11_exchange 9 = .ok (.ireturn, 1) := by decide +kernel
theorem dX11_milliOf_0 : decode cX11_milliOf 0 = .ok (.lload_n 2, 1) := by decide +kernel
theorem dX11_milliOf_1 : decode cX11_milliOf 1 = .ok (.lconst 1, 1) := by decide +kernel
theorem dX11_milliOf_2 : decode cX11_milliOf 2 = .ok (.lcmp, 1) := by decide +kernel
theorem dX11_milliOf_3 : decode cX11_milliOf 3 = .ok (.ifCond .ge 7, 3) := by decide +kernel
theorem dX11_milliOf_6 : decode cX11_milliOf 6 = .ok (.iconst 0, 1) := by decide +kernel
theorem dX11_milliOf_7 : decode cX11_milliOf 7 = .ok (.goto 13, 3) := by decide +kernel
theorem dX11_milliOf_10 : decode cX11_milliOf 10 = .ok (.ldc2_w 328, 3) := by decide +kernel
theorem dX11_milliOf_13 : decode cX11_milliOf 13 = .ok (.lload_n 0, 1) := by decide +kernel
theorem dX11_milliOf_14 : decode cX11_milliOf 14 = .ok (.lmul, 1) := by decide +kernel
theorem dX11_milliOf_15 : decode cX11_milliOf 15 = .ok (.lload_n 2, 1) := by decide +kernel
theorem dX11_milliOf_16 : decode cX11_milliOf 16 = .ok (.invokestatic 330, 3) := by decide +kernel
theorem dX11_milliOf_19 : decode cX11_milliOf 19 = .ok (.l2i, 1) := by decide +kernel
theorem dX11_milliOf_20 : decode cX11_milliOf 20 = .ok (.ireturn, 1) := by decide +kernel
theorem dX11_longMilliOf_0 : decode cX11_longMilliOf 0 = .ok (.lload_n 2, 1) := by decide +kernel
theorem dX11_longMilliOf_1 : decode cX11_longMilliOf 1 = .ok (.lconst 1, 1) := by decide +kernel
theorem dX11_longMilliOf_2 : decode cX11_longMilliOf 2 = .ok (.lcmp, 1) := by decide +kernel
theorem dX11_longMilliOf_3 : decode cX11_longMilliOf 3 = .ok (.ifCond .ge 7, 3) := by decide +kernel
theorem dX11_longMilliOf_6 : decode cX11_longMilliOf 6 = .ok (.lconst 0, 1) := by decide +kernel
theorem dX11_longMilliOf_7 : decode cX11_longMilliOf 7 = .ok (.goto 12, 3) := by decide +kernel
theorem dX11_longMilliOf_10 : decode cX11_longMilliOf 10 = .ok (.ldc2_w 328, 3) := by decide +kernel
theorem dX11_longMilliOf_13 : decode cX11_longMilliOf 13 = .ok (.lload_n 0, 1) := by decide +kernel
theorem dX11_longMilliOf_14 : decode cX11_longMilliOf 14 = .ok (.lmul, 1) := by decide +kernel
theorem dX11_longMilliOf_15 : decode cX11_longMilliOf 15 = .ok (.lload_n 2, 1) := by decide +kernel
theorem dX11_longMilliOf_16 : decode cX11_longMilliOf 16 = .ok (.invokestatic 330, 3) := by decide +kernel
theorem dX11_longMilliOf_19 : decode cX11_longMilliOf 19 = .ok (.lreturn, 1) := by decide +kernel
theorem dX11_leastTerm_0 : decode cX11_leastTerm 0 = .ok (.lload_n 0, 1) := by decide +kernel
theorem dX11_leastTerm_1 : decode cX11_leastTerm 1 = .ok (.invokestatic 336, 3) := by decide +kernel
theorem dX11_leastTerm_4 : decode cX11_leastTerm 4 = .ok (.lload_n 2, 1) := by decide +kernel
theorem dX11_leastTerm_5 : decode cX11_leastTerm 5 = .ok (.invokestatic 340, 3) := by decide +kernel
theorem dX11_leastTerm_8 : decode cX11_leastTerm 8 = .ok (.lstore 5, 2) := by decide +kernel
theorem dX11_leastTerm_10 : decode cX11_leastTerm 10 = .ok (.lload 5, 2) := by decide +kernel
theorem dX11_leastTerm_12 : decode cX11_leastTerm 12 = .ok (.lconst 1, 1) := by decide +kernel
theorem dX11_leastTerm_13 : decode cX11_leastTerm 13 = .ok (.lcmp, 1) := by decide +kernel
theorem dX11_leastTerm_14 : decode cX11_leastTerm 14 = .ok (.ifCond .ge 14, 3) := by decide +kernel
theorem dX11_leastTerm_17 : decode cX11_leastTerm 17 = .ok (.iload 4, 2) := by decide +kernel
theorem dX11_leastTerm_19 : decode cX11_leastTerm 19 = .ok (.ifCond .eq 7, 3) := by decide +kernel
theorem dX11_leastTerm_22 : decode cX11_leastTerm 22 = .ok (.lload_n 0, 1) := by decide +kernel
theorem dX11_leastTerm_23 : decode cX11_leastTerm 23 = .ok (.goto 4, 3) := by decide +kernel
theorem dX11_leastTerm_26 : decode cX11_leastTerm 26 = .ok (.lload_n 2, 1) := by decide +kernel
theorem dX11_leastTerm_27 : decode cX11_leastTerm 27 = .ok (.lreturn, 1) := by decide +kernel
theorem dX11_leastTerm_28 : decode cX11_leastTerm 28 = .ok (.iload 4, 2) := by decide +kernel
theorem dX11_leastTerm_30 : decode cX11_leastTerm 30 = .ok (.ifCond .eq 7, 3) := by decide +kernel
theorem dX11_leastTerm_33 : decode cX11_leastTerm 33 = .ok (.lload_n 0, 1) := by decide +kernel
theorem dX11_leastTerm_34 : decode cX11_leastTerm 34 = .ok (.goto 4, 3) := by decide +kernel
theorem dX11_leastTerm_37 : decode cX11_leastTerm 37 = .ok (.lload_n 2, 1) := by decide +kernel
theorem dX11_leastTerm_38 : decode cX11_leastTerm 38 = .ok (.lload 5, 2) := by decide +kernel
theorem dX11_leastTerm_40 : decode cX11_leastTerm 40 = .ok (.ldiv, 1) := by decide +kernel
theorem dX11_leastTerm_41 : decode cX11_leastTerm 41 = .ok (.lreturn, 1) := by decide +kernel
theorem dX11_commonDivisor_0 : decode cX11_commonDivisor 0 = .ok (.iconst 0, 1) := by decide +kernel
theorem dX11_commonDivisor_1 : decode cX11_commonDivisor 1 = .ok (.istore 4, 2) := by decide +kernel
theorem dX11_commonDivisor_3 : decode cX11_commonDivisor 3 = .ok (.iload 4, 2) := by decide +kernel
theorem dX11_commonDivisor_5 : decode cX11_commonDivisor 5 = .ok (.bipush 100, 2) := by decide +kernel
theorem dX11_commonDivisor_7 : decode cX11_commonDivisor 7 = .ok (.if_icmp .ge 25, 3) := by decide +kernel
theorem dX11_commonDivisor_10 : decode cX11_commonDivisor 10 = .ok (.lload_n 2, 1) := by decide +kernel
theorem dX11_commonDivisor_11 : decode cX11_commonDivisor 11 = .ok (.lconst 0, 1) := by decide +kernel
theorem dX11_commonDivisor_12 : decode cX11_commonDivisor 12 = .ok (.lcmp, 1) := by decide +kernel
theorem dX11_commonDivisor_13 : decode cX11_commonDivisor 13 = .ok (.ifCond .eq 19, 3) := by decide +kernel
theorem dX11_commonDivisor_16 : decode cX11_commonDivisor 16 = .ok (.lload_n 0, 1) := by decide +kernel
theorem dX11_commonDivisor_17 : decode cX11_commonDivisor 17 = .ok (.lload_n 2, 1) := by decide +kernel
theorem dX11_commonDivisor_18 : decode cX11_commonDivisor 18 = .ok (.lrem, 1) := by decide +kernel
theorem dX11_commonDivisor_19 : decode cX11_commonDivisor 19 = .ok (.lstore 5, 2) := by decide +kernel
theorem dX11_commonDivisor_21 : decode cX11_commonDivisor 21 = .ok (.lload_n 2, 1) := by decide +kernel
theorem dX11_commonDivisor_22 : decode cX11_commonDivisor 22 = .ok (.lstore_n 0, 1) := by decide +kernel
theorem dX11_commonDivisor_23 : decode cX11_commonDivisor 23 = .ok (.lload 5, 2) := by decide +kernel
theorem dX11_commonDivisor_25 : decode cX11_commonDivisor 25 = .ok (.lstore_n 2, 1) := by decide +kernel
theorem dX11_commonDivisor_26 : decode cX11_commonDivisor 26 = .ok (.iinc 4 1, 3) := by decide +kernel
theorem dX11_commonDivisor_29 : decode cX11_commonDivisor 29 = .ok (.goto (-26), 3) := by decide +kernel
theorem dX11_commonDivisor_32 : decode cX11_commonDivisor 32 = .ok (.lload_n 0, 1) := by decide +kernel
theorem dX11_commonDivisor_33 : decode cX11_commonDivisor 33 = .ok (.lreturn, 1) := by decide +kernel
