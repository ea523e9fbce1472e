theorem dX8_init_0 : decode cX8_init 0 = .ok (.aload_n 0, 1) := by decide +kernel
theorem dX8_init_1 : decode cX8_init 1 = .ok (.invokespecial 3, 3) := by decide +kernel
theorem dX8_init_4 : decode cX8_init 4 = .ok (.aload_n 0, 1) := by decide +kernel
theorem dX8_init_5 : decode cX8_init 5 = .ok (.new 9, 3) := by decide +kernel
theorem dX8_init_8 : decode cX8_init 8 = .ok (.dup, 1) := by decide +kernel
theorem dX8_init_9 : decode cX8_init 9 = .ok (.invokespecial 11, 3) := by decide +kernel
theorem dX8_init_12 : decode cX8_init 12 = .ok (.putfield 12, 3) := by decide +kernel
theorem dX8_init_15 : decode cX8_init 15 = .ok (.aload_n 0, 1) := by decide +kernel
theorem dX8_init_16 : decode cX8_init 16 = .ok (.aload_n 0, 1) := by decide +kernel
theorem dX8_init_17 : decode cX8_init 17 = .ok (.getfield 12, 3) := by decide +kernel
theorem dX8_init_20 : decode cX8_init 20 = .ok (.getfield 16, 3) := by decide +kernel
theorem dX8_init_23 : decode cX8_init 23 = .ok (.putfield 20, 3) := by decide +kernel
theorem dX8_init_26 : decode cX8_init 26 = .ok (.aload_n 0, 1) := by decide +kernel
theorem dX8_init_27 : decode cX8_init 27 = .ok (.aload_n 0, 1) := by decide +kernel
theorem dX8_init_28 : decode cX8_init 28 = .ok (.getfield 12, 3) := by decide +kernel
theorem dX8_init_31 : decode cX8_init 31 = .ok (.getfield 16, 3) := by decide +kernel
theorem dX8_init_34 : decode cX8_init 34 = .ok (.getfield 21, 3) := by decide +kernel
theorem dX8_init_37 : decode cX8_init 37 = .ok (.putfield 27, 3) := by decide +kernel
theorem dX8_init_40 : decode cX8_init 40 = .ok (.aload_n 0, 1) := by decide +kernel
theorem dX8_init_41 : decode cX8_init 41 = .ok (.new 28, 3) := by decide +kernel
theorem dX8_init_44 : decode cX8_init 44 = .ok (.dup, 1) := by decide +kernel
theorem dX8_init_45 : decode cX8_init 45 = .ok (.invokespecial 30, 3) := by decide +kernel
theorem dX8_init_48 : decode cX8_init 48 = .ok (.putfield 31, 3) := by decide +kernel
theorem dX8_init_51 : decode cX8_init 51 = .ok (.aload_n 0, 1) := by decide +kernel
theorem dX8_init_52 : decode cX8_init 52 = .ok (.new 35, 3) := by decide +kernel
theorem dX8_init_55 : decode cX8_init 55 = .ok (.dup, 1) := by decide +kernel
theorem dX8_init_56 : decode cX8_init 56 = .ok (.invokespecial 37, 3) := by decide +kernel
theorem dX8_init_59 : decode cX8_init 59 = .ok (.putfield 38, 3) := by decide +kernel
theorem dX8_init_62 : decode cX8_init 62 = .ok (.aload_n 0, 1) := by decide +kernel
theorem dX8_init_63 : decode cX8_init 63 = .ok (.new 42, 3) := by decide +kernel
theorem dX8_init_66 : decode cX8_init 66 = .ok (.dup, 1) := by decide +kernel
theorem dX8_init_67 : decode cX8_init 67 = .ok (.invokespecial 44, 3) := by decide +kernel
theorem dX8_init_70 : decode cX8_init 70 = .ok (.putfield 45, 3) := by decide +kernel
theorem dX8_init_73 : decode cX8_init 73 = .ok (.return_, 1) := by decide +kernel
theorem dX8_scan_0 : decode cX8_scan 0 = .ok (.aload_n 0, 1) := by decide +kernel
theorem dX8_scan_1 : decode cX8_scan 1 = .ok (.getfield 38, 3) := by decide +kernel
theorem dX8_scan_4 : decode cX8_scan 4 = .ok (.aload_n 0, 1) := by decide +kernel
theorem dX8_scan_5 : decode cX8_scan 5 = .ok (.getfield 27, 3) := by decide +kernel
theorem dX8_scan_8 : decode cX8_scan 8 = .ok (.aload_n 0, 1) := by decide +kernel
theorem dX8_scan_9 : decode cX8_scan 9 = .ok (.getfield 31, 3) := by decide +kernel
theorem dX8_scan_12 : decode cX8_scan 12 = .ok (.invokevirtual 49, 3) := by decide +kernel
theorem dX8_scan_15 : decode cX8_scan 15 = .ok (.aload_n 0, 1) := by decide +kernel
theorem dX8_scan_16 : decode cX8_scan 16 = .ok (.aload_n 0, 1) := by decide +kernel
theorem dX8_scan_17 : decode cX8_scan 17 = .ok (.getfield 12, 3) := by decide +kernel
theorem dX8_scan_20 : decode cX8_scan 20 = .ok (.iload_n 1, 1) := by decide +kernel
theorem dX8_scan_21 : decode cX8_scan 21 = .ok (.lload_n 2, 1) := by decide +kernel
theorem dX8_scan_22 : decode cX8_scan 22 = .ok (.invokevirtual 53, 3) := by decide +kernel
theorem dX8_scan_25 : decode cX8_scan 25 = .ok (.invokevirtual 57, 3) := by decide +kernel
theorem dX8_scan_28 : decode cX8_scan 28 = .ok (.ireturn, 1) := by decide +kernel
theorem dX8_clean_0 : decode cX8_clean 0 = .ok (.aload_n 0, 1) := by decide +kernel
theorem dX8_clean_1 : decode cX8_clean 1 = .ok (.getfield 38, 3) := by decide +kernel
theorem dX8_clean_4 : decode cX8_clean 4 = .ok (.aload_n 0, 1) := by decide +kernel
theorem dX8_clean_5 : decode cX8_clean 5 = .ok (.getfield 27, 3) := by decide +kernel
theorem dX8_clean_8 : decode cX8_clean 8 = .ok (.aload_n 0, 1) := by decide +kernel
theorem dX8_clean_9 : decode cX8_clean 9 = .ok (.getfield 31, 3) := by decide +kernel
theorem dX8_clean_12 : decode cX8_clean 12 = .ok (.invokevirtual 49, 3) := by decide +kernel
theorem dX8_clean_15 : decode cX8_clean 15 = .ok (.aload_n 0, 1) := by decide +kernel
theorem dX8_clean_16 : decode cX8_clean 16 = .ok (.aload_n 0, 1) := by decide +kernel
theorem dX8_clean_17 : decode cX8_clean 17 = .ok (.getfield 12, 3) := by decide +kernel
theorem dX8_clean_20 : decode cX8_clean 20 = .ok (.iload_n 1, 1) := by decide +kernel
theorem dX8_clean_21 : decode cX8_clean 21 = .ok (.invokevirtual 61, 3) := by decide +kernel
theorem dX8_clean_24 : decode cX8_clean 24 = .ok (.invokevirtual 57, 3) := by decide +kernel
theorem dX8_clean_27 : decode cX8_clean 27 = .ok (.ireturn, 1) := by decide +kernel
theorem dX8_set_0 : decode cX8_set 0 = .ok (.aload_n 0, 1) := by decide +kernel
theorem dX8_set_1 : decode cX8_set 1 = .ok (.getfield 38, 3) := by decide +kernel
theorem dX8_set_4 : decode cX8_set 4 = .ok (.aload_n 0, 1) := by decide +kernel
theorem dX8_set_5 : decode cX8_set 5 = .ok (.getfield 27, 3) := by decide +kernel
theorem dX8_set_8 : decode cX8_set 8 = .ok (.aload_n 0, 1) := by decide +kernel
theorem dX8_set_9 : decode cX8_set 9 = .ok (.getfield 31, 3) := by decide +kernel
theorem dX8_set_12 : decode cX8_set 12 = .ok (.invokevirtual 49, 3) := by decide +kernel
theorem dX8_set_15 : decode cX8_set 15 = .ok (.aload_n 0, 1) := by decide +kernel
theorem dX8_set_16 : decode cX8_set 16 = .ok (.aload_n 0, 1) := by decide +kernel
theorem dX8_set_17 : decode cX8_set 17 = .ok (.getfield 12, 3) := by decide +kernel
theorem dX8_set_20 : decode cX8_set 20 = .ok (.iload_n 1, 1) := by decide +kernel
theorem dX8_set_21 : decode cX8_set 21 = .ok (.iload_n 2, 1) := by decide +kernel
theorem dX8_set_22 : decode cX8_set 22 = .ok (.invokevirtual 64, 3) := by decide +kernel
theorem dX8_set_25 : decode cX8_set 25 = .ok (.invokevirtual 57, 3) := by decide +kernel
theorem dX8_set_28 : decode cX8_set 28 = .ok (.ireturn, 1) := by decide +kernel
theorem dX8_publish_0 : decode cX8_publish 0 = .ok (.aload_n 0, 1) := by decide +kernel
theorem dX8_publish_1 : decode cX8_publish 1 = .ok (.getfield 38, 3) := by decide +kernel
theorem dX8_publish_4 : decode cX8_publish 4 = .ok (.aload_n 0, 1) := by decide +kernel
theorem dX8_publish_5 : decode cX8_publish 5 = .ok (.getfield 27, 3) := by decide +kernel
theorem dX8_publish_8 : decode cX8_publish 8 = .ok (.aload_n 0, 1) := by decide +kernel
theorem dX8_publish_9 : decode cX8_publish 9 = .ok (.getfield 31, 3) := by decide +kernel
theorem dX8_publish_12 : decode cX8_publish 12 = .ok (.invokevirtual 49, 3) := by decide +kernel
theorem dX8_publish_15 : decode cX8_publish 15 = .ok (.aload_n 0, 1) := by decide +kernel
theorem dX8_publish_16 : decode cX8_publish 16 = .ok (.aload_n 0, 1) := by decide +kernel
theorem dX8_publish_17 : decode cX8_publish 17 = .ok (.getfield 12, 3) := by decide +kernel
theorem dX8_publish_20 : decode cX8_publish 20 = .ok (.invokevirtual 68, 3) := by decide +kernel
theorem dX8_publish_23 : decode cX8_publish 23 = .ok (.invokevirtual 57, 3) := by decide +kernel
theorem dX8_publish_26 : decode cX8_publish 26 = .ok (.ireturn, 1) := by decide +kernel
theorem dX8_draw_0 : decode cX8_draw 0 = .ok (.aload_n 0, 1) := by decide +kernel
theorem dX8_draw_1 : decode cX8_draw 1 = .ok (.getfield 38, 3) := by decide +kernel
theorem dX8_draw_4 : decode cX8_draw 4 = .ok (.aload_n 0, 1) := by decide +kernel
theorem dX8_draw_5 : decode cX8_draw 5 = .ok (.getfield 27, 3) := by decide +kernel
theorem dX8_draw_8 : decode cX8_draw 8 = .ok (.aload_n 0, 1) := by decide +kernel
theorem dX8_draw_9 : decode cX8_draw 9 = .ok (.getfield 31, 3) := by decide +kernel
theorem dX8_draw_12 : decode cX8_draw 12 = .ok (.invokevirtual 49, 3) := by decide +kernel
theorem dX8_draw_15 : decode cX8_draw 15 = .ok (.aload_n 0, 1) := by decide +kernel
theorem dX8_draw_16 : decode cX8_draw 16 = .ok (.aload_n 0, 1) := by decide +kernel
theorem dX8_draw_17 : decode cX8_draw 17 = .ok (.getfield 12, 3) := by decide +kernel
theorem dX8_draw_20 : decode cX8_draw 20 = .ok (.iload_n 1, 1) := by decide +kernel
theorem dX8_draw_21 : decode cX8_draw 21 = .ok (.iload_n 2, 1) := by decide +kernel
theorem dX8_draw_22 : decode cX8_draw 22 = .ok (.invokevirtual 72, 3) := by decide +kernel
theorem dX8_draw_25 : decode cX8_draw 25 = .ok (.invokevirtual 57, 3) := by decide +kernel
theorem dX8_draw_28 : decode cX8_draw 28 = .ok (.ireturn, 1) := by decide +kernel
theorem dX8_look_0 : decode cX8_look 0 = .ok (.aload_n 0, 1) := by decide +kernel
theorem dX8_look_1 : decode cX8_look 1 = .ok (.getfield 38, 3) := by decide +kernel
theorem dX8_look_4 : decode cX8_look 4 = .ok (.aload_n 0, 1) := by decide +kernel
theorem dX8_look_5 : decode cX8_look 5 = .ok (.getfield 27, 3) := by decide +kernel
theorem dX8_look_8 : decode cX8_look 8 = .ok (.aload_n 0, 1) := by decide +kernel
theorem dX8_look_9 : decode cX8_look 9 = .ok (.getfield 31, 3) := by decide +kernel
theorem dX8_look_12 : decode cX8_look 12 = .ok (.invokevirtual 49, 3) := by decide +kernel
theorem dX8_look_15 : decode cX8_look 15 = .ok (.aload_n 0, 1) := by decide +kernel
theorem dX8_look_16 : decode cX8_look 16 = .ok (.aload_n 0, 1) := by decide +kernel
theorem dX8_look_17 : decode cX8_look 17 = .ok (.getfield 12, 3) := by decide +kernel
theorem dX8_look_20 : decode cX8_look 20 = .ok (.iload_n 1, 1) := by decide +kernel
theorem dX8_look_21 : decode cX8_look 21 = .ok (.lload_n 2, 1) := by decide +kernel
theorem dX8_look_22 : decode cX8_look 22 = .ok (.invokevirtual 75, 3) := by decide +kernel
theorem dX8_look_25 : decode cX8_look 25 = .ok (.invokevirtual 57, 3) := by decide +kernel
theorem dX8_look_28 : decode cX8_look 28 = .ok (.ireturn, 1) := by decide +kernel
theorem dX8_take_0 : decode cX8_take 0 = .ok (.iload_n 1, 1) := by decide +kernel
theorem dX8_take_1 : decode cX8_take 1 = .ok (.iconst 0, 1) := by decide +kernel
theorem dX8_take_2 : decode cX8_take 2 = .ok (.iconst 1, 1) := by decide +kernel
theorem dX8_take_3 : decode cX8_take 3 = .ok (.invokestatic 78, 3) := by decide +kernel
theorem dX8_take_6 : decode cX8_take 6 = .ok (.ifCond .ne 5, 3) := by decide +kernel
theorem dX8_take_9 : decode cX8_take 9 = .ok (.iconst (-1), 1) := by decide +kernel
theorem dX8_take_10 : decode cX8_take 10 = .ok (.ireturn, 1) := by decide +kernel
theorem dX8_take_11 : decode cX8_take 11 = .ok (.aload_n 0, 1) := by decide +kernel
theorem dX8_take_12 : decode cX8_take 12 = .ok (.getfield 38, 3) := by decide +kernel
theorem dX8_take_15 : decode cX8_take 15 = .ok (.aload_n 0, 1) := by decide +kernel
theorem dX8_take_16 : decode cX8_take 16 = .ok (.getfield 27, 3) := by decide +kernel
theorem dX8_take_19 : decode cX8_take 19 = .ok (.aload_n 0, 1) := by decide +kernel
theorem dX8_take_20 : decode cX8_take 20 = .ok (.getfield 31, 3) := by decide +kernel
theorem dX8_take_23 : decode cX8_take 23 = .ok (.invokevirtual 49, 3) := by decide +kernel
theorem dX8_take_26 : decode cX8_take 26 = .ok (.aload_n 0, 1) := by decide +kernel
theorem dX8_take_27 : decode cX8_take 27 = .ok (.getfield 31, 3) := by decide +kernel
theorem dX8_take_30 : decode cX8_take 30 = .ok (.iload_n 1, 1) := by decide +kernel
theorem dX8_take_31 : decode cX8_take 31 = .ok (.aload_n 0, 1) := by decide +kernel
theorem dX8_take_32 : decode cX8_take 32 = .ok (.getfield 27, 3) := by decide +kernel
theorem dX8_take_35 : decode cX8_take 35 = .ok (.invokevirtual 82, 3) := by decide +kernel
theorem dX8_take_38 : decode cX8_take 38 = .ok (.aload_n 0, 1) := by decide +kernel
theorem dX8_take_39 : decode cX8_take 39 = .ok (.aload_n 0, 1) := by decide +kernel
theorem dX8_take_40 : decode cX8_take 40 = .ok (.getfield 27, 3) := by decide +kernel
theorem dX8_take_43 : decode cX8_take 43 = .ok (.getfield 86, 3) := by decide +kernel
theorem dX8_take_46 : decode cX8_take 46 = .ok (.invokevirtual 57, 3) := by decide +kernel
theorem dX8_take_49 : decode cX8_take 49 = .ok (.ireturn, 1) := by decide +kernel
theorem dX8_restore_0 : decode cX8_restore 0 = .ok (.iload_n 1, 1) := by decide +kernel
theorem dX8_restore_1 : decode cX8_restore 1 = .ok (.iconst 0, 1) := by decide +kernel
theorem dX8_restore_2 : decode cX8_restore 2 = .ok (.iconst 1, 1) := by decide +kernel
theorem dX8_restore_3 : decode cX8_restore 3 = .ok (.invokestatic 78, 3) := by decide +kernel
theorem dX8_restore_6 : decode cX8_restore 6 = .ok (.ifCond .ne 5, 3) := by decide +kernel
theorem dX8_restore_9 : decode cX8_restore 9 = .ok (.iconst (-1), 1) := by decide +kernel
theorem dX8_restore_10 : decode cX8_restore 10 = .ok (.ireturn, 1) := by decide +kernel
theorem dX8_restore_11 : decode cX8_restore 11 = .ok (.aload_n 0, 1) := by decide +kernel
theorem dX8_restore_12 : decode cX8_restore 12 = .ok (.getfield 31, 3) := by decide +kernel
theorem dX8_restore_15 : decode cX8_restore 15 = .ok (.iload_n 1, 1) := by decide +kernel
theorem dX8_restore_16 : decode cX8_restore 16 = .ok (.invokevirtual 92, 3) := by decide +kernel
theorem dX8_restore_19 : decode cX8_restore 19 = .ok (.ifCond .ne 6, 3) := by decide +kernel
theorem dX8_restore_22 : decode cX8_restore 22 = .ok (.bipush (-2), 2) := by decide +kernel
theorem dX8_restore_24 : decode cX8_restore 24 = .ok (.ireturn, 1) := by decide +kernel
theorem dX8_restore_25 : decode cX8_restore 25 = .ok (.aload_n 0, 1) := by decide +kernel
theorem dX8_restore_26 : decode cX8_restore 26 = .ok (.getfield 38, 3) := by decide +kernel
theorem dX8_restore_29 : decode cX8_restore 29 = .ok (.aload_n 0, 1) := by decide +kernel
theorem dX8_restore_30 : decode cX8_restore 30 = .ok (.getfield 27, 3) := by decide +kernel
theorem dX8_restore_33 : decode cX8_restore 33 = .ok (.aload_n 0, 1) := by decide +kernel
theorem dX8_restore_34 : decode cX8_restore 34 = .ok (.getfield 31, 3) := by decide +kernel
theorem dX8_restore_37 : decode cX8_restore 37 = .ok (.invokevirtual 49, 3) := by decide +kernel
theorem dX8_restore_40 : decode cX8_restore 40 = .ok (.aload_n 0, 1) := by decide +kernel
theorem dX8_restore_41 : decode cX8_restore 41 = .ok (.getfield 31, 3) := by decide +kernel
theorem dX8_restore_44 : decode cX8_restore 44 = .ok (.iload_n 1, 1) := by decide +kernel
theorem dX8_restore_45 : decode cX8_restore 45 = .ok (.aload_n 0, 1) := by decide +kernel
theorem dX8_restore_46 : decode cX8_restore 46 = .ok (.getfield 27, 3) := by decide +kernel
theorem dX8_restore_49 : decode cX8_restore 49 = .ok (.invokevirtual 96, 3) := by decide +kernel
theorem dX8_restore_52 : decode cX8_restore 52 = .ok (.aload_n 0, 1) := by decide +kernel
theorem dX8_restore_53 : decode cX8_restore 53 = .ok (.aload_n 0, 1) := by decide +kernel
theorem dX8_restore_54 : decode cX8_restore 54 = .ok (.getfield 27, 3) := by decide +kernel
theorem dX8_restore_57 : decode cX8_restore 57 = .ok (.getfield 86, 3) := by decide +kernel
theorem dX8_restore_60 : decode cX8_restore 60 = .ok (.invokevirtual 57, 3) := by decide +kernel
theorem dX8_restore_63 : decode cX8_restore 63 = .ok (.ireturn, 1) := by decide +kernel
theorem dX8_undo_0 : decode cX8_undo 0 = .ok (.aload_n 0, 1) := by decide +kernel
theorem dX8_undo_1 : decode cX8_undo 1 = .ok (.getfield 38, 3) := by decide +kernel
theorem dX8_undo_4 : decode cX8_undo 4 = .ok (.getfield 99, 3) := by decide +kernel
theorem dX8_undo_7 : decode cX8_undo 7 = .ok (.ifCond .ne 6, 3) := by decide +kernel
theorem dX8_undo_10 : decode cX8_undo 10 = .ok (.bipush (-2), 2) := by decide +kernel
theorem dX8_undo_12 : decode cX8_undo 12 = .ok (.ireturn, 1) := by decide +kernel
theorem dX8_undo_13 : decode cX8_undo 13 = .ok (.aload_n 0, 1) := by decide +kernel
theorem dX8_undo_14 : decode cX8_undo 14 = .ok (.getfield 38, 3) := by decide +kernel
theorem dX8_undo_17 : decode cX8_undo 17 = .ok (.aload_n 0, 1) := by decide +kernel
theorem dX8_undo_18 : decode cX8_undo 18 = .ok (.getfield 27, 3) := by decide +kernel
theorem dX8_undo_21 : decode cX8_undo 21 = .ok (.aload_n 0, 1) := by decide +kernel
theorem dX8_undo_22 : decode cX8_undo 22 = .ok (.getfield 31, 3) := by decide +kernel
theorem dX8_undo_25 : decode cX8_undo 25 = .ok (.invokevirtual 102, 3) := by decide +kernel
theorem dX8_undo_28 : decode cX8_undo 28 = .ok (.aload_n 0, 1) := by decide +kernel
theorem dX8_undo_29 : decode cX8_undo 29 = .ok (.getfield 38, 3) := by decide +kernel
theorem dX8_undo_32 : decode cX8_undo 32 = .ok (.getfield 99, 3) := by decide +kernel
theorem dX8_undo_35 : decode cX8_undo 35 = .ok (.ireturn, 1) := by decide +kernel
theorem dX8_append_0 : decode cX8_append 0 = .ok (.iload_n 1, 1) := by decide +kernel
theorem dX8_append_1 : decode cX8_append 1 = .ok (.iconst 1, 1) := by decide +kernel
theorem dX8_append_2 : decode cX8_append 2 = .ok (.sipush 255, 3) := by decide +kernel
theorem dX8_append_5 : decode cX8_append 5 = .ok (.invokestatic 78, 3) := by decide +kernel
theorem dX8_append_8 : decode cX8_append 8 = .ok (.ifCond .ne 5, 3) := by decide +kernel
theorem dX8_append_11 : decode cX8_append 11 = .ok (.iconst (-1), 1) := by decide +kernel
theorem dX8_append_12 : decode cX8_append 12 = .ok (.ireturn, 1) := by decide +kernel
theorem dX8_append_13 : decode cX8_append 13 = .ok (.aload_n 0, 1) := by decide +kernel
theorem dX8_append_14 : decode cX8_append 14 = .ok (.getfield 45, 3) := by decide +kernel
theorem dX8_append_17 : decode cX8_append 17 = .ok (.getfield 105, 3) := by decide +kernel
theorem dX8_append_20 : decode cX8_append 20 = .ok (.iload_n 1, 1) := by decide +kernel
theorem dX8_append_21 : decode cX8_append 21 = .ok (.invokevirtual 109, 3) := by decide +kernel
theorem dX8_append_24 : decode cX8_append 24 = .ok (.ireturn, 1) := by decide +kernel
theorem dX8_clearText_0 : decode cX8_clearText 0 = .ok (.aload_n 0, 1) := by decide +kernel
theorem dX8_clearText_1 : decode cX8_clearText 1 = .ok (.getfield 45, 3) := by decide +kernel
theorem dX8_clearText_4 : decode cX8_clearText 4 = .ok (.getfield 105, 3) := by decide +kernel
theorem dX8_clearText_7 : decode cX8_clearText 7 = .ok (.invokevirtual 114, 3) := by decide +kernel
theorem dX8_clearText_10 : decode cX8_clearText 10 = .ok (.ireturn, 1) := by decide +kernel
theorem dX8_run_0 : decode cX8_run 0 = .ok (.aload_n 0, 1) := by decide +kernel
theorem dX8_run_1 : decode cX8_run 1 = .ok (.getfield 38, 3) := by decide +kernel
theorem dX8_run_4 : decode cX8_run 4 = .ok (.aload_n 0, 1) := by decide +kernel
theorem dX8_run_5 : decode cX8_run 5 = .ok (.getfield 27, 3) := by decide +kernel
theorem dX8_run_8 : decode cX8_run 8 = .ok (.aload_n 0, 1) := by decide +kernel
theorem dX8_run_9 : decode cX8_run 9 = .ok (.getfield 31, 3) := by decide +kernel
theorem dX8_run_12 : decode cX8_run 12 = .ok (.invokevirtual 49, 3) := by decide +kernel
theorem dX8_run_15 : decode cX8_run 15 = .ok (.aload_n 0, 1) := by decide +kernel
theorem dX8_run_16 : decode cX8_run 16 = .ok (.getfield 45, 3) := by decide +kernel
theorem dX8_run_19 : decode cX8_run 19 = .ok (.aload_n 0, 1) := by decide +kernel
theorem dX8_run_20 : decode cX8_run 20 = .ok (.getfield 12, 3) := by decide +kernel
theorem dX8_run_23 : decode cX8_run 23 = .ok (.invokevirtual 117, 3) := by decide +kernel
theorem dX8_run_26 : decode cX8_run 26 = .ok (.istore_n 1, 1) := by decide +kernel
theorem dX8_run_27 : decode cX8_run 27 = .ok (.iload_n 1, 1) := by decide +kernel
theorem dX8_run_28 : decode cX8_run 28 = .ok (.ifCond .ge 30, 3) := by decide +kernel
theorem dX8_run_31 : decode cX8_run 31 = .ok (.aload_n 0, 1) := by decide +kernel
theorem dX8_run_32 : decode cX8_run 32 = .ok (.getfield 38, 3) := by decide +kernel
theorem dX8_run_35 : decode cX8_run 35 = .ok (.aload_n 0, 1) := by decide +kernel
theorem dX8_run_36 : decode cX8_run 36 = .ok (.getfield 27, 3) := by decide +kernel
theorem dX8_run_39 : decode cX8_run 39 = .ok (.aload_n 0, 1) := by decide +kernel
theorem dX8_run_40 : decode cX8_run 40 = .ok (.getfield 31, 3) := by decide +kernel
theorem dX8_run_43 : decode cX8_run 43 = .ok (.invokevirtual 121, 3) := by decide +kernel
theorem dX8_run_46 : decode cX8_run 46 = .ok (.sipush (-1000), 3) := by decide +kernel
theorem dX8_run_49 : decode cX8_run 49 = .ok (.aload_n 0, 1) := by decide +kernel
theorem dX8_run_50 : decode cX8_run 50 = .ok (.getfield 45, 3) := by decide +kernel
theorem dX8_run_53 : decode cX8_run 53 = .ok (.getfield 124, 3) := by decide +kernel
theorem dX8_run_56 : decode cX8_run 56 = .ok (.isub, 1) := by decide +kernel
theorem dX8_run_57 : decode cX8_run 57 = .ok (.ireturn, 1) := by decide +kernel
theorem dX8_run_58 : decode cX8_run 58 = .ok (.aload_n 0, 1) := by decide +kernel
theorem dX8_run_59 : decode cX8_run 59 = .ok (.getfield 45, 3) := by decide +kernel
theorem dX8_run_62 : decode cX8_run 62 = .ok (.getfield 105, 3) := by decide +kernel
theorem dX8_run_65 : decode cX8_run 65 = .ok (.invokevirtual 114, 3) := by decide +kernel
theorem dX8_run_68 : decode cX8_run 68 = .ok (.pop, 1) := by decide +kernel
theorem dX8_run_69 : decode cX8_run 69 = .ok (.aload_n 0, 1) := by decide +kernel
theorem dX8_run_70 : decode cX8_run 70 = .ok (.iload_n 1, 1) := by decide +kernel
theorem dX8_run_71 : decode cX8_run 71 = .ok (.invokevirtual 57, 3) := by decide +kernel
theorem dX8_run_74 : decode cX8_run 74 = .ok (.ireturn, 1) := by decide +kernel
theorem dX8_failure_0 : decode cX8_failure 0 = .ok (.iload_n 1, 1) := by decide +kernel
theorem dX8_failure_1 : decode cX8_failure 1 = .ok (.iconst 0, 1) := by decide +kernel
theorem dX8_failure_2 : decode cX8_failure 2 = .ok (.iconst 3, 1) := by decide +kernel
theorem dX8_failure_3 : decode cX8_failure 3 = .ok (.invokestatic 78, 3) := by decide +kernel
theorem dX8_failure_6 : decode cX8_failure 6 = .ok (.ifCond .ne 5, 3) := by decide +kernel
theorem dX8_failure_9 : decode cX8_failure 9 = .ok (.iconst (-1), 1) := by decide +kernel
theorem dX8_failure_10 : decode cX8_failure 10 = .ok (.ireturn, 1) := by decide +kernel
theorem dX8_failure_11 : decode cX8_failure 11 = .ok (.aload_n 0, 1) := by decide +kernel
theorem dX8_failure_12 : decode cX8_failure 12 = .ok (.getfield 45, 3) := by decide +kernel
theorem dX8_failure_15 : decode cX8_failure 15 = .ok (.getfield 127, 3) := by decide +kernel
theorem dX8_failure_18 : decode cX8_failure 18 = .ok (.ifCond .ne 6, 3) := by decide +kernel
theorem dX8_failure_21 : decode cX8_failure 21 = .ok (.bipush (-9), 2) := by decide +kernel
theorem dX8_failure_23 : decode cX8_failure 23 = .ok (.ireturn, 1) := by decide +kernel
theorem dX8_failure_24 : decode cX8_failure 24 = .ok (.iload_n 1, 1) := by decide +kernel
theorem dX8_failure_25 : decode cX8_failure 25 = .ok (.tableswitch 51 0 2 #[27, 35, 43], 27) := by decide +kernel
theorem dX8_failure_52 : decode cX8_failure 52 = .ok (.aload_n 0, 1) := by decide +kernel
theorem dX8_failure_53 : decode cX8_failure 53 = .ok (.getfield 45, 3) := by decide +kernel
theorem dX8_failure_56 : decode cX8_failure 56 = .ok (.getfield 127, 3) := by decide +kernel
theorem dX8_failure_59 : decode cX8_failure 59 = .ok (.ireturn, 1) := by decide +kernel
theorem dX8_failure_60 : decode cX8_failure 60 = .ok (.aload_n 0, 1) := by decide +kernel
theorem dX8_failure_61 : decode cX8_failure 61 = .ok (.getfield 45, 3) := by decide +kernel
theorem dX8_failure_64 : decode cX8_failure 64 = .ok (.getfield 124, 3) := by decide +kernel
theorem dX8_failure_67 : decode cX8_failure 67 = .ok (.ireturn, 1) := by decide +kernel
theorem dX8_failure_68 : decode cX8_failure 68 = .ok (.aload_n 0, 1) := by decide +kernel
theorem dX8_failure_69 : decode cX8_failure 69 = .ok (.getfield 45, 3) := by decide +kernel
theorem dX8_failure_72 : decode cX8_failure 72 = .ok (.getfield 130, 3) := by decide +kernel
theorem dX8_failure_75 : decode cX8_failure 75 = .ok (.ireturn, 1) := by decide +kernel
theorem dX8_failure_76 : decode cX8_failure 76 = .ok (.aload_n 0, 1) := by decide +kernel
theorem dX8_failure_77 : decode cX8_failure 77 = .ok (.getfield 45, 3) := by decide +kernel
theorem dX8_failure_80 : decode cX8_failure 80 = .ok (.getfield 133, 3) := by decide +kernel
theorem dX8_failure_83 : decode cX8_failure 83 = .ok (.ireturn, 1) := by decide +kernel
theorem dX8_count_0 : decode cX8_count 0 = .ok (.iload_n 1, 1) := by decide +kernel
theorem dX8_count_1 : decode cX8_count 1 = .ok (.bipush 11, 2) := by decide +kernel
theorem dX8_count_3 : decode cX8_count 3 = .ok (.if_icmp .lt 22, 3) := by decide +kernel
theorem dX8_count_6 : decode cX8_count 6 = .ok (.iload_n 1, 1) := by decide +kernel
theorem dX8_count_7 : decode cX8_count 7 = .ok (.bipush 15, 2) := by decide +kernel
theorem dX8_count_9 : decode cX8_count 9 = .ok (.if_icmp .ge 16, 3) := by decide +kernel
theorem dX8_count_12 : decode cX8_count 12 = .ok (.aload_n 0, 1) := by decide +kernel
theorem dX8_count_13 : decode cX8_count 13 = .ok (.getfield 27, 3) := by decide +kernel
theorem dX8_count_16 : decode cX8_count 16 = .ok (.getfield 136, 3) := by decide +kernel
theorem dX8_count_19 : decode cX8_count 19 = .ok (.iload_n 1, 1) := by decide +kernel
theorem dX8_count_20 : decode cX8_count 20 = .ok (.bipush 11, 2) := by decide +kernel
theorem dX8_count_22 : decode cX8_count 22 = .ok (.isub, 1) := by decide +kernel
theorem dX8_count_23 : decode cX8_count 23 = .ok (.iaload, 1) := by decide +kernel
theorem dX8_count_24 : decode cX8_count 24 = .ok (.ireturn, 1) := by decide +kernel
theorem dX8_count_25 : decode cX8_count 25 = .ok (.aload_n 0, 1) := by decide +kernel
theorem dX8_count_26 : decode cX8_count 26 = .ok (.getfield 20, 3) := by decide +kernel
theorem dX8_count_29 : decode cX8_count 29 = .ok (.invokevirtual 140, 3) := by decide +kernel
theorem dX8_count_32 : decode cX8_count 32 = .ok (.iload_n 1, 1) := by decide +kernel
theorem dX8_count_33 : decode cX8_count 33 = .ok (.tableswitch 152 0 10 #[59, 67, 76, 85, 93, 101, 109, 117, 125, 133, 141], 59) := by decide +kernel
theorem dX8_count_92 : decode cX8_count 92 = .ok (.aload_n 0, 1) := by decide +kernel
theorem dX8_count_93 : decode cX8_count 93 = .ok (.getfield 27, 3) := by decide +kernel
theorem dX8_count_96 : decode cX8_count 96 = .ok (.getfield 86, 3) := by decide +kernel
theorem dX8_count_99 : decode cX8_count 99 = .ok (.ireturn, 1) := by decide +kernel
theorem dX8_count_100 : decode cX8_count 100 = .ok (.aload_n 0, 1) := by decide +kernel
theorem dX8_count_101 : decode cX8_count 101 = .ok (.getfield 27, 3) := by decide +kernel
theorem dX8_count_104 : decode cX8_count 104 = .ok (.iconst 2, 1) := by decide +kernel
theorem dX8_count_105 : decode cX8_count 105 = .ok (.invokevirtual 143, 3) := by decide +kernel
theorem dX8_count_108 : decode cX8_count 108 = .ok (.ireturn, 1) := by decide +kernel
theorem dX8_count_109 : decode cX8_count 109 = .ok (.aload_n 0, 1) := by decide +kernel
theorem dX8_count_110 : decode cX8_count 110 = .ok (.getfield 27, 3) := by decide +kernel
theorem dX8_count_113 : decode cX8_count 113 = .ok (.iconst 1, 1) := by decide +kernel
theorem dX8_count_114 : decode cX8_count 114 = .ok (.invokevirtual 143, 3) := by decide +kernel
theorem dX8_count_117 : decode cX8_count 117 = .ok (.ireturn, 1) := by decide +kernel
theorem dX8_count_118 : decode cX8_count 118 = .ok (.aload_n 0, 1) := by decide +kernel
theorem dX8_count_119 : decode cX8_count 119 = .ok (.getfield 20, 3) := by decide +kernel
theorem dX8_count_122 : decode cX8_count 122 = .ok (.invokevirtual 146, 3) := by decide +kernel
theorem dX8_count_125 : decode cX8_count 125 = .ok (.ireturn, 1) := by decide +kernel
theorem dX8_count_126 : decode cX8_count 126 = .ok (.aload_n 0, 1) := by decide +kernel
theorem dX8_count_127 : decode cX8_count 127 = .ok (.getfield 27, 3) := by decide +kernel
theorem dX8_count_130 : decode cX8_count 130 = .ok (.getfield 149, 3) := by decide +kernel
theorem dX8_count_133 : decode cX8_count 133 = .ok (.ireturn, 1) := by decide +kernel
theorem dX8_count_134 : decode cX8_count 134 = .ok (.aload_n 0, 1) := by decide +kernel
theorem dX8_count_135 : decode cX8_count 135 = .ok (.getfield 20, 3) := by decide +kernel
theorem dX8_count_138 : decode cX8_count 138 = .ok (.invokevirtual 152, 3) := by decide +kernel
theorem dX8_count_141 : decode cX8_count 141 = .ok (.ireturn, 1) := by decide +kernel
theorem dX8_count_142 : decode cX8_count 142 = .ok (.aload_n 0, 1) := by decide +kernel
theorem dX8_count_143 : decode cX8_count 143 = .ok (.getfield 20, 3) := by decide +kernel
theorem dX8_count_146 : decode cX8_count 146 = .ok (.invokevirtual 155, 3) := by decide +kernel
theorem dX8_count_149 : decode cX8_count 149 = .ok (.ireturn, 1) := by decide +kernel
theorem dX8_count_150 : decode cX8_count 150 = .ok (.aload_n 0, 1) := by decide +kernel
theorem dX8_count_151 : decode cX8_count 151 = .ok (.getfield 20, 3) := by decide +kernel
theorem dX8_count_154 : decode cX8_count 154 = .ok (.invokevirtual 158, 3) := by decide +kernel
theorem dX8_count_157 : decode cX8_count 157 = .ok (.ireturn, 1) := by decide +kernel
theorem dX8_count_158 : decode cX8_count 158 = .ok (.aload_n 0, 1) := by decide +kernel
theorem dX8_count_159 : decode cX8_count 159 = .ok (.getfield 31, 3) := by decide +kernel
theorem dX8_count_162 : decode cX8_count 162 = .ok (.invokevirtual 161, 3) := by decide +kernel
theorem dX8_count_165 : decode cX8_count 165 = .ok (.ireturn, 1) := by decide +kernel
theorem dX8_count_166 : decode cX8_count 166 = .ok (.aload_n 0, 1) := by decide +kernel
theorem dX8_count_167 : decode cX8_count 167 = .ok (.getfield 38, 3) := by decide +kernel
theorem dX8_count_170 : decode cX8_count 170 = .ok (.getfield 99, 3) := by decide +kernel
theorem dX8_count_173 : decode cX8_count 173 = .ok (.ireturn, 1) := by decide +kernel
theorem dX8_count_174 : decode cX8_count 174 = .ok (.aload_n 0, 1) := by decide +kernel
theorem dX8_count_175 : decode cX8_count 175 = .ok (.getfield 45, 3) := by decide +kernel
theorem dX8_count_178 : decode cX8_count 178 = .ok (.getfield 105, 3) := by decide +kernel
theorem dX8_count_181 : decode cX8_count 181 = .ok (.getfield 164, 3) := by decide +kernel
theorem dX8_count_184 : decode cX8_count 184 = .ok (.ireturn, 1) := by decide +kernel
theorem dX8_count_185 : decode cX8_count 185 = .ok (.iconst (-1), 1) := by decide +kernel
theorem dX8_count_186 : decode cX8_count 186 = .ok (.ireturn, 1) := by decide +kernel
theorem dX8_card_0 : decode cX8_card 0 = .ok (.aload_n 0, 1) := by decide +kernel
theorem dX8_card_1 : decode cX8_card 1 = .ok (.getfield 27, 3) := by decide +kernel
theorem dX8_card_4 : decode cX8_card 4 = .ok (.iload_n 1, 1) := by decide +kernel
theorem dX8_card_5 : decode cX8_card 5 = .ok (.invokevirtual 167, 3) := by decide +kernel
theorem dX8_card_8 : decode cX8_card 8 = .ok (.ifCond .ne 5, 3) := by decide +kernel
theorem dX8_card_11 : decode cX8_card 11 = .ok (.iconst (-1), 1) := by decide +kernel
theorem dX8_card_12 : decode cX8_card 12 = .ok (.ireturn, 1) := by decide +kernel
theorem dX8_card_13 : decode cX8_card 13 = .ok (.aload_n 0, 1) := by decide +kernel
theorem dX8_card_14 : decode cX8_card 14 = .ok (.getfield 20, 3) := by decide +kernel
theorem dX8_card_17 : decode cX8_card 17 = .ok (.invokevirtual 140, 3) := by decide +kernel
theorem dX8_card_20 : decode cX8_card 20 = .ok (.iload_n 2, 1) := by decide +kernel
theorem dX8_card_21 : decode cX8_card 21 = .ok (.tableswitch 114 0 5 #[39, 49, 67, 77, 87, 97], 39) := by decide +kernel
theorem dX8_card_60 : decode cX8_card 60 = .ok (.aload_n 0, 1) := by decide +kernel
theorem dX8_card_61 : decode cX8_card 61 = .ok (.getfield 27, 3) := by decide +kernel
theorem dX8_card_64 : decode cX8_card 64 = .ok (.getfield 170, 3) := by decide +kernel
theorem dX8_card_67 : decode cX8_card 67 = .ok (.iload_n 1, 1) := by decide +kernel
theorem dX8_card_68 : decode cX8_card 68 = .ok (.iaload, 1) := by decide +kernel
theorem dX8_card_69 : decode cX8_card 69 = .ok (.ireturn, 1) := by decide +kernel
theorem dX8_card_70 : decode cX8_card 70 = .ok (.aload_n 0, 1) := by decide +kernel
theorem dX8_card_71 : decode cX8_card 71 = .ok (.getfield 27, 3) := by decide +kernel
theorem dX8_card_74 : decode cX8_card 74 = .ok (.aload_n 0, 1) := by decide +kernel
theorem dX8_card_75 : decode cX8_card 75 = .ok (.getfield 27, 3) := by decide +kernel
theorem dX8_card_78 : decode cX8_card 78 = .ok (.getfield 170, 3) := by decide +kernel
theorem dX8_card_81 : decode cX8_card 81 = .ok (.iload_n 1, 1) := by decide +kernel
theorem dX8_card_82 : decode cX8_card 82 = .ok (.iaload, 1) := by decide +kernel
theorem dX8_card_83 : decode cX8_card 83 = .ok (.iload_n 1, 1) := by decide +kernel
theorem dX8_card_84 : decode cX8_card 84 = .ok (.invokevirtual 173, 3) := by decide +kernel
theorem dX8_card_87 : decode cX8_card 87 = .ok (.ireturn, 1) := by decide +kernel
theorem dX8_card_88 : decode cX8_card 88 = .ok (.aload_n 0, 1) := by decide +kernel
theorem dX8_card_89 : decode cX8_card 89 = .ok (.getfield 27, 3) := by decide +kernel
theorem dX8_card_92 : decode cX8_card 92 = .ok (.getfield 176, 3) := by decide +kernel
theorem dX8_card_95 : decode cX8_card 95 = .ok (.iload_n 1, 1) := by decide +kernel
theorem dX8_card_96 : decode cX8_card 96 = .ok (.iaload, 1) := by decide +kernel
theorem dX8_card_97 : decode cX8_card 97 = .ok (.ireturn, 1) := by decide +kernel
theorem dX8_card_98 : decode cX8_card 98 = .ok (.aload_n 0, 1) := by decide +kernel
theorem dX8_card_99 : decode cX8_card 99 = .ok (.getfield 27, 3) := by decide +kernel
theorem dX8_card_102 : decode cX8_card 102 = .ok (.getfield 179, 3) := by decide +kernel
theorem dX8_card_105 : decode cX8_card 105 = .ok (.iload_n 1, 1) := by decide +kernel
theorem dX8_card_106 : decode cX8_card 106 = .ok (.iaload, 1) := by decide +kernel
theorem dX8_card_107 : decode cX8_card 107 = .ok (.ireturn, 1) := by decide +kernel
theorem dX8_card_108 : decode cX8_card 108 = .ok (.aload_n 0, 1) := by decide +kernel
theorem dX8_card_109 : decode cX8_card 109 = .ok (.getfield 20, 3) := by decide +kernel
theorem dX8_card_112 : decode cX8_card 112 = .ok (.getfield 182, 3) := by decide +kernel
theorem dX8_card_115 : decode cX8_card 115 = .ok (.iload_n 1, 1) := by decide +kernel
theorem dX8_card_116 : decode cX8_card 116 = .ok (.iaload, 1) := by decide +kernel
theorem dX8_card_117 : decode cX8_card 117 = .ok (.ireturn, 1) := by decide +kernel
theorem dX8_card_118 : decode cX8_card 118 = .ok (.aload_n 0, 1) := by decide +kernel
theorem dX8_card_119 : decode cX8_card 119 = .ok (.getfield 20, 3) := by decide +kernel
theorem dX8_card_122 : decode cX8_card 122 = .ok (.iload_n 1, 1) := by decide +kernel
theorem dX8_card_123 : decode cX8_card 123 = .ok (.invokevirtual 185, 3) := by decide +kernel
theorem dX8_card_126 : decode cX8_card 126 = .ok (.ifCond .eq 7, 3) := by decide +kernel
theorem dX8_card_129 : decode cX8_card 129 = .ok (.iconst 1, 1) := by decide +kernel
theorem dX8_card_130 : decode cX8_card 130 = .ok (.goto 4, 3) := by decide +kernel
theorem dX8_card_133 : decode cX8_card 133 = .ok (.iconst 0, 1) := by decide +kernel
theorem dX8_card_134 : decode cX8_card 134 = .ok (.ireturn, 1) := by decide +kernel
theorem dX8_card_135 : decode cX8_card 135 = .ok (.iconst (-1), 1) := by decide +kernel
theorem dX8_card_136 : decode cX8_card 136 = .ok (.ireturn, 1) := by decide +kernel
theorem dX8_place_0 : decode cX8_place 0 = .ok (.aload_n 0, 1) := by decide +kernel
theorem dX8_place_1 : decode cX8_place 1 = .ok (.getfield 27, 3) := by decide +kernel
theorem dX8_place_4 : decode cX8_place 4 = .ok (.iload_n 1, 1) := by decide +kernel
theorem dX8_place_5 : decode cX8_place 5 = .ok (.invokevirtual 167, 3) := by decide +kernel
theorem dX8_place_8 : decode cX8_place 8 = .ok (.ifCond .eq 13, 3) := by decide +kernel
theorem dX8_place_11 : decode cX8_place 11 = .ok (.iload_n 2, 1) := by decide +kernel
theorem dX8_place_12 : decode cX8_place 12 = .ok (.iconst 0, 1) := by decide +kernel
theorem dX8_place_13 : decode cX8_place 13 = .ok (.bipush 11, 2) := by decide +kernel
theorem dX8_place_15 : decode cX8_place 15 = .ok (.invokestatic 78, 3) := by decide +kernel
theorem dX8_place_18 : decode cX8_place 18 = .ok (.ifCond .ne 5, 3) := by decide +kernel
theorem dX8_place_21 : decode cX8_place 21 = .ok (.iconst (-1), 1) := by decide +kernel
theorem dX8_place_22 : decode cX8_place 22 = .ok (.ireturn, 1) := by decide +kernel
theorem dX8_place_23 : decode cX8_place 23 = .ok (.aload_n 0, 1) := by decide +kernel
theorem dX8_place_24 : decode cX8_place 24 = .ok (.getfield 20, 3) := by decide +kernel
theorem dX8_place_27 : decode cX8_place 27 = .ok (.invokevirtual 140, 3) := by decide +kernel
theorem dX8_place_30 : decode cX8_place 30 = .ok (.iload_n 1, 1) := by decide +kernel
theorem dX8_place_31 : decode cX8_place 31 = .ok (.bipush 12, 2) := by decide +kernel
theorem dX8_place_33 : decode cX8_place 33 = .ok (.imul, 1) := by decide +kernel
theorem dX8_place_34 : decode cX8_place 34 = .ok (.iload_n 2, 1) := by decide +kernel
theorem dX8_place_35 : decode cX8_place 35 = .ok (.iadd, 1) := by decide +kernel
theorem dX8_place_36 : decode cX8_place 36 = .ok (.istore 4, 2) := by decide +kernel
theorem dX8_place_38 : decode cX8_place 38 = .ok (.iload_n 3, 1) := by decide +kernel
theorem dX8_place_39 : decode cX8_place 39 = .ok (.tableswitch 106 0 4 #[33, 44, 55, 84, 95], 33) := by decide +kernel
theorem dX8_place_72 : decode cX8_place 72 = .ok (.aload_n 0, 1) := by decide +kernel
theorem dX8_place_73 : decode cX8_place 73 = .ok (.getfield 20, 3) := by decide +kernel
theorem dX8_place_76 : decode cX8_place 76 = .ok (.getfield 188, 3) := by decide +kernel
theorem dX8_place_79 : decode cX8_place 79 = .ok (.iload 4, 2) := by decide +kernel
theorem dX8_place_81 : decode cX8_place 81 = .ok (.iaload, 1) := by decide +kernel
theorem dX8_place_82 : decode cX8_place 82 = .ok (.ireturn, 1) := by decide +kernel
theorem dX8_place_83 : decode cX8_place 83 = .ok (.aload_n 0, 1) := by decide +kernel
theorem dX8_place_84 : decode cX8_place 84 = .ok (.getfield 20, 3) := by decide +kernel
theorem dX8_place_87 : decode cX8_place 87 = .ok (.getfield 191, 3) := by decide +kernel
theorem dX8_place_90 : decode cX8_place 90 = .ok (.iload 4, 2) := by decide +kernel
theorem dX8_place_92 : decode cX8_place 92 = .ok (.iaload, 1) := by decide +kernel
theorem dX8_place_93 : decode cX8_place 93 = .ok (.ireturn, 1) := by decide +kernel
theorem dX8_place_94 : decode cX8_place 94 = .ok (.aload_n 0, 1) := by decide +kernel
theorem dX8_place_95 : decode cX8_place 95 = .ok (.getfield 27, 3) := by decide +kernel
theorem dX8_place_98 : decode cX8_place 98 = .ok (.getfield 179, 3) := by decide +kernel
theorem dX8_place_101 : decode cX8_place 101 = .ok (.iload_n 1, 1) := by decide +kernel
theorem dX8_place_102 : decode cX8_place 102 = .ok (.iaload, 1) := by decide +kernel
theorem dX8_place_103 : decode cX8_place 103 = .ok (.iconst 2, 1) := by decide +kernel
theorem dX8_place_104 : decode cX8_place 104 = .ok (.if_icmp .ne 16, 3) := by decide +kernel
theorem dX8_place_107 : decode cX8_place 107 = .ok (.aload_n 0, 1) := by decide +kernel
theorem dX8_place_108 : decode cX8_place 108 = .ok (.getfield 20, 3) := by decide +kernel
theorem dX8_place_111 : decode cX8_place 111 = .ok (.getfield 194, 3) := by decide +kernel
theorem dX8_place_114 : decode cX8_place 114 = .ok (.iload 4, 2) := by decide +kernel
theorem dX8_place_116 : decode cX8_place 116 = .ok (.iaload, 1) := by decide +kernel
theorem dX8_place_117 : decode cX8_place 117 = .ok (.goto 5, 3) := by decide +kernel
theorem dX8_place_120 : decode cX8_place 120 = .ok (.bipush (-9), 2) := by decide +kernel
theorem dX8_place_122 : decode cX8_place 122 = .ok (.ireturn, 1) := by decide +kernel
theorem dX8_place_123 : decode cX8_place 123 = .ok (.aload_n 0, 1) := by decide +kernel
theorem dX8_place_124 : decode cX8_place 124 = .ok (.getfield 20, 3) := by decide +kernel
theorem dX8_place_127 : decode cX8_place 127 = .ok (.getfield 197, 3) := by decide +kernel
theorem dX8_place_130 : decode cX8_place 130 = .ok (.iload 4, 2) := by decide +kernel
theorem dX8_place_132 : decode cX8_place 132 = .ok (.iaload, 1) := by decide +kernel
theorem dX8_place_133 : decode cX8_place 133 = .ok (.ireturn, 1) := by decide +kernel
theorem dX8_place_134 : decode cX8_place 134 = .ok (.aload_n 0, 1) := by decide +kernel
theorem dX8_place_135 : decode cX8_place 135 = .ok (.getfield 20, 3) := by decide +kernel
theorem dX8_place_138 : decode cX8_place 138 = .ok (.getfield 200, 3) := by decide +kernel
theorem dX8_place_141 : decode cX8_place 141 = .ok (.iload 4, 2) := by decide +kernel
theorem dX8_place_143 : decode cX8_place 143 = .ok (.iaload, 1) := by decide +kernel
theorem dX8_place_144 : decode cX8_place 144 = .ok (.ireturn, 1) := by decide +kernel
theorem dX8_place_145 : decode cX8_place 145 = .ok (.iconst (-1), 1) := by decide +kernel
theorem dX8_place_146 : decode cX8_place 146 = .ok (.ireturn, 1) := by decide +kernel
theorem dX8_runAt_0 : decode cX8_runAt 0 = .ok (.aload_n 0, 1) := by decide +kernel
theorem dX8_runAt_1 : decode cX8_runAt 1 = .ok (.getfield 27, 3) := by decide +kernel
theorem dX8_runAt_4 : decode cX8_runAt 4 = .ok (.iload_n 1, 1) := by decide +kernel
theorem dX8_runAt_5 : decode cX8_runAt 5 = .ok (.invokevirtual 167, 3) := by decide +kernel
theorem dX8_runAt_8 : decode cX8_runAt 8 = .ok (.ifCond .eq 22, 3) := by decide +kernel
theorem dX8_runAt_11 : decode cX8_runAt 11 = .ok (.iload_n 2, 1) := by decide +kernel
theorem dX8_runAt_12 : decode cX8_runAt 12 = .ok (.iconst 0, 1) := by decide +kernel
theorem dX8_runAt_13 : decode cX8_runAt 13 = .ok (.bipush 11, 2) := by decide +kernel
theorem dX8_runAt_15 : decode cX8_runAt 15 = .ok (.invokestatic 78, 3) := by decide +kernel
theorem dX8_runAt_18 : decode cX8_runAt 18 = .ok (.ifCond .eq 12, 3) := by decide +kernel
theorem dX8_runAt_21 : decode cX8_runAt 21 = .ok (.iload_n 3, 1) := by decide +kernel
theorem dX8_runAt_22 : decode cX8_runAt 22 = .ok (.iconst 0, 1) := by decide +kernel
theorem dX8_runAt_23 : decode cX8_runAt 23 = .ok (.iconst 2, 1) := by decide +kernel
theorem dX8_runAt_24 : decode cX8_runAt 24 = .ok (.invokestatic 78, 3) := by decide +kernel
theorem dX8_runAt_27 : decode cX8_runAt 27 = .ok (.ifCond .ne 5, 3) := by decide +kernel
theorem dX8_runAt_30 : decode cX8_runAt 30 = .ok (.iconst (-1), 1) := by decide +kernel
theorem dX8_runAt_31 : decode cX8_runAt 31 = .ok (.ireturn, 1) := by decide +kernel
theorem dX8_runAt_32 : decode cX8_runAt 32 = .ok (.aload_n 0, 1) := by decide +kernel
theorem dX8_runAt_33 : decode cX8_runAt 33 = .ok (.getfield 20, 3) := by decide +kernel
theorem dX8_runAt_36 : decode cX8_runAt 36 = .ok (.invokevirtual 140, 3) := by decide +kernel
theorem dX8_runAt_39 : decode cX8_runAt 39 = .ok (.iload_n 1, 1) := by decide +kernel
theorem dX8_runAt_40 : decode cX8_runAt 40 = .ok (.bipush 12, 2) := by decide +kernel
theorem dX8_runAt_42 : decode cX8_runAt 42 = .ok (.imul, 1) := by decide +kernel
theorem dX8_runAt_43 : decode cX8_runAt 43 = .ok (.iload_n 2, 1) := by decide +kernel
theorem dX8_runAt_44 : decode cX8_runAt 44 = .ok (.iadd, 1) := by decide +kernel
theorem dX8_runAt_45 : decode cX8_runAt 45 = .ok (.istore 4, 2) := by decide +kernel
theorem dX8_runAt_47 : decode cX8_runAt 47 = .ok (.aload_n 0, 1) := by decide +kernel
theorem dX8_runAt_48 : decode cX8_runAt 48 = .ok (.getfield 20, 3) := by decide +kernel
theorem dX8_runAt_51 : decode cX8_runAt 51 = .ok (.getfield 203, 3) := by decide +kernel
theorem dX8_runAt_54 : decode cX8_runAt 54 = .ok (.iload 4, 2) := by decide +kernel
theorem dX8_runAt_56 : decode cX8_runAt 56 = .ok (.iaload, 1) := by decide +kernel
theorem dX8_runAt_57 : decode cX8_runAt 57 = .ok (.ifCond .ne 6, 3) := by decide +kernel
theorem dX8_runAt_60 : decode cX8_runAt 60 = .ok (.bipush (-9), 2) := by decide +kernel
theorem dX8_runAt_62 : decode cX8_runAt 62 = .ok (.ireturn, 1) := by decide +kernel
theorem dX8_runAt_63 : decode cX8_runAt 63 = .ok (.iload_n 3, 1) := by decide +kernel
theorem dX8_runAt_64 : decode cX8_runAt 64 = .ok (.lookupswitch 50 #[(0, 28), (1, 39)], 28) := by decide +kernel
theorem dX8_runAt_92 : decode cX8_runAt 92 = .ok (.aload_n 0, 1) := by decide +kernel
theorem dX8_runAt_93 : decode cX8_runAt 93 = .ok (.getfield 20, 3) := by decide +kernel
theorem dX8_runAt_96 : decode cX8_runAt 96 = .ok (.getfield 206, 3) := by decide +kernel
theorem dX8_runAt_99 : decode cX8_runAt 99 = .ok (.iload 4, 2) := by decide +kernel
theorem dX8_runAt_101 : decode cX8_runAt 101 = .ok (.iaload, 1) := by decide +kernel
theorem dX8_runAt_102 : decode cX8_runAt 102 = .ok (.ireturn, 1) := by decide +kernel
theorem dX8_runAt_103 : decode cX8_runAt 103 = .ok (.aload_n 0, 1) := by decide +kernel
theorem dX8_runAt_104 : decode cX8_runAt 104 = .ok (.getfield 20, 3) := by decide +kernel
theorem dX8_runAt_107 : decode cX8_runAt 107 = .ok (.getfield 209, 3) := by decide +kernel
theorem dX8_runAt_110 : decode cX8_runAt 110 = .ok (.iload 4, 2) := by decide +kernel
theorem dX8_runAt_112 : decode cX8_runAt 112 = .ok (.iaload, 1) := by decide +kernel
theorem dX8_runAt_113 : decode cX8_runAt 113 = .ok (.ireturn, 1) := by decide +kernel
theorem dX8_runAt_114 : decode cX8_runAt 114 = .ok (.aload_n 0, 1) := by decide +kernel
theorem dX8_runAt_115 : decode cX8_runAt 115 = .ok (.getfield 20, 3) := by decide +kernel
theorem dX8_runAt_118 : decode cX8_runAt 118 = .ok (.getfield 203, 3) := by decide +kernel
theorem dX8_runAt_121 : decode cX8_runAt 121 = .ok (.iload 4, 2) := by decide +kernel
theorem dX8_runAt_123 : decode cX8_runAt 123 = .ok (.iaload, 1) := by decide +kernel
theorem dX8_runAt_124 : decode cX8_runAt 124 = .ok (.ireturn, 1) := by decide +kernel
theorem dX8_outcome_0 : decode cX8_outcome 0 = .ok (.aload_n 0, 1) := by decide +kernel
theorem dX8_outcome_1 : decode cX8_outcome 1 = .ok (.getfield 27, 3) := by decide +kernel
theorem dX8_outcome_4 : decode cX8_outcome 4 = .ok (.iload_n 1, 1) := by decide +kernel
theorem dX8_outcome_5 : decode cX8_outcome 5 = .ok (.invokevirtual 167, 3) := by decide +kernel
theorem dX8_outcome_8 : decode cX8_outcome 8 = .ok (.ifCond .eq 12, 3) := by decide +kernel
theorem dX8_outcome_11 : decode cX8_outcome 11 = .ok (.iload_n 2, 1) := by decide +kernel
theorem dX8_outcome_12 : decode cX8_outcome 12 = .ok (.iconst 0, 1) := by decide +kernel
theorem dX8_outcome_13 : decode cX8_outcome 13 = .ok (.iconst 3, 1) := by decide +kernel
theorem dX8_outcome_14 : decode cX8_outcome 14 = .ok (.invokestatic 78, 3) := by decide +kernel
theorem dX8_outcome_17 : decode cX8_outcome 17 = .ok (.ifCond .ne 5, 3) := by decide +kernel
theorem dX8_outcome_20 : decode cX8_outcome 20 = .ok (.iconst (-1), 1) := by decide +kernel
theorem dX8_outcome_21 : decode cX8_outcome 21 = .ok (.ireturn, 1) := by decide +kernel
theorem dX8_outcome_22 : decode cX8_outcome 22 = .ok (.iload_n 3, 1) := by decide +kernel
theorem dX8_outcome_23 : decode cX8_outcome 23 = .ok (.iconst (-1), 1) := by decide +kernel
theorem dX8_outcome_24 : decode cX8_outcome 24 = .ok (.if_icmp .eq 16, 3) := by decide +kernel
theorem dX8_outcome_27 : decode cX8_outcome 27 = .ok (.aload_n 0, 1) := by decide +kernel
theorem dX8_outcome_28 : decode cX8_outcome 28 = .ok (.getfield 27, 3) := by decide +kernel
theorem dX8_outcome_31 : decode cX8_outcome 31 = .ok (.iload_n 3, 1) := by decide +kernel
theorem dX8_outcome_32 : decode cX8_outcome 32 = .ok (.invokevirtual 212, 3) := by decide +kernel
theorem dX8_outcome_35 : decode cX8_outcome 35 = .ok (.ifCond .ne 5, 3) := by decide +kernel
theorem dX8_outcome_38 : decode cX8_outcome 38 = .ok (.iconst (-1), 1) := by decide +kernel
theorem dX8_outcome_39 : decode cX8_outcome 39 = .ok (.ireturn, 1) := by decide +kernel
theorem dX8_outcome_40 : decode cX8_outcome 40 = .ok (.iload_n 1, 1) := by decide +kernel
theorem dX8_outcome_41 : decode cX8_outcome 41 = .ok (.aload_n 0, 1) := by decide +kernel
theorem dX8_outcome_42 : decode cX8_outcome 42 = .ok (.getfield 27, 3) := by decide +kernel
theorem dX8_outcome_45 : decode cX8_outcome 45 = .ok (.iload_n 3, 1) := by decide +kernel
theorem dX8_outcome_46 : decode cX8_outcome 46 = .ok (.invokevirtual 215, 3) := by decide +kernel
theorem dX8_outcome_49 : decode cX8_outcome 49 = .ok (.if_icmp .lt 6, 3) := by decide +kernel
theorem dX8_outcome_52 : decode cX8_outcome 52 = .ok (.bipush (-9), 2) := by decide +kernel
theorem dX8_outcome_54 : decode cX8_outcome 54 = .ok (.ireturn, 1) := by decide +kernel
theorem dX8_outcome_55 : decode cX8_outcome 55 = .ok (.aload_n 0, 1) := by decide +kernel
theorem dX8_outcome_56 : decode cX8_outcome 56 = .ok (.getfield 20, 3) := by decide +kernel
theorem dX8_outcome_59 : decode cX8_outcome 59 = .ok (.invokevirtual 140, 3) := by decide +kernel
theorem dX8_outcome_62 : decode cX8_outcome 62 = .ok (.aload_n 0, 1) := by decide +kernel
theorem dX8_outcome_63 : decode cX8_outcome 63 = .ok (.getfield 20, 3) := by decide +kernel
theorem dX8_outcome_66 : decode cX8_outcome 66 = .ok (.iload_n 3, 1) := by decide +kernel
theorem dX8_outcome_67 : decode cX8_outcome 67 = .ok (.iload_n 1, 1) := by decide +kernel
theorem dX8_outcome_68 : decode cX8_outcome 68 = .ok (.invokevirtual 218, 3) := by decide +kernel
theorem dX8_outcome_71 : decode cX8_outcome 71 = .ok (.iload_n 2, 1) := by decide +kernel
theorem dX8_outcome_72 : decode cX8_outcome 72 = .ok (.invokestatic 221, 3) := by decide +kernel
theorem dX8_outcome_75 : decode cX8_outcome 75 = .ok (.ireturn, 1) := by decide +kernel
theorem dX8_tally_0 : decode cX8_tally 0 = .ok (.iload_n 1, 1) := by decide +kernel
theorem dX8_tally_1 : decode cX8_tally 1 = .ok (.iconst 0, 1) := by decide +kernel
theorem dX8_tally_2 : decode cX8_tally 2 = .ok (.iconst 3, 1) := by decide +kernel
theorem dX8_tally_3 : decode cX8_tally 3 = .ok (.invokestatic 78, 3) := by decide +kernel
theorem dX8_tally_6 : decode cX8_tally 6 = .ok (.ifCond .eq 12, 3) := by decide +kernel
theorem dX8_tally_9 : decode cX8_tally 9 = .ok (.iload_n 2, 1) := by decide +kernel
theorem dX8_tally_10 : decode cX8_tally 10 = .ok (.iconst 0, 1) := by decide +kernel
theorem dX8_tally_11 : decode cX8_tally 11 = .ok (.iconst 5, 1) := by decide +kernel
theorem dX8_tally_12 : decode cX8_tally 12 = .ok (.invokestatic 78, 3) := by decide +kernel
theorem dX8_tally_15 : decode cX8_tally 15 = .ok (.ifCond .ne 5, 3) := by decide +kernel
theorem dX8_tally_18 : decode cX8_tally 18 = .ok (.iconst (-1), 1) := by decide +kernel
theorem dX8_tally_19 : decode cX8_tally 19 = .ok (.ireturn, 1) := by decide +kernel
theorem dX8_tally_20 : decode cX8_tally 20 = .ok (.iload_n 3, 1) := by decide +kernel
theorem dX8_tally_21 : decode cX8_tally 21 = .ok (.iconst (-1), 1) := by decide +kernel
theorem dX8_tally_22 : decode cX8_tally 22 = .ok (.if_icmp .eq 16, 3) := by decide +kernel
theorem dX8_tally_25 : decode cX8_tally 25 = .ok (.aload_n 0, 1) := by decide +kernel
theorem dX8_tally_26 : decode cX8_tally 26 = .ok (.getfield 27, 3) := by decide +kernel
theorem dX8_tally_29 : decode cX8_tally 29 = .ok (.iload_n 3, 1) := by decide +kernel
theorem dX8_tally_30 : decode cX8_tally 30 = .ok (.invokevirtual 212, 3) := by decide +kernel
theorem dX8_tally_33 : decode cX8_tally 33 = .ok (.ifCond .ne 5, 3) := by decide +kernel
theorem dX8_tally_36 : decode cX8_tally 36 = .ok (.iconst (-1), 1) := by decide +kernel
theorem dX8_tally_37 : decode cX8_tally 37 = .ok (.ireturn, 1) := by decide +kernel
theorem dX8_tally_38 : decode cX8_tally 38 = .ok (.iload 4, 2) := by decide +kernel
theorem dX8_tally_40 : decode cX8_tally 40 = .ok (.iconst (-1), 1) := by decide +kernel
theorem dX8_tally_41 : decode cX8_tally 41 = .ok (.if_icmp .eq 15, 3) := by decide +kernel
theorem dX8_tally_44 : decode cX8_tally 44 = .ok (.iload 4, 2) := by decide +kernel
theorem dX8_tally_46 : decode cX8_tally 46 = .ok (.iconst 0, 1) := by decide +kernel
theorem dX8_tally_47 : decode cX8_tally 47 = .ok (.iconst 2, 1) := by decide +kernel
theorem dX8_tally_48 : decode cX8_tally 48 = .ok (.invokestatic 78, 3) := by decide +kernel
theorem dX8_tally_51 : decode cX8_tally 51 = .ok (.ifCond .ne 5, 3) := by decide +kernel
theorem dX8_tally_54 : decode cX8_tally 54 = .ok (.iconst (-1), 1) := by decide +kernel
theorem dX8_tally_55 : decode cX8_tally 55 = .ok (.ireturn, 1) := by decide +kernel
theorem dX8_tally_56 : decode cX8_tally 56 = .ok (.aload_n 0, 1) := by decide +kernel
theorem dX8_tally_57 : decode cX8_tally 57 = .ok (.getfield 20, 3) := by decide +kernel
theorem dX8_tally_60 : decode cX8_tally 60 = .ok (.invokevirtual 140, 3) := by decide +kernel
theorem dX8_tally_63 : decode cX8_tally 63 = .ok (.aload_n 0, 1) := by decide +kernel
theorem dX8_tally_64 : decode cX8_tally 64 = .ok (.getfield 20, 3) := by decide +kernel
theorem dX8_tally_67 : decode cX8_tally 67 = .ok (.iload_n 1, 1) := by decide +kernel
theorem dX8_tally_68 : decode cX8_tally 68 = .ok (.iload_n 2, 1) := by decide +kernel
theorem dX8_tally_69 : decode cX8_tally 69 = .ok (.iload_n 3, 1) := by decide +kernel
theorem dX8_tally_70 : decode cX8_tally 70 = .ok (.iload 4, 2) := by decide +kernel
theorem dX8_tally_72 : decode cX8_tally 72 = .ok (.invokevirtual 224, 3) := by decide +kernel
theorem dX8_tally_75 : decode cX8_tally 75 = .ok (.ireturn, 1) := by decide +kernel
theorem dX8_changed_0 : decode cX8_changed 0 = .ok (.aload_n 0, 1) := by decide +kernel
theorem dX8_changed_1 : decode cX8_changed 1 = .ok (.getfield 27, 3) := by decide +kernel
theorem dX8_changed_4 : decode cX8_changed 4 = .ok (.iload_n 1, 1) := by decide +kernel
theorem dX8_changed_5 : decode cX8_changed 5 = .ok (.invokevirtual 212, 3) := by decide +kernel
theorem dX8_changed_8 : decode cX8_changed 8 = .ok (.ifCond .eq 16, 3) := by decide +kernel
theorem dX8_changed_11 : decode cX8_changed 11 = .ok (.iload_n 2, 1) := by decide +kernel
theorem dX8_changed_12 : decode cX8_changed 12 = .ok (.ifCond .lt 12, 3) := by decide +kernel
theorem dX8_changed_15 : decode cX8_changed 15 = .ok (.iload_n 3, 1) := by decide +kernel
theorem dX8_changed_16 : decode cX8_changed 16 = .ok (.iconst 0, 1) := by decide +kernel
theorem dX8_changed_17 : decode cX8_changed 17 = .ok (.iconst 1, 1) := by decide +kernel
theorem dX8_changed_18 : decode cX8_changed 18 = .ok (.invokestatic 78, 3) := by decide +kernel
theorem dX8_changed_21 : decode cX8_changed 21 = .ok (.ifCond .ne 5, 3) := by decide +kernel
theorem dX8_changed_24 : decode cX8_changed 24 = .ok (.iconst (-1), 1) := by decide +kernel
theorem dX8_changed_25 : decode cX8_changed 25 = .ok (.ireturn, 1) := by decide +kernel
theorem dX8_changed_26 : decode cX8_changed 26 = .ok (.aload_n 0, 1) := by decide +kernel
theorem dX8_changed_27 : decode cX8_changed 27 = .ok (.getfield 27, 3) := by decide +kernel
theorem dX8_changed_30 : decode cX8_changed 30 = .ok (.iload_n 1, 1) := by decide +kernel
theorem dX8_changed_31 : decode cX8_changed 31 = .ok (.iload_n 2, 1) := by decide +kernel
theorem dX8_changed_32 : decode cX8_changed 32 = .ok (.invokevirtual 228, 3) := by decide +kernel
theorem dX8_changed_35 : decode cX8_changed 35 = .ok (.istore 4, 2) := by decide +kernel
theorem dX8_changed_37 : decode cX8_changed 37 = .ok (.iload 4, 2) := by decide +kernel
theorem dX8_changed_39 : decode cX8_changed 39 = .ok (.ifCond .ge 6, 3) := by decide +kernel
theorem dX8_changed_42 : decode cX8_changed 42 = .ok (.bipush (-9), 2) := by decide +kernel
theorem dX8_changed_44 : decode cX8_changed 44 = .ok (.ireturn, 1) := by decide +kernel
theorem dX8_changed_45 : decode cX8_changed 45 = .ok (.iload_n 3, 1) := by decide +kernel
theorem dX8_changed_46 : decode cX8_changed 46 = .ok (.ifCond .ne 8, 3) := by decide +kernel
theorem dX8_changed_49 : decode cX8_changed 49 = .ok (.iload 4, 2) := by decide +kernel
theorem dX8_changed_51 : decode cX8_changed 51 = .ok (.goto 13, 3) := by decide +kernel
theorem dX8_changed_54 : decode cX8_changed 54 = .ok (.aload_n 0, 1) := by decide +kernel
theorem dX8_changed_55 : decode cX8_changed 55 = .ok (.getfield 27, 3) := by decide +kernel
theorem dX8_changed_58 : decode cX8_changed 58 = .ok (.iload_n 1, 1) := by decide +kernel
theorem dX8_changed_59 : decode cX8_changed 59 = .ok (.iload 4, 2) := by decide +kernel
theorem dX8_changed_61 : decode cX8_changed 61 = .ok (.invokevirtual 231, 3) := by decide +kernel
theorem dX8_changed_64 : decode cX8_changed 64 = .ok (.ireturn, 1) := by decide +kernel
theorem dX8_leader_0 : decode cX8_leader 0 = .ok (.iload_n 1, 1) := by decide +kernel
theorem dX8_leader_1 : decode cX8_leader 1 = .ok (.iconst 0, 1) := by decide +kernel
theorem dX8_leader_2 : decode cX8_leader 2 = .ok (.iconst 3, 1) := by decide +kernel
theorem dX8_leader_3 : decode cX8_leader 3 = .ok (.invokestatic 78, 3) := by decide +kernel
theorem dX8_leader_6 : decode cX8_leader 6 = .ok (.ifCond .eq 12, 3) := by decide +kernel
theorem dX8_leader_9 : decode cX8_leader 9 = .ok (.iload_n 2, 1) := by decide +kernel
theorem dX8_leader_10 : decode cX8_leader 10 = .ok (.iconst 0, 1) := by decide +kernel
theorem dX8_leader_11 : decode cX8_leader 11 = .ok (.iconst 3, 1) := by decide +kernel
theorem dX8_leader_12 : decode cX8_leader 12 = .ok (.invokestatic 78, 3) := by decide +kernel
theorem dX8_leader_15 : decode cX8_leader 15 = .ok (.ifCond .ne 5, 3) := by decide +kernel
theorem dX8_leader_18 : decode cX8_leader 18 = .ok (.iconst (-1), 1) := by decide +kernel
theorem dX8_leader_19 : decode cX8_leader 19 = .ok (.ireturn, 1) := by decide +kernel
theorem dX8_leader_20 : decode cX8_leader 20 = .ok (.aload_n 0, 1) := by decide +kernel
theorem dX8_leader_21 : decode cX8_leader 21 = .ok (.getfield 20, 3) := by decide +kernel
theorem dX8_leader_24 : decode cX8_leader 24 = .ok (.invokevirtual 140, 3) := by decide +kernel
theorem dX8_leader_27 : decode cX8_leader 27 = .ok (.aload_n 0, 1) := by decide +kernel
theorem dX8_leader_28 : decode cX8_leader 28 = .ok (.getfield 20, 3) := by decide +kernel
theorem dX8_leader_31 : decode cX8_leader 31 = .ok (.iload_n 1, 1) := by decide +kernel
theorem dX8_leader_32 : decode cX8_leader 32 = .ok (.invokevirtual 234, 3) := by decide +kernel
theorem dX8_leader_35 : decode cX8_leader 35 = .ok (.istore_n 3, 1) := by decide +kernel
theorem dX8_leader_36 : decode cX8_leader 36 = .ok (.aload_n 0, 1) := by decide +kernel
theorem dX8_leader_37 : decode cX8_leader 37 = .ok (.getfield 20, 3) := by decide +kernel
theorem dX8_leader_40 : decode cX8_leader 40 = .ok (.iload_n 1, 1) := by decide +kernel
theorem dX8_leader_41 : decode cX8_leader 41 = .ok (.iload_n 3, 1) := by decide +kernel
theorem dX8_leader_42 : decode cX8_leader 42 = .ok (.invokevirtual 237, 3) := by decide +kernel
theorem dX8_leader_45 : decode cX8_leader 45 = .ok (.istore 4, 2) := by decide +kernel
theorem dX8_leader_47 : decode cX8_leader 47 = .ok (.aload_n 0, 1) := by decide +kernel
theorem dX8_leader_48 : decode cX8_leader 48 = .ok (.getfield 20, 3) := by decide +kernel
theorem dX8_leader_51 : decode cX8_leader 51 = .ok (.iload_n 1, 1) := by decide +kernel
theorem dX8_leader_52 : decode cX8_leader 52 = .ok (.iconst 5, 1) := by decide +kernel
theorem dX8_leader_53 : decode cX8_leader 53 = .ok (.iconst (-1), 1) := by decide +kernel
theorem dX8_leader_54 : decode cX8_leader 54 = .ok (.iconst (-1), 1) := by decide +kernel
theorem dX8_leader_55 : decode cX8_leader 55 = .ok (.invokevirtual 224, 3) := by decide +kernel
theorem dX8_leader_58 : decode cX8_leader 58 = .ok (.istore 5, 2) := by decide +kernel
theorem dX8_leader_60 : decode cX8_leader 60 = .ok (.iload_n 2, 1) := by decide +kernel
theorem dX8_leader_61 : decode cX8_leader 61 = .ok (.tableswitch 35 0 2 #[27, 29, 32], 27) := by decide +kernel
theorem dX8_leader_88 : decode cX8_leader 88 = .ok (.iload_n 3, 1) := by decide +kernel
theorem dX8_leader_89 : decode cX8_leader 89 = .ok (.ireturn, 1) := by decide +kernel
theorem dX8_leader_90 : decode cX8_leader 90 = .ok (.iload 4, 2) := by decide +kernel
theorem dX8_leader_92 : decode cX8_leader 92 = .ok (.ireturn, 1) := by decide +kernel
theorem dX8_leader_93 : decode cX8_leader 93 = .ok (.iload 5, 2) := by decide +kernel
theorem dX8_leader_95 : decode cX8_leader 95 = .ok (.ireturn, 1) := by decide +kernel
theorem dX8_leader_96 : decode cX8_leader 96 = .ok (.iload 4, 2) := by decide +kernel
theorem dX8_leader_98 : decode cX8_leader 98 = .ok (.iload 5, 2) := by decide +kernel
theorem dX8_leader_100 : decode cX8_leader 100 = .ok (.if_icmp .le 7, 3) := by decide +kernel
theorem dX8_leader_103 : decode cX8_leader 103 = .ok (.iconst 1, 1) := by decide +kernel
theorem dX8_leader_104 : decode cX8_leader 104 = .ok (.goto 4, 3) := by decide +kernel
theorem dX8_leader_107 : decode cX8_leader 107 = .ok (.iconst 0, 1) := by decide +kernel
theorem dX8_leader_108 : decode cX8_leader 108 = .ok (.ireturn, 1) := by decide +kernel
theorem dX8_error_0 : decode cX8_error 0 = .ok (.iload_n 1, 1) := by decide +kernel
theorem dX8_error_1 : decode cX8_error 1 = .ok (.iconst 0, 1) := by decide +kernel
theorem dX8_error_2 : decode cX8_error 2 = .ok (.iconst 2, 1) := by decide +kernel
theorem dX8_error_3 : decode cX8_error 3 = .ok (.invokestatic 78, 3) := by decide +kernel
theorem dX8_error_6 : decode cX8_error 6 = .ok (.ifCond .eq 12, 3) := by decide +kernel
theorem dX8_error_9 : decode cX8_error 9 = .ok (.iload_n 2, 1) := by decide +kernel
theorem dX8_error_10 : decode cX8_error 10 = .ok (.iconst 0, 1) := by decide +kernel
theorem dX8_error_11 : decode cX8_error 11 = .ok (.iconst 2, 1) := by decide +kernel
theorem dX8_error_12 : decode cX8_error 12 = .ok (.invokestatic 78, 3) := by decide +kernel
theorem dX8_error_15 : decode cX8_error 15 = .ok (.ifCond .ne 5, 3) := by decide +kernel
theorem dX8_error_18 : decode cX8_error 18 = .ok (.iconst (-1), 1) := by decide +kernel
theorem dX8_error_19 : decode cX8_error 19 = .ok (.ireturn, 1) := by decide +kernel
theorem dX8_error_20 : decode cX8_error 20 = .ok (.aload_n 0, 1) := by decide +kernel
theorem dX8_error_21 : decode cX8_error 21 = .ok (.getfield 20, 3) := by decide +kernel
theorem dX8_error_24 : decode cX8_error 24 = .ok (.invokevirtual 140, 3) := by decide +kernel
theorem dX8_error_27 : decode cX8_error 27 = .ok (.iconst 0, 1) := by decide +kernel
theorem dX8_error_28 : decode cX8_error 28 = .ok (.istore_n 3, 1) := by decide +kernel
theorem dX8_error_29 : decode cX8_error 29 = .ok (.iconst 0, 1) := by decide +kernel
theorem dX8_error_30 : decode cX8_error 30 = .ok (.istore 4, 2) := by decide +kernel
theorem dX8_error_32 : decode cX8_error 32 = .ok (.iload 4, 2) := by decide +kernel
theorem dX8_error_34 : decode cX8_error 34 = .ok (.aload_n 0, 1) := by decide +kernel
theorem dX8_error_35 : decode cX8_error 35 = .ok (.getfield 27, 3) := by decide +kernel
theorem dX8_error_38 : decode cX8_error 38 = .ok (.getfield 86, 3) := by decide +kernel
theorem dX8_error_41 : decode cX8_error 41 = .ok (.if_icmp .ge 50, 3) := by decide +kernel
theorem dX8_error_44 : decode cX8_error 44 = .ok (.aload_n 0, 1) := by decide +kernel
theorem dX8_error_45 : decode cX8_error 45 = .ok (.getfield 27, 3) := by decide +kernel
theorem dX8_error_48 : decode cX8_error 48 = .ok (.getfield 170, 3) := by decide +kernel
theorem dX8_error_51 : decode cX8_error 51 = .ok (.iload 4, 2) := by decide +kernel
theorem dX8_error_53 : decode cX8_error 53 = .ok (.iaload, 1) := by decide +kernel
theorem dX8_error_54 : decode cX8_error 54 = .ok (.iload_n 1, 1) := by decide +kernel
theorem dX8_error_55 : decode cX8_error 55 = .ok (.if_icmp .ne 30, 3) := by decide +kernel
theorem dX8_error_58 : decode cX8_error 58 = .ok (.aload_n 0, 1) := by decide +kernel
theorem dX8_error_59 : decode cX8_error 59 = .ok (.getfield 27, 3) := by decide +kernel
theorem dX8_error_62 : decode cX8_error 62 = .ok (.getfield 179, 3) := by decide +kernel
theorem dX8_error_65 : decode cX8_error 65 = .ok (.iload 4, 2) := by decide +kernel
theorem dX8_error_67 : decode cX8_error 67 = .ok (.iaload, 1) := by decide +kernel
theorem dX8_error_68 : decode cX8_error 68 = .ok (.iconst 2, 1) := by decide +kernel
theorem dX8_error_69 : decode cX8_error 69 = .ok (.if_icmp .ne 16, 3) := by decide +kernel
theorem dX8_error_72 : decode cX8_error 72 = .ok (.iload_n 3, 1) := by decide +kernel
theorem dX8_error_73 : decode cX8_error 73 = .ok (.aload_n 0, 1) := by decide +kernel
theorem dX8_error_74 : decode cX8_error 74 = .ok (.getfield 20, 3) := by decide +kernel
theorem dX8_error_77 : decode cX8_error 77 = .ok (.iload 4, 2) := by decide +kernel
theorem dX8_error_79 : decode cX8_error 79 = .ok (.iload_n 2, 1) := by decide +kernel
theorem dX8_error_80 : decode cX8_error 80 = .ok (.invokevirtual 240, 3) := by decide +kernel
theorem dX8_error_83 : decode cX8_error 83 = .ok (.iadd, 1) := by decide +kernel
theorem dX8_error_84 : decode cX8_error 84 = .ok (.istore_n 3, 1) := by decide +kernel
theorem dX8_error_85 : decode cX8_error 85 = .ok (.iinc 4 1, 3) := by decide +kernel
theorem dX8_error_88 : decode cX8_error 88 = .ok (.goto (-56), 3) := by decide +kernel
theorem dX8_error_91 : decode cX8_error 91 = .ok (.iload_n 3, 1) := by decide +kernel
theorem dX8_error_92 : decode cX8_error 92 = .ok (.ireturn, 1) := by decide +kernel
theorem dX8_byLength_0 : decode cX8_byLength 0 = .ok (.iload_n 1, 1) := by decide +kernel
theorem dX8_byLength_1 : decode cX8_byLength 1 = .ok (.getstatic 243, 3) := by decide +kernel
theorem dX8_byLength_4 : decode cX8_byLength 4 = .ok (.iconst 0, 1) := by decide +kernel
theorem dX8_byLength_5 : decode cX8_byLength 5 = .ok (.iaload, 1) := by decide +kernel
theorem dX8_byLength_6 : decode cX8_byLength 6 = .ok (.getstatic 246, 3) := by decide +kernel
theorem dX8_byLength_9 : decode cX8_byLength 9 = .ok (.iconst 0, 1) := by decide +kernel
theorem dX8_byLength_10 : decode cX8_byLength 10 = .ok (.iaload, 1) := by decide +kernel
theorem dX8_byLength_11 : decode cX8_byLength 11 = .ok (.invokestatic 78, 3) := by decide +kernel
theorem dX8_byLength_14 : decode cX8_byLength 14 = .ok (.ifCond .ne 5, 3) := by decide +kernel
theorem dX8_byLength_17 : decode cX8_byLength 17 = .ok (.iconst (-1), 1) := by decide +kernel
theorem dX8_byLength_18 : decode cX8_byLength 18 = .ok (.ireturn, 1) := by decide +kernel
theorem dX8_byLength_19 : decode cX8_byLength 19 = .ok (.aload_n 0, 1) := by decide +kernel
theorem dX8_byLength_20 : decode cX8_byLength 20 = .ok (.getfield 20, 3) := by decide +kernel
theorem dX8_byLength_23 : decode cX8_byLength 23 = .ok (.invokevirtual 140, 3) := by decide +kernel
theorem dX8_byLength_26 : decode cX8_byLength 26 = .ok (.aload_n 0, 1) := by decide +kernel
theorem dX8_byLength_27 : decode cX8_byLength 27 = .ok (.getfield 20, 3) := by decide +kernel
theorem dX8_byLength_30 : decode cX8_byLength 30 = .ok (.iload_n 1, 1) := by decide +kernel
theorem dX8_byLength_31 : decode cX8_byLength 31 = .ok (.invokevirtual 249, 3) := by decide +kernel
theorem dX8_byLength_34 : decode cX8_byLength 34 = .ok (.ireturn, 1) := by decide +kernel
theorem dX8_drawn_0 : decode cX8_drawn 0 = .ok (.iload_n 1, 1) := by decide +kernel
theorem dX8_drawn_1 : decode cX8_drawn 1 = .ok (.iconst 0, 1) := by decide +kernel
theorem dX8_drawn_2 : decode cX8_drawn 2 = .ok (.ldc 252, 2) := by decide +kernel
theorem dX8_drawn_4 : decode cX8_drawn 4 = .ok (.invokestatic 78, 3) := by decide +kernel
theorem dX8_drawn_7 : decode cX8_drawn 7 = .ok (.ifCond .ne 5, 3) := by decide +kernel
theorem dX8_drawn_10 : decode cX8_drawn 10 = .ok (.iconst (-1), 1) := by decide +kernel
theorem dX8_drawn_11 : decode cX8_drawn 11 = .ok (.ireturn, 1) := by decide +kernel
theorem dX8_drawn_12 : decode cX8_drawn 12 = .ok (.aload_n 0, 1) := by decide +kernel
theorem dX8_drawn_13 : decode cX8_drawn 13 = .ok (.getfield 20, 3) := by decide +kernel
theorem dX8_drawn_16 : decode cX8_drawn 16 = .ok (.invokevirtual 140, 3) := by decide +kernel
theorem dX8_drawn_19 : decode cX8_drawn 19 = .ok (.aload_n 0, 1) := by decide +kernel
theorem dX8_drawn_20 : decode cX8_drawn 20 = .ok (.getfield 20, 3) := by decide +kernel
theorem dX8_drawn_23 : decode cX8_drawn 23 = .ok (.invokevirtual 146, 3) := by decide +kernel
theorem dX8_drawn_26 : decode cX8_drawn 26 = .ok (.istore_n 2, 1) := by decide +kernel
theorem dX8_drawn_27 : decode cX8_drawn 27 = .ok (.iload_n 2, 1) := by decide +kernel
theorem dX8_drawn_28 : decode cX8_drawn 28 = .ok (.ifCond .ne 6, 3) := by decide +kernel
theorem dX8_drawn_31 : decode cX8_drawn 31 = .ok (.bipush (-9), 2) := by decide +kernel
theorem dX8_drawn_33 : decode cX8_drawn 33 = .ok (.ireturn, 1) := by decide +kernel
theorem dX8_drawn_34 : decode cX8_drawn 34 = .ok (.aload_n 0, 1) := by decide +kernel
theorem dX8_drawn_35 : decode cX8_drawn 35 = .ok (.getfield 20, 3) := by decide +kernel
theorem dX8_drawn_38 : decode cX8_drawn 38 = .ok (.iload_n 1, 1) := by decide +kernel
theorem dX8_drawn_39 : decode cX8_drawn 39 = .ok (.invokestatic 253, 3) := by decide +kernel
theorem dX8_drawn_42 : decode cX8_drawn 42 = .ok (.iload_n 2, 1) := by decide +kernel
theorem dX8_drawn_43 : decode cX8_drawn 43 = .ok (.irem, 1) := by decide +kernel
theorem dX8_drawn_44 : decode cX8_drawn 44 = .ok (.invokevirtual 256, 3) := by decide +kernel
theorem dX8_drawn_47 : decode cX8_drawn 47 = .ok (.ireturn, 1) := by decide +kernel
theorem dX8_seedFor_0 : decode cX8_seedFor 0 = .ok (.aload_n 0, 1) := by decide +kernel
theorem dX8_seedFor_1 : decode cX8_seedFor 1 = .ok (.getfield 27, 3) := by decide +kernel
theorem dX8_seedFor_4 : decode cX8_seedFor 4 = .ok (.iload_n 1, 1) := by decide +kernel
theorem dX8_seedFor_5 : decode cX8_seedFor 5 = .ok (.invokevirtual 167, 3) := by decide +kernel
theorem dX8_seedFor_8 : decode cX8_seedFor 8 = .ok (.ifCond .ne 5, 3) := by decide +kernel
theorem dX8_seedFor_11 : decode cX8_seedFor 11 = .ok (.iconst (-1), 1) := by decide +kernel
theorem dX8_seedFor_12 : decode cX8_seedFor 12 = .ok (.ireturn, 1) := by decide +kernel
theorem dX8_seedFor_13 : decode cX8_seedFor 13 = .ok (.aload_n 0, 1) := by decide +kernel
theorem dX8_seedFor_14 : decode cX8_seedFor 14 = .ok (.getfield 20, 3) := by decide +kernel
theorem dX8_seedFor_17 : decode cX8_seedFor 17 = .ok (.invokevirtual 140, 3) := by decide +kernel
theorem dX8_seedFor_20 : decode cX8_seedFor 20 = .ok (.aload_n 0, 1) := by decide +kernel
theorem dX8_seedFor_21 : decode cX8_seedFor 21 = .ok (.getfield 20, 3) := by decide +kernel
theorem dX8_seedFor_24 : decode cX8_seedFor 24 = .ok (.invokevirtual 146, 3) := by decide +kernel
theorem dX8_seedFor_27 : decode cX8_seedFor 27 = .ok (.istore_n 2, 1) := by decide +kernel
theorem dX8_seedFor_28 : decode cX8_seedFor 28 = .ok (.iload_n 2, 1) := by decide +kernel
theorem dX8_seedFor_29 : decode cX8_seedFor 29 = .ok (.ifCond .eq 14, 3) := by decide +kernel
theorem dX8_seedFor_32 : decode cX8_seedFor 32 = .ok (.aload_n 0, 1) := by decide +kernel
theorem dX8_seedFor_33 : decode cX8_seedFor 33 = .ok (.getfield 20, 3) := by decide +kernel
theorem dX8_seedFor_36 : decode cX8_seedFor 36 = .ok (.iload_n 1, 1) := by decide +kernel
theorem dX8_seedFor_37 : decode cX8_seedFor 37 = .ok (.invokevirtual 185, 3) := by decide +kernel
theorem dX8_seedFor_40 : decode cX8_seedFor 40 = .ok (.ifCond .ne 6, 3) := by decide +kernel
theorem dX8_seedFor_43 : decode cX8_seedFor 43 = .ok (.bipush (-9), 2) := by decide +kernel
theorem dX8_seedFor_45 : decode cX8_seedFor 45 = .ok (.ireturn, 1) := by decide +kernel
theorem dX8_seedFor_46 : decode cX8_seedFor 46 = .ok (.aload_n 0, 1) := by decide +kernel
theorem dX8_seedFor_47 : decode cX8_seedFor 47 = .ok (.getfield 20, 3) := by decide +kernel
theorem dX8_seedFor_50 : decode cX8_seedFor 50 = .ok (.iload_n 1, 1) := by decide +kernel
theorem dX8_seedFor_51 : decode cX8_seedFor 51 = .ok (.invokevirtual 259, 3) := by decide +kernel
theorem dX8_seedFor_54 : decode cX8_seedFor 54 = .ok (.istore_n 3, 1) := by decide +kernel
theorem dX8_seedFor_55 : decode cX8_seedFor 55 = .ok (.iconst 0, 1) := by decide +kernel
theorem dX8_seedFor_56 : decode cX8_seedFor 56 = .ok (.istore 4, 2) := by decide +kernel
theorem dX8_seedFor_58 : decode cX8_seedFor 58 = .ok (.iload 4, 2) := by decide +kernel
theorem dX8_seedFor_60 : decode cX8_seedFor 60 = .ok (.ldc_w 262, 3) := by decide +kernel
theorem dX8_seedFor_63 : decode cX8_seedFor 63 = .ok (.if_icmp .ge 23, 3) := by decide +kernel
theorem dX8_seedFor_66 : decode cX8_seedFor 66 = .ok (.iload 4, 2) := by decide +kernel
theorem dX8_seedFor_68 : decode cX8_seedFor 68 = .ok (.invokestatic 253, 3) := by decide +kernel
theorem dX8_seedFor_71 : decode cX8_seedFor 71 = .ok (.iload_n 2, 1) := by decide +kernel
theorem dX8_seedFor_72 : decode cX8_seedFor 72 = .ok (.irem, 1) := by decide +kernel
theorem dX8_seedFor_73 : decode cX8_seedFor 73 = .ok (.iload_n 3, 1) := by decide +kernel
theorem dX8_seedFor_74 : decode cX8_seedFor 74 = .ok (.if_icmp .ne 6, 3) := by decide +kernel
theorem dX8_seedFor_77 : decode cX8_seedFor 77 = .ok (.iload 4, 2) := by decide +kernel
theorem dX8_seedFor_79 : decode cX8_seedFor 79 = .ok (.ireturn, 1) := by decide +kernel
theorem dX8_seedFor_80 : decode cX8_seedFor 80 = .ok (.iinc 4 1, 3) := by decide +kernel
theorem dX8_seedFor_83 : decode cX8_seedFor 83 = .ok (.goto (-25), 3) := by decide +kernel
theorem dX8_seedFor_86 : decode cX8_seedFor 86 = .ok (.bipush (-9), 2) := by decide +kernel
theorem dX8_seedFor_88 : decode cX8_seedFor 88 = .ok (.ireturn, 1) := by decide +kernel
theorem dX8_recordIfDone_0 : decode cX8_recordIfDone 0 = .ok (.iload_n 1, 1) := by decide +kernel
theorem dX8_recordIfDone_1 : decode cX8_recordIfDone 1 = .ok (.ifCond .lt 10, 3) := by decide +kernel
theorem dX8_recordIfDone_4 : decode cX8_recordIfDone 4 = .ok (.aload_n 0, 1) := by decide +kernel
theorem dX8_recordIfDone_5 : decode cX8_recordIfDone 5 = .ok (.getfield 38, 3) := by decide +kernel
theorem dX8_recordIfDone_8 : decode cX8_recordIfDone 8 = .ok (.invokevirtual 263, 3) := by decide +kernel
theorem dX8_recordIfDone_11 : decode cX8_recordIfDone 11 = .ok (.iload_n 1, 1) := by decide +kernel
theorem dX8_recordIfDone_12 : decode cX8_recordIfDone 12 = .ok (.ireturn, 1) := by decide +kernel
theorem dX8_within_0 : decode cX8_within 0 = .ok (.iload_n 0, 1) := by decide +kernel
theorem dX8_within_1 : decode cX8_within 1 = .ok (.iload_n 1, 1) := by decide +kernel
theorem dX8_within_2 : decode cX8_within 2 = .ok (.if_icmp .lt 12, 3) := by decide +kernel
theorem dX8_within_5 : decode cX8_within 5 = .ok (.iload_n 0, 1) := by decide +kernel
theorem dX8_within_6 : decode cX8_within 6 = .ok (.iload_n 2, 1) := by decide +kernel
theorem dX8_within_7 : decode cX8_within 7 = .ok (.if_icmp .gt 7, 3) := by decide +kernel
theorem dX8_within_10 : decode cX8_within 10 = .ok (.iconst 1, 1) := by decide +kernel
theorem dX8_within_11 : decode cX8_within 11 = .ok (.goto 4, 3) := by decide +kernel
theorem dX8_within_14 : decode cX8_within 14 = .ok (.iconst 0, 1) := by decide +kernel
theorem dX8_within_15 : decode cX8_within 15 = .ok (.ireturn, 1) := by decide +kernel
theorem dX8_isRow_0 : decode cX8_isRow 0 = .ok (.lload_n 0, 1) := by decide +kernel
theorem dX8_isRow_1 : decode cX8_isRow 1 = .ok (.lconst 0, 1) := by decide +kernel
theorem dX8_isRow_2 : decode cX8_isRow 2 = .ok (.lcmp, 1) := by decide +kernel
theorem dX8_isRow_3 : decode cX8_isRow 3 = .ok (.ifCond .lt 15, 3) := by decide +kernel
theorem dX8_isRow_6 : decode cX8_isRow 6 = .ok (.lload_n 0, 1) := by decide +kernel
theorem dX8_isRow_7 : decode cX8_isRow 7 = .ok (.ldc2_w 266, 3) := by decide +kernel
theorem dX8_isRow_10 : decode cX8_isRow 10 = .ok (.lcmp, 1) := by decide +kernel
theorem dX8_isRow_11 : decode cX8_isRow 11 = .ok (.ifCond .gt 7, 3) := by decide +kernel
theorem dX8_isRow_14 : decode cX8_isRow 14 = .ok (.iconst 1, 1) := by decide +kernel
theorem dX8_isRow_15 : decode cX8_isRow 15 = .ok (.goto 4, 3) := by decide +kernel
theorem dX8_isRow_18 : decode cX8_isRow 18 = .ok (.iconst 0, 1) := by decide +kernel
theorem dX8_isRow_19 : decode cX8_isRow 19 = .ok (.ireturn, 1) := by decide +kernel
theorem dX8_nextLot_0 : decode cX8_nextLot 0 = .ok (.bipush 75, 2) := by decide +kernel
theorem dX8_nextLot_2 : decode cX8_nextLot 2 = .ok (.iload_n 0, 1) := by decide +kernel
theorem dX8_nextLot_3 : decode cX8_nextLot 3 = .ok (.imul, 1) := by decide +kernel
theorem dX8_nextLot_4 : decode cX8_nextLot 4 = .ok (.bipush 74, 2) := by decide +kernel
theorem dX8_nextLot_6 : decode cX8_nextLot 6 = .ok (.iadd, 1) := by decide +kernel
theorem dX8_nextLot_7 : decode cX8_nextLot 7 = .ok (.ldc_w 262, 3) := by decide +kernel
theorem dX8_nextLot_10 : decode cX8_nextLot 10 = .ok (.irem, 1) := by decide +kernel
theorem dX8_nextLot_11 : decode cX8_nextLot 11 = .ok (.ireturn, 1) := by decide +kernel
theorem dX8_outcomeOf_0 : decode cX8_outcomeOf 0 = .ok (.iload_n 0, 1) := by decide +kernel
theorem dX8_outcomeOf_1 : decode cX8_outcomeOf 1 = .ok (.iconst 3, 1) := by decide +kernel
theorem dX8_outcomeOf_2 : decode cX8_outcomeOf 2 = .ok (.iload_n 1, 1) := by decide +kernel
theorem dX8_outcomeOf_3 : decode cX8_outcomeOf 3 = .ok (.imul, 1) := by decide +kernel
theorem dX8_outcomeOf_4 : decode cX8_outcomeOf 4 = .ok (.ishr, 1) := by decide +kernel
theorem dX8_outcomeOf_5 : decode cX8_outcomeOf 5 = .ok (.bipush 7, 2) := by decide +kernel
theorem dX8_outcomeOf_7 : decode cX8_outcomeOf 7 = .ok (.iand, 1) := by decide +kernel
theorem dX8_outcomeOf_8 : decode cX8_outcomeOf 8 = .ok (.ireturn, 1) := by decide +kernel
theorem dX8_differingContests_0 : decode cX8_differingContests 0 = .ok (.iconst 0, 1) := by decide +kernel
theorem dX8_differingContests_1 : decode cX8_differingContests 1 = .ok (.istore_n 2, 1) := by decide +kernel
theorem dX8_differingContests_2 : decode cX8_differingContests 2 = .ok (.iconst 0, 1) := by decide +kernel
theorem dX8_differingContests_3 : decode cX8_differingContests 3 = .ok (.istore_n 3, 1) := by decide +kernel
theorem dX8_differingContests_4 : decode cX8_differingContests 4 = .ok (.iload_n 3, 1) := by decide +kernel
theorem dX8_differingContests_5 : decode cX8_differingContests 5 = .ok (.iconst 4, 1) := by decide +kernel
theorem dX8_differingContests_6 : decode cX8_differingContests 6 = .ok (.if_icmp .ge 28, 3) := by decide +kernel
theorem dX8_differingContests_9 : decode cX8_differingContests 9 = .ok (.iload_n 0, 1) := by decide +kernel
theorem dX8_differingContests_10 : decode cX8_differingContests 10 = .ok (.iload_n 3, 1) := by decide +kernel
theorem dX8_differingContests_11 : decode cX8_differingContests 11 = .ok (.invokestatic 221, 3) := by decide +kernel
theorem dX8_differingContests_14 : decode cX8_differingContests 14 = .ok (.iload_n 1, 1) := by decide +kernel
theorem dX8_differingContests_15 : decode cX8_differingContests 15 = .ok (.iload_n 3, 1) := by decide +kernel
theorem dX8_differingContests_16 : decode cX8_differingContests 16 = .ok (.invokestatic 221, 3) := by decide +kernel
theorem dX8_differingContests_19 : decode cX8_differingContests 19 = .ok (.if_icmp .eq 9, 3) := by decide +kernel
theorem dX8_differingContests_22 : decode cX8_differingContests 22 = .ok (.iload_n 2, 1) := by decide +kernel
theorem dX8_differingContests_23 : decode cX8_differingContests 23 = .ok (.iconst 1, 1) := by decide +kernel
theorem dX8_differingContests_24 : decode cX8_differingContests 24 = .ok (.iload_n 3, 1) := by decide +kernel
theorem dX8_differingContests_25 : decode cX8_differingContests 25 = .ok (.ishl, 1) := by decide +kernel
theorem dX8_differingContests_26 : decode cX8_differingContests 26 = .ok (.ior, 1) := by decide +kernel
theorem dX8_differingContests_27 : decode cX8_differingContests 27 = .ok (.istore_n 2, 1) := by decide +kernel
theorem dX8_differingContests_28 : decode cX8_differingContests 28 = .ok (.iinc 3 1, 3) := by decide +kernel
theorem dX8_differingContests_31 : decode cX8_differingContests 31 = .ok (.goto (-27), 3) := by decide +kernel
theorem dX8_differingContests_34 : decode cX8_differingContests 34 = .ok (.iload_n 2, 1) := by decide +kernel
theorem dX8_differingContests_35 : decode cX8_differingContests 35 = .ok (.ireturn, 1) := by decide +kernel
theorem dL_law_0 : decode cL_law 0 = .ok (.new 7, 3) := by decide +kernel
theorem dL_law_3 : decode cL_law 3 = .ok (.dup, 1) := by decide +kernel
theorem dL_law_4 : decode cL_law 4 = .ok (.invokespecial 9, 3) := by decide +kernel
theorem dL_law_7 : decode cL_law 7 = .ok (.astore_n 1, 1) := by decide +kernel
theorem dL_law_8 : decode cL_law 8 = .ok (.new 10, 3) := by decide +kernel
theorem dL_law_11 : decode cL_law 11 = .ok (.dup, 1) := by decide +kernel
theorem dL_law_12 : decode cL_law 12 = .ok (.invokespecial 12, 3) := by decide +kernel
theorem dL_law_15 : decode cL_law 15 = .ok (.astore_n 2, 1) := by decide +kernel
theorem dL_law_16 : decode cL_law 16 = .ok (.iconst 0, 1) := by decide +kernel
theorem dL_law_17 : decode cL_law 17 = .ok (.istore_n 3, 1) := by decide +kernel
theorem dL_law_18 : decode cL_law 18 = .ok (.iload_n 3, 1) := by decide +kernel
theorem dL_law_19 : decode cL_law 19 = .ok (.aload_n 0, 1) := by decide +kernel
theorem dL_law_20 : decode cL_law 20 = .ok (.arraylength, 1) := by decide +kernel
theorem dL_law_21 : decode cL_law 21 = .ok (.iconst 5, 1) := by decide +kernel
theorem dL_law_22 : decode cL_law 22 = .ok (.isub, 1) := by decide +kernel
theorem dL_law_23 : decode cL_law 23 = .ok (.if_icmp .gt 906, 3) := by decide +kernel
theorem dL_law_26 : decode cL_law 26 = .ok (.aload_n 0, 1) := by decide +kernel
theorem dL_law_27 : decode cL_law 27 = .ok (.iload_n 3, 1) := by decide +kernel
theorem dL_law_28 : decode cL_law 28 = .ok (.iaload, 1) := by decide +kernel
theorem dL_law_29 : decode cL_law 29 = .ok (.bipush 31, 2) := by decide +kernel
theorem dL_law_31 : decode cL_law 31 = .ok (.iand, 1) := by decide +kernel
theorem dL_law_32 : decode cL_law 32 = .ok (.tableswitch 891 0 24 #[116, 179, 202, 235, 248, 281, 344, 367, 390, 403, 426, 439, 452, 475, 498, 531, 574, 617, 660, 713, 756, 789, 822, 845, 868], 116) := by decide +kernel
theorem dL_law_148 : decode cL_law 148 = .ok (.aload_n 1, 1) := by decide +kernel
theorem dL_law_149 : decode cL_law 149 = .ok (.aload_n 0, 1) := by decide +kernel
theorem dL_law_150 : decode cL_law 150 = .ok (.iload_n 3, 1) := by decide +kernel
theorem dL_law_151 : decode cL_law 151 = .ok (.iconst 1, 1) := by decide +kernel
theorem dL_law_152 : decode cL_law 152 = .ok (.iadd, 1) := by decide +kernel
theorem dL_law_153 : decode cL_law 153 = .ok (.iaload, 1) := by decide +kernel
theorem dL_law_154 : decode cL_law 154 = .ok (.aload_n 0, 1) := by decide +kernel
theorem dL_law_155 : decode cL_law 155 = .ok (.iload_n 3, 1) := by decide +kernel
theorem dL_law_156 : decode cL_law 156 = .ok (.iconst 2, 1) := by decide +kernel
theorem dL_law_157 : decode cL_law 157 = .ok (.iadd, 1) := by decide +kernel
theorem dL_law_158 : decode cL_law 158 = .ok (.iaload, 1) := by decide +kernel
theorem dL_law_159 : decode cL_law 159 = .ok (.i2l, 1) := by decide +kernel
theorem dL_law_160 : decode cL_law 160 = .ok (.bipush 32, 2) := by decide +kernel
theorem dL_law_162 : decode cL_law 162 = .ok (.lshl, 1) := by decide +kernel
theorem dL_law_163 : decode cL_law 163 = .ok (.aload_n 0, 1) := by decide +kernel
theorem dL_law_164 : decode cL_law 164 = .ok (.iload_n 3, 1) := by decide +kernel
theorem dL_law_165 : decode cL_law 165 = .ok (.iconst 3, 1) := by decide +kernel
theorem dL_law_166 : decode cL_law 166 = .ok (.iadd, 1) := by decide +kernel
theorem dL_law_167 : decode cL_law 167 = .ok (.iaload, 1) := by decide +kernel
theorem dL_law_168 : decode cL_law 168 = .ok (.i2l, 1) := by decide +kernel
theorem dL_law_169 : decode cL_law 169 = .ok (.ldc2_w 13, 3) := by decide +kernel
theorem dL_law_172 : decode cL_law 172 = .ok (.land, 1) := by decide +kernel
theorem dL_law_173 : decode cL_law 173 = .ok (.lor, 1) := by decide +kernel
theorem dL_law_174 : decode cL_law 174 = .ok (.invokevirtual 15, 3) := by decide +kernel
theorem dL_law_177 : decode cL_law 177 = .ok (.aload_n 2, 1) := by decide +kernel
theorem dL_law_178 : decode cL_law 178 = .ok (.aload_n 0, 1) := by decide +kernel
theorem dL_law_179 : decode cL_law 179 = .ok (.iload_n 3, 1) := by decide +kernel
theorem dL_law_180 : decode cL_law 180 = .ok (.iconst 1, 1) := by decide +kernel
theorem dL_law_181 : decode cL_law 181 = .ok (.iadd, 1) := by decide +kernel
theorem dL_law_182 : decode cL_law 182 = .ok (.iaload, 1) := by decide +kernel
theorem dL_law_183 : decode cL_law 183 = .ok (.aload_n 0, 1) := by decide +kernel
theorem dL_law_184 : decode cL_law 184 = .ok (.iload_n 3, 1) := by decide +kernel
theorem dL_law_185 : decode cL_law 185 = .ok (.iconst 2, 1) := by decide +kernel
theorem dL_law_186 : decode cL_law 186 = .ok (.iadd, 1) := by decide +kernel
theorem dL_law_187 : decode cL_law 187 = .ok (.iaload, 1) := by decide +kernel
theorem dL_law_188 : decode cL_law 188 = .ok (.i2l, 1) := by decide +kernel
theorem dL_law_189 : decode cL_law 189 = .ok (.bipush 32, 2) := by decide +kernel
theorem dL_law_191 : decode cL_law 191 = .ok (.lshl, 1) := by decide +kernel
theorem dL_law_192 : decode cL_law 192 = .ok (.aload_n 0, 1) := by decide +kernel
theorem dL_law_193 : decode cL_law 193 = .ok (.iload_n 3, 1) := by decide +kernel
theorem dL_law_194 : decode cL_law 194 = .ok (.iconst 3, 1) := by decide +kernel
theorem dL_law_195 : decode cL_law 195 = .ok (.iadd, 1) := by decide +kernel
theorem dL_law_196 : decode cL_law 196 = .ok (.iaload, 1) := by decide +kernel
theorem dL_law_197 : decode cL_law 197 = .ok (.i2l, 1) := by decide +kernel
theorem dL_law_198 : decode cL_law 198 = .ok (.ldc2_w 13, 3) := by decide +kernel
theorem dL_law_201 : decode cL_law 201 = .ok (.land, 1) := by decide +kernel
theorem dL_law_202 : decode cL_law 202 = .ok (.lor, 1) := by decide +kernel
theorem dL_law_203 : decode cL_law 203 = .ok (.invokevirtual 19, 3) := by decide +kernel
theorem dL_law_206 : decode cL_law 206 = .ok (.if_icmp .eq 717, 3) := by decide +kernel
theorem dL_law_209 : decode cL_law 209 = .ok (.iconst 0, 1) := by decide +kernel
theorem dL_law_210 : decode cL_law 210 = .ok (.ireturn, 1) := by decide +kernel
theorem dL_law_211 : decode cL_law 211 = .ok (.aload_n 1, 1) := by decide +kernel
theorem dL_law_212 : decode cL_law 212 = .ok (.aload_n 0, 1) := by decide +kernel
theorem dL_law_213 : decode cL_law 213 = .ok (.iload_n 3, 1) := by decide +kernel
theorem dL_law_214 : decode cL_law 214 = .ok (.iconst 1, 1) := by decide +kernel
theorem dL_law_215 : decode cL_law 215 = .ok (.iadd, 1) := by decide +kernel
theorem dL_law_216 : decode cL_law 216 = .ok (.iaload, 1) := by decide +kernel
theorem dL_law_217 : decode cL_law 217 = .ok (.invokevirtual 20, 3) := by decide +kernel
theorem dL_law_220 : decode cL_law 220 = .ok (.aload_n 2, 1) := by decide +kernel
theorem dL_law_221 : decode cL_law 221 = .ok (.aload_n 0, 1) := by decide +kernel
theorem dL_law_222 : decode cL_law 222 = .ok (.iload_n 3, 1) := by decide +kernel
theorem dL_law_223 : decode cL_law 223 = .ok (.iconst 1, 1) := by decide +kernel
theorem dL_law_224 : decode cL_law 224 = .ok (.iadd, 1) := by decide +kernel
theorem dL_law_225 : decode cL_law 225 = .ok (.iaload, 1) := by decide +kernel
theorem dL_law_226 : decode cL_law 226 = .ok (.invokevirtual 24, 3) := by decide +kernel
theorem dL_law_229 : decode cL_law 229 = .ok (.if_icmp .eq 694, 3) := by decide +kernel
theorem dL_law_232 : decode cL_law 232 = .ok (.iconst 0, 1) := by decide +kernel
theorem dL_law_233 : decode cL_law 233 = .ok (.ireturn, 1) := by decide +kernel
theorem dL_law_234 : decode cL_law 234 = .ok (.aload_n 1, 1) := by decide +kernel
theorem dL_law_235 : decode cL_law 235 = .ok (.aload_n 0, 1) := by decide +kernel
theorem dL_law_236 : decode cL_law 236 = .ok (.iload_n 3, 1) := by decide +kernel
theorem dL_law_237 : decode cL_law 237 = .ok (.iconst 1, 1) := by decide +kernel
theorem dL_law_238 : decode cL_law 238 = .ok (.iadd, 1) := by decide +kernel
theorem dL_law_239 : decode cL_law 239 = .ok (.iaload, 1) := by decide +kernel
theorem dL_law_240 : decode cL_law 240 = .ok (.aload_n 0, 1) := by decide +kernel
theorem dL_law_241 : decode cL_law 241 = .ok (.iload_n 3, 1) := by decide +kernel
theorem dL_law_242 : decode cL_law 242 = .ok (.iconst 2, 1) := by decide +kernel
theorem dL_law_243 : decode cL_law 243 = .ok (.iadd, 1) := by decide +kernel
theorem dL_law_244 : decode cL_law 244 = .ok (.iaload, 1) := by decide +kernel
theorem dL_law_245 : decode cL_law 245 = .ok (.invokevirtual 25, 3) := by decide +kernel
theorem dL_law_248 : decode cL_law 248 = .ok (.aload_n 2, 1) := by decide +kernel
theorem dL_law_249 : decode cL_law 249 = .ok (.aload_n 0, 1) := by decide +kernel
theorem dL_law_250 : decode cL_law 250 = .ok (.iload_n 3, 1) := by decide +kernel
theorem dL_law_251 : decode cL_law 251 = .ok (.iconst 1, 1) := by decide +kernel
theorem dL_law_252 : decode cL_law 252 = .ok (.iadd, 1) := by decide +kernel
theorem dL_law_253 : decode cL_law 253 = .ok (.iaload, 1) := by decide +kernel
theorem dL_law_254 : decode cL_law 254 = .ok (.aload_n 0, 1) := by decide +kernel
theorem dL_law_255 : decode cL_law 255 = .ok (.iload_n 3, 1) := by decide +kernel
theorem dL_law_256 : decode cL_law 256 = .ok (.iconst 2, 1) := by decide +kernel
theorem dL_law_257 : decode cL_law 257 = .ok (.iadd, 1) := by decide +kernel
theorem dL_law_258 : decode cL_law 258 = .ok (.iaload, 1) := by decide +kernel
theorem dL_law_259 : decode cL_law 259 = .ok (.invokevirtual 29, 3) := by decide +kernel
theorem dL_law_262 : decode cL_law 262 = .ok (.if_icmp .eq 661, 3) := by decide +kernel
theorem dL_law_265 : decode cL_law 265 = .ok (.iconst 0, 1) := by decide +kernel
theorem dL_law_266 : decode cL_law 266 = .ok (.ireturn, 1) := by decide +kernel
theorem dL_law_267 : decode cL_law 267 = .ok (.aload_n 1, 1) := by decide +kernel
theorem dL_law_268 : decode cL_law 268 = .ok (.invokevirtual 30, 3) := by decide +kernel
theorem dL_law_271 : decode cL_law 271 = .ok (.aload_n 2, 1) := by decide +kernel
theorem dL_law_272 : decode cL_law 272 = .ok (.invokevirtual 34, 3) := by decide +kernel
theorem dL_law_275 : decode cL_law 275 = .ok (.if_icmp .eq 648, 3) := by decide +kernel
theorem dL_law_278 : decode cL_law 278 = .ok (.iconst 0, 1) := by decide +kernel
theorem dL_law_279 : decode cL_law 279 = .ok (.ireturn, 1) := by decide +kernel
theorem dL_law_280 : decode cL_law 280 = .ok (.aload_n 1, 1) := by decide +kernel
theorem dL_law_281 : decode cL_law 281 = .ok (.aload_n 0, 1) := by decide +kernel
theorem dL_law_282 : decode cL_law 282 = .ok (.iload_n 3, 1) := by decide +kernel
theorem dL_law_283 : decode cL_law 283 = .ok (.iconst 1, 1) := by decide +kernel
theorem dL_law_284 : decode cL_law 284 = .ok (.iadd, 1) := by decide +kernel
theorem dL_law_285 : decode cL_law 285 = .ok (.iaload, 1) := by decide +kernel
theorem dL_law_286 : decode cL_law 286 = .ok (.aload_n 0, 1) := by decide +kernel
theorem dL_law_287 : decode cL_law 287 = .ok (.iload_n 3, 1) := by decide +kernel
theorem dL_law_288 : decode cL_law 288 = .ok (.iconst 2, 1) := by decide +kernel
theorem dL_law_289 : decode cL_law 289 = .ok (.iadd, 1) := by decide +kernel
theorem dL_law_290 : decode cL_law 290 = .ok (.iaload, 1) := by decide +kernel
theorem dL_law_291 : decode cL_law 291 = .ok (.invokevirtual 35, 3) := by decide +kernel
theorem dL_law_294 : decode cL_law 294 = .ok (.aload_n 2, 1) := by decide +kernel
theorem dL_law_295 : decode cL_law 295 = .ok (.aload_n 0, 1) := by decide +kernel
theorem dL_law_296 : decode cL_law 296 = .ok (.iload_n 3, 1) := by decide +kernel
theorem dL_law_297 : decode cL_law 297 = .ok (.iconst 1, 1) := by decide +kernel
theorem dL_law_298 : decode cL_law 298 = .ok (.iadd, 1) := by decide +kernel
theorem dL_law_299 : decode cL_law 299 = .ok (.iaload, 1) := by decide +kernel
theorem dL_law_300 : decode cL_law 300 = .ok (.aload_n 0, 1) := by decide +kernel
theorem dL_law_301 : decode cL_law 301 = .ok (.iload_n 3, 1) := by decide +kernel
theorem dL_law_302 : decode cL_law 302 = .ok (.iconst 2, 1) := by decide +kernel
theorem dL_law_303 : decode cL_law 303 = .ok (.iadd, 1) := by decide +kernel
theorem dL_law_304 : decode cL_law 304 = .ok (.iaload, 1) := by decide +kernel
theorem dL_law_305 : decode cL_law 305 = .ok (.invokevirtual 38, 3) := by decide +kernel
theorem dL_law_308 : decode cL_law 308 = .ok (.if_icmp .eq 615, 3) := by decide +kernel
theorem dL_law_311 : decode cL_law 311 = .ok (.iconst 0, 1) := by decide +kernel
theorem dL_law_312 : decode cL_law 312 = .ok (.ireturn, 1) := by decide +kernel
theorem dL_law_313 : decode cL_law 313 = .ok (.aload_n 1, 1) := by decide +kernel
theorem dL_law_314 : decode cL_law 314 = .ok (.aload_n 0, 1) := by decide +kernel
theorem dL_law_315 : decode cL_law 315 = .ok (.iload_n 3, 1) := by decide +kernel
theorem dL_law_316 : decode cL_law 316 = .ok (.iconst 1, 1) := by decide +kernel
theorem dL_law_317 : decode cL_law 317 = .ok (.iadd, 1) := by decide +kernel
theorem dL_law_318 : decode cL_law 318 = .ok (.iaload, 1) := by decide +kernel
theorem dL_law_319 : decode cL_law 319 = .ok (.aload_n 0, 1) := by decide +kernel
theorem dL_law_320 : decode cL_law 320 = .ok (.iload_n 3, 1) := by decide +kernel
theorem dL_law_321 : decode cL_law 321 = .ok (.iconst 2, 1) := by decide +kernel
theorem dL_law_322 : decode cL_law 322 = .ok (.iadd, 1) := by decide +kernel
theorem dL_law_323 : decode cL_law 323 = .ok (.iaload, 1) := by decide +kernel
theorem dL_law_324 : decode cL_law 324 = .ok (.i2l, 1) := by decide +kernel
theorem dL_law_325 : decode cL_law 325 = .ok (.bipush 32, 2) := by decide +kernel
theorem dL_law_327 : decode cL_law 327 = .ok (.lshl, 1) := by decide +kernel
theorem dL_law_328 : decode cL_law 328 = .ok (.aload_n 0, 1) := by decide +kernel
theorem dL_law_329 : decode cL_law 329 = .ok (.iload_n 3, 1) := by decide +kernel
theorem dL_law_330 : decode cL_law 330 = .ok (.iconst 3, 1) := by decide +kernel
theorem dL_law_331 : decode cL_law 331 = .ok (.iadd, 1) := by decide +kernel
theorem dL_law_332 : decode cL_law 332 = .ok (.iaload, 1) := by decide +kernel
theorem dL_law_333 : decode cL_law 333 = .ok (.i2l, 1) := by decide +kernel
theorem dL_law_334 : decode cL_law 334 = .ok (.ldc2_w 13, 3) := by decide +kernel
theorem dL_law_337 : decode cL_law 337 = .ok (.land, 1) := by decide +kernel
theorem dL_law_338 : decode cL_law 338 = .ok (.lor, 1) := by decide +kernel
theorem dL_law_339 : decode cL_law 339 = .ok (.invokevirtual 39, 3) := by decide +kernel
theorem dL_law_342 : decode cL_law 342 = .ok (.aload_n 2, 1) := by decide +kernel
theorem dL_law_343 : decode cL_law 343 = .ok (.aload_n 0, 1) := by decide +kernel
theorem dL_law_344 : decode cL_law 344 = .ok (.iload_n 3, 1) := by decide +kernel
theorem dL_law_345 : decode cL_law 345 = .ok (.iconst 1, 1) := by decide +kernel
theorem dL_law_346 : decode cL_law 346 = .ok (.iadd, 1) := by decide +kernel
theorem dL_law_347 : decode cL_law 347 = .ok (.iaload, 1) := by decide +kernel
theorem dL_law_348 : decode cL_law 348 = .ok (.aload_n 0, 1) := by decide +kernel
theorem dL_law_349 : decode cL_law 349 = .ok (.iload_n 3, 1) := by decide +kernel
theorem dL_law_350 : decode cL_law 350 = .ok (.iconst 2, 1) := by decide +kernel
theorem dL_law_351 : decode cL_law 351 = .ok (.iadd, 1) := by decide +kernel
theorem dL_law_352 : decode cL_law 352 = .ok (.iaload, 1) := by decide +kernel
theorem dL_law_353 : decode cL_law 353 = .ok (.i2l, 1) := by decide +kernel
theorem dL_law_354 : decode cL_law 354 = .ok (.bipush 32, 2) := by decide +kernel
theorem dL_law_356 : decode cL_law 356 = .ok (.lshl, 1) := by decide +kernel
theorem dL_law_357 : decode cL_law 357 = .ok (.aload_n 0, 1) := by decide +kernel
theorem dL_law_358 : decode cL_law 358 = .ok (.iload_n 3, 1) := by decide +kernel
theorem dL_law_359 : decode cL_law 359 = .ok (.iconst 3, 1) := by decide +kernel
theorem dL_law_360 : decode cL_law 360 = .ok (.iadd, 1) := by decide +kernel
theorem dL_law_361 : decode cL_law 361 = .ok (.iaload, 1) := by decide +kernel
theorem dL_law_362 : decode cL_law 362 = .ok (.i2l, 1) := by decide +kernel
theorem dL_law_363 : decode cL_law 363 = .ok (.ldc2_w 13, 3) := by decide +kernel
theorem dL_law_366 : decode cL_law 366 = .ok (.land, 1) := by decide +kernel
theorem dL_law_367 : decode cL_law 367 = .ok (.lor, 1) := by decide +kernel
theorem dL_law_368 : decode cL_law 368 = .ok (.invokevirtual 42, 3) := by decide +kernel
theorem dL_law_371 : decode cL_law 371 = .ok (.if_icmp .eq 552, 3) := by decide +kernel
theorem dL_law_374 : decode cL_law 374 = .ok (.iconst 0, 1) := by decide +kernel
theorem dL_law_375 : decode cL_law 375 = .ok (.ireturn, 1) := by decide +kernel
theorem dL_law_376 : decode cL_law 376 = .ok (.aload_n 1, 1) := by decide +kernel
theorem dL_law_377 : decode cL_law 377 = .ok (.aload_n 0, 1) := by decide +kernel
theorem dL_law_378 : decode cL_law 378 = .ok (.iload_n 3, 1) := by decide +kernel
theorem dL_law_379 : decode cL_law 379 = .ok (.iconst 1, 1) := by decide +kernel
theorem dL_law_380 : decode cL_law 380 = .ok (.iadd, 1) := by decide +kernel
theorem dL_law_381 : decode cL_law 381 = .ok (.iaload, 1) := by decide +kernel
theorem dL_law_382 : decode cL_law 382 = .ok (.invokevirtual 43, 3) := by decide +kernel
theorem dL_law_385 : decode cL_law 385 = .ok (.aload_n 2, 1) := by decide +kernel
theorem dL_law_386 : decode cL_law 386 = .ok (.aload_n 0, 1) := by decide +kernel
theorem dL_law_387 : decode cL_law 387 = .ok (.iload_n 3, 1) := by decide +kernel
theorem dL_law_388 : decode cL_law 388 = .ok (.iconst 1, 1) := by decide +kernel
theorem dL_law_389 : decode cL_law 389 = .ok (.iadd, 1) := by decide +kernel
theorem dL_law_390 : decode cL_law 390 = .ok (.iaload, 1) := by decide +kernel
theorem dL_law_391 : decode cL_law 391 = .ok (.invokevirtual 46, 3) := by decide +kernel
theorem dL_law_394 : decode cL_law 394 = .ok (.if_icmp .eq 529, 3) := by decide +kernel
theorem dL_law_397 : decode cL_law 397 = .ok (.iconst 0, 1) := by decide +kernel
theorem dL_law_398 : decode cL_law 398 = .ok (.ireturn, 1) := by decide +kernel
theorem dL_law_399 : decode cL_law 399 = .ok (.aload_n 1, 1) := by decide +kernel
theorem dL_law_400 : decode cL_law 400 = .ok (.aload_n 0, 1) := by decide +kernel
theorem dL_law_401 : decode cL_law 401 = .ok (.iload_n 3, 1) := by decide +kernel
theorem dL_law_402 : decode cL_law 402 = .ok (.iconst 1, 1) := by decide +kernel
theorem dL_law_403 : decode cL_law 403 = .ok (.iadd, 1) := by decide +kernel
theorem dL_law_404 : decode cL_law 404 = .ok (.iaload, 1) := by decide +kernel
theorem dL_law_405 : decode cL_law 405 = .ok (.invokevirtual 47, 3) := by decide +kernel
theorem dL_law_408 : decode cL_law 408 = .ok (.aload_n 2, 1) := by decide +kernel
theorem dL_law_409 : decode cL_law 409 = .ok (.aload_n 0, 1) := by decide +kernel
theorem dL_law_410 : decode cL_law 410 = .ok (.iload_n 3, 1) := by decide +kernel
theorem dL_law_411 : decode cL_law 411 = .ok (.iconst 1, 1) := by decide +kernel
theorem dL_law_412 : decode cL_law 412 = .ok (.iadd, 1) := by decide +kernel
theorem dL_law_413 : decode cL_law 413 = .ok (.iaload, 1) := by decide +kernel
theorem dL_law_414 : decode cL_law 414 = .ok (.invokevirtual 50, 3) := by decide +kernel
theorem dL_law_417 : decode cL_law 417 = .ok (.if_icmp .eq 506, 3) := by decide +kernel
theorem dL_law_420 : decode cL_law 420 = .ok (.iconst 0, 1) := by decide +kernel
theorem dL_law_421 : decode cL_law 421 = .ok (.ireturn, 1) := by decide +kernel
theorem dL_law_422 : decode cL_law 422 = .ok (.aload_n 1, 1) := by decide +kernel
theorem dL_law_423 : decode cL_law 423 = .ok (.invokevirtual 51, 3) := by decide +kernel
theorem dL_law_426 : decode cL_law 426 = .ok (.aload_n 2, 1) := by decide +kernel
theorem dL_law_427 : decode cL_law 427 = .ok (.invokevirtual 54, 3) := by decide +kernel
theorem dL_law_430 : decode cL_law 430 = .ok (.if_icmp .eq 493, 3) := by decide +kernel
theorem dL_law_433 : decode cL_law 433 = .ok (.iconst 0, 1) := by decide +kernel
theorem dL_law_434 : decode cL_law 434 = .ok (.ireturn, 1) := by decide +kernel
theorem dL_law_435 : decode cL_law 435 = .ok (.aload_n 1, 1) := by decide +kernel
theorem dL_law_436 : decode cL_law 436 = .ok (.aload_n 0, 1) := by decide +kernel
theorem dL_law_437 : decode cL_law 437 = .ok (.iload_n 3, 1) := by decide +kernel
theorem dL_law_438 : decode cL_law 438 = .ok (.iconst 1, 1) := by decide +kernel
theorem dL_law_439 : decode cL_law 439 = .ok (.iadd, 1) := by decide +kernel
theorem dL_law_440 : decode cL_law 440 = .ok (.iaload, 1) := by decide +kernel
theorem dL_law_441 : decode cL_law 441 = .ok (.invokevirtual 55, 3) := by decide +kernel
theorem dL_law_444 : decode cL_law 444 = .ok (.aload_n 2, 1) := by decide +kernel
theorem dL_law_445 : decode cL_law 445 = .ok (.aload_n 0, 1) := by decide +kernel
theorem dL_law_446 : decode cL_law 446 = .ok (.iload_n 3, 1) := by decide +kernel
theorem dL_law_447 : decode cL_law 447 = .ok (.iconst 1, 1) := by decide +kernel
theorem dL_law_448 : decode cL_law 448 = .ok (.iadd, 1) := by decide +kernel
theorem dL_law_449 : decode cL_law 449 = .ok (.iaload, 1) := by decide +kernel
theorem dL_law_450 : decode cL_law 450 = .ok (.invokevirtual 58, 3) := by decide +kernel
theorem dL_law_453 : decode cL_law 453 = .ok (.if_icmp .eq 470, 3) := by decide +kernel
theorem dL_law_456 : decode cL_law 456 = .ok (.iconst 0, 1) := by decide +kernel
theorem dL_law_457 : decode cL_law 457 = .ok (.ireturn, 1) := by decide +kernel
theorem dL_law_458 : decode cL_law 458 = .ok (.aload_n 1, 1) := by decide +kernel
theorem dL_law_459 : decode cL_law 459 = .ok (.invokevirtual 59, 3) := by decide +kernel
theorem dL_law_462 : decode cL_law 462 = .ok (.aload_n 2, 1) := by decide +kernel
theorem dL_law_463 : decode cL_law 463 = .ok (.invokevirtual 62, 3) := by decide +kernel
theorem dL_law_466 : decode cL_law 466 = .ok (.if_icmp .eq 457, 3) := by decide +kernel
theorem dL_law_469 : decode cL_law 469 = .ok (.iconst 0, 1) := by decide +kernel
theorem dL_law_470 : decode cL_law 470 = .ok (.ireturn, 1) := by decide +kernel
theorem dL_law_471 : decode cL_law 471 = .ok (.aload_n 1, 1) := by decide +kernel
theorem dL_law_472 : decode cL_law 472 = .ok (.invokevirtual 63, 3) := by decide +kernel
theorem dL_law_475 : decode cL_law 475 = .ok (.aload_n 2, 1) := by decide +kernel
theorem dL_law_476 : decode cL_law 476 = .ok (.invokevirtual 66, 3) := by decide +kernel
theorem dL_law_479 : decode cL_law 479 = .ok (.if_icmp .eq 444, 3) := by decide +kernel
theorem dL_law_482 : decode cL_law 482 = .ok (.iconst 0, 1) := by decide +kernel
theorem dL_law_483 : decode cL_law 483 = .ok (.ireturn, 1) := by decide +kernel
theorem dL_law_484 : decode cL_law 484 = .ok (.aload_n 1, 1) := by decide +kernel
theorem dL_law_485 : decode cL_law 485 = .ok (.aload_n 0, 1) := by decide +kernel
theorem dL_law_486 : decode cL_law 486 = .ok (.iload_n 3, 1) := by decide +kernel
theorem dL_law_487 : decode cL_law 487 = .ok (.iconst 1, 1) := by decide +kernel
theorem dL_law_488 : decode cL_law 488 = .ok (.iadd, 1) := by decide +kernel
theorem dL_law_489 : decode cL_law 489 = .ok (.iaload, 1) := by decide +kernel
theorem dL_law_490 : decode cL_law 490 = .ok (.invokevirtual 67, 3) := by decide +kernel
theorem dL_law_493 : decode cL_law 493 = .ok (.aload_n 2, 1) := by decide +kernel
theorem dL_law_494 : decode cL_law 494 = .ok (.aload_n 0, 1) := by decide +kernel
theorem dL_law_495 : decode cL_law 495 = .ok (.iload_n 3, 1) := by decide +kernel
theorem dL_law_496 : decode cL_law 496 = .ok (.iconst 1, 1) := by decide +kernel
theorem dL_law_497 : decode cL_law 497 = .ok (.iadd, 1) := by decide +kernel
theorem dL_law_498 : decode cL_law 498 = .ok (.iaload, 1) := by decide +kernel
theorem dL_law_499 : decode cL_law 499 = .ok (.invokevirtual 70, 3) := by decide +kernel
theorem dL_law_502 : decode cL_law 502 = .ok (.if_icmp .eq 421, 3) := by decide +kernel
theorem dL_law_505 : decode cL_law 505 = .ok (.iconst 0, 1) := by decide +kernel
theorem dL_law_506 : decode cL_law 506 = .ok (.ireturn, 1) := by decide +kernel
theorem dL_law_507 : decode cL_law 507 = .ok (.aload_n 1, 1) := by decide +kernel
theorem dL_law_508 : decode cL_law 508 = .ok (.aload_n 0, 1) := by decide +kernel
theorem dL_law_509 : decode cL_law 509 = .ok (.iload_n 3, 1) := by decide +kernel
theorem dL_law_510 : decode cL_law 510 = .ok (.iconst 1, 1) := by decide +kernel
theorem dL_law_511 : decode cL_law 511 = .ok (.iadd, 1) := by decide +kernel
theorem dL_law_512 : decode cL_law 512 = .ok (.iaload, 1) := by decide +kernel
theorem dL_law_513 : decode cL_law 513 = .ok (.invokevirtual 71, 3) := by decide +kernel
theorem dL_law_516 : decode cL_law 516 = .ok (.aload_n 2, 1) := by decide +kernel
theorem dL_law_517 : decode cL_law 517 = .ok (.aload_n 0, 1) := by decide +kernel
theorem dL_law_518 : decode cL_law 518 = .ok (.iload_n 3, 1) := by decide +kernel
theorem dL_law_519 : decode cL_law 519 = .ok (.iconst 1, 1) := by decide +kernel
theorem dL_law_520 : decode cL_law 520 = .ok (.iadd, 1) := by decide +kernel
theorem dL_law_521 : decode cL_law 521 = .ok (.iaload, 1) := by decide +kernel
theorem dL_law_522 : decode cL_law 522 = .ok (.invokevirtual 74, 3) := by decide +kernel
theorem dL_law_525 : decode cL_law 525 = .ok (.if_icmp .eq 398, 3) := by decide +kernel
theorem dL_law_528 : decode cL_law 528 = .ok (.iconst 0, 1) := by decide +kernel
theorem dL_law_529 : decode cL_law 529 = .ok (.ireturn, 1) := by decide +kernel
theorem dL_law_530 : decode cL_law 530 = .ok (.aload_n 1, 1) := by decide +kernel
theorem dL_law_531 : decode cL_law 531 = .ok (.aload_n 0, 1) := by decide +kernel
theorem dL_law_532 : decode cL_law 532 = .ok (.iload_n 3, 1) := by decide +kernel
theorem dL_law_533 : decode cL_law 533 = .ok (.iconst 1, 1) := by decide +kernel
theorem dL_law_534 : decode cL_law 534 = .ok (.iadd, 1) := by decide +kernel
theorem dL_law_535 : decode cL_law 535 = .ok (.iaload, 1) := by decide +kernel
theorem dL_law_536 : decode cL_law 536 = .ok (.aload_n 0, 1) := by decide +kernel
theorem dL_law_537 : decode cL_law 537 = .ok (.iload_n 3, 1) := by decide +kernel
theorem dL_law_538 : decode cL_law 538 = .ok (.iconst 2, 1) := by decide +kernel
theorem dL_law_539 : decode cL_law 539 = .ok (.iadd, 1) := by decide +kernel
theorem dL_law_540 : decode cL_law 540 = .ok (.iaload, 1) := by decide +kernel
theorem dL_law_541 : decode cL_law 541 = .ok (.invokevirtual 75, 3) := by decide +kernel
theorem dL_law_544 : decode cL_law 544 = .ok (.aload_n 2, 1) := by decide +kernel
theorem dL_law_545 : decode cL_law 545 = .ok (.aload_n 0, 1) := by decide +kernel
theorem dL_law_546 : decode cL_law 546 = .ok (.iload_n 3, 1) := by decide +kernel
theorem dL_law_547 : decode cL_law 547 = .ok (.iconst 1, 1) := by decide +kernel
theorem dL_law_548 : decode cL_law 548 = .ok (.iadd, 1) := by decide +kernel
theorem dL_law_549 : decode cL_law 549 = .ok (.iaload, 1) := by decide +kernel
theorem dL_law_550 : decode cL_law 550 = .ok (.aload_n 0, 1) := by decide +kernel
theorem dL_law_551 : decode cL_law 551 = .ok (.iload_n 3, 1) := by decide +kernel
theorem dL_law_552 : decode cL_law 552 = .ok (.iconst 2, 1) := by decide +kernel
theorem dL_law_553 : decode cL_law 553 = .ok (.iadd, 1) := by decide +kernel
theorem dL_law_554 : decode cL_law 554 = .ok (.iaload, 1) := by decide +kernel
theorem dL_law_555 : decode cL_law 555 = .ok (.invokevirtual 78, 3) := by decide +kernel
theorem dL_law_558 : decode cL_law 558 = .ok (.if_icmp .eq 365, 3) := by decide +kernel
theorem dL_law_561 : decode cL_law 561 = .ok (.iconst 0, 1) := by decide +kernel
theorem dL_law_562 : decode cL_law 562 = .ok (.ireturn, 1) := by decide +kernel
theorem dL_law_563 : decode cL_law 563 = .ok (.aload_n 1, 1) := by decide +kernel
theorem dL_law_564 : decode cL_law 564 = .ok (.aload_n 0, 1) := by decide +kernel
theorem dL_law_565 : decode cL_law 565 = .ok (.iload_n 3, 1) := by decide +kernel
theorem dL_law_566 : decode cL_law 566 = .ok (.iconst 1, 1) := by decide +kernel
theorem dL_law_567 : decode cL_law 567 = .ok (.iadd, 1) := by decide +kernel
theorem dL_law_568 : decode cL_law 568 = .ok (.iaload, 1) := by decide +kernel
theorem dL_law_569 : decode cL_law 569 = .ok (.aload_n 0, 1) := by decide +kernel
theorem dL_law_570 : decode cL_law 570 = .ok (.iload_n 3, 1) := by decide +kernel
theorem dL_law_571 : decode cL_law 571 = .ok (.iconst 2, 1) := by decide +kernel
theorem dL_law_572 : decode cL_law 572 = .ok (.iadd, 1) := by decide +kernel
theorem dL_law_573 : decode cL_law 573 = .ok (.iaload, 1) := by decide +kernel
theorem dL_law_574 : decode cL_law 574 = .ok (.aload_n 0, 1) := by decide +kernel
theorem dL_law_575 : decode cL_law 575 = .ok (.iload_n 3, 1) := by decide +kernel
theorem dL_law_576 : decode cL_law 576 = .ok (.iconst 3, 1) := by decide +kernel
theorem dL_law_577 : decode cL_law 577 = .ok (.iadd, 1) := by decide +kernel
theorem dL_law_578 : decode cL_law 578 = .ok (.iaload, 1) := by decide +kernel
theorem dL_law_579 : decode cL_law 579 = .ok (.invokevirtual 79, 3) := by decide +kernel
theorem dL_law_582 : decode cL_law 582 = .ok (.aload_n 2, 1) := by decide +kernel
theorem dL_law_583 : decode cL_law 583 = .ok (.aload_n 0, 1) := by decide +kernel
theorem dL_law_584 : decode cL_law 584 = .ok (.iload_n 3, 1) := by decide +kernel
theorem dL_law_585 : decode cL_law 585 = .ok (.iconst 1, 1) := by decide +kernel
theorem dL_law_586 : decode cL_law 586 = .ok (.iadd, 1) := by decide +kernel
theorem dL_law_587 : decode cL_law 587 = .ok (.iaload, 1) := by decide +kernel
theorem dL_law_588 : decode cL_law 588 = .ok (.aload_n 0, 1) := by decide +kernel
theorem dL_law_589 : decode cL_law 589 = .ok (.iload_n 3, 1) := by decide +kernel
theorem dL_law_590 : decode cL_law 590 = .ok (.iconst 2, 1) := by decide +kernel
theorem dL_law_591 : decode cL_law 591 = .ok (.iadd, 1) := by decide +kernel
theorem dL_law_592 : decode cL_law 592 = .ok (.iaload, 1) := by decide +kernel
theorem dL_law_593 : decode cL_law 593 = .ok (.aload_n 0, 1) := by decide +kernel
theorem dL_law_594 : decode cL_law 594 = .ok (.iload_n 3, 1) := by decide +kernel
theorem dL_law_595 : decode cL_law 595 = .ok (.iconst 3, 1) := by decide +kernel
theorem dL_law_596 : decode cL_law 596 = .ok (.iadd, 1) := by decide +kernel
theorem dL_law_597 : decode cL_law 597 = .ok (.iaload, 1) := by decide +kernel
theorem dL_law_598 : decode cL_law 598 = .ok (.invokevirtual 83, 3) := by decide +kernel
theorem dL_law_601 : decode cL_law 601 = .ok (.if_icmp .eq 322, 3) := by decide +kernel
theorem dL_law_604 : decode cL_law 604 = .ok (.iconst 0, 1) := by decide +kernel
theorem dL_law_605 : decode cL_law 605 = .ok (.ireturn, 1) := by decide +kernel
theorem dL_law_606 : decode cL_law 606 = .ok (.aload_n 1, 1) := by decide +kernel
theorem dL_law_607 : decode cL_law 607 = .ok (.aload_n 0, 1) := by decide +kernel
theorem dL_law_608 : decode cL_law 608 = .ok (.iload_n 3, 1) := by decide +kernel
theorem dL_law_609 : decode cL_law 609 = .ok (.iconst 1, 1) := by decide +kernel
theorem dL_law_610 : decode cL_law 610 = .ok (.iadd, 1) := by decide +kernel
theorem dL_law_611 : decode cL_law 611 = .ok (.iaload, 1) := by decide +kernel
theorem dL_law_612 : decode cL_law 612 = .ok (.aload_n 0, 1) := by decide +kernel
theorem dL_law_613 : decode cL_law 613 = .ok (.iload_n 3, 1) := by decide +kernel
theorem dL_law_614 : decode cL_law 614 = .ok (.iconst 2, 1) := by decide +kernel
theorem dL_law_615 : decode cL_law 615 = .ok (.iadd, 1) := by decide +kernel
theorem dL_law_616 : decode cL_law 616 = .ok (.iaload, 1) := by decide +kernel
theorem dL_law_617 : decode cL_law 617 = .ok (.aload_n 0, 1) := by decide +kernel
theorem dL_law_618 : decode cL_law 618 = .ok (.iload_n 3, 1) := by decide +kernel
theorem dL_law_619 : decode cL_law 619 = .ok (.iconst 3, 1) := by decide +kernel
theorem dL_law_620 : decode cL_law 620 = .ok (.iadd, 1) := by decide +kernel
theorem dL_law_621 : decode cL_law 621 = .ok (.iaload, 1) := by decide +kernel
theorem dL_law_622 : decode cL_law 622 = .ok (.invokevirtual 84, 3) := by decide +kernel
theorem dL_law_625 : decode cL_law 625 = .ok (.aload_n 2, 1) := by decide +kernel
theorem dL_law_626 : decode cL_law 626 = .ok (.aload_n 0, 1) := by decide +kernel
theorem dL_law_627 : decode cL_law 627 = .ok (.iload_n 3, 1) := by decide +kernel
theorem dL_law_628 : decode cL_law 628 = .ok (.iconst 1, 1) := by decide +kernel
theorem dL_law_629 : decode cL_law 629 = .ok (.iadd, 1) := by decide +kernel
theorem dL_law_630 : decode cL_law 630 = .ok (.iaload, 1) := by decide +kernel
theorem dL_law_631 : decode cL_law 631 = .ok (.aload_n 0, 1) := by decide +kernel
theorem dL_law_632 : decode cL_law 632 = .ok (.iload_n 3, 1) := by decide +kernel
theorem dL_law_633 : decode cL_law 633 = .ok (.iconst 2, 1) := by decide +kernel
theorem dL_law_634 : decode cL_law 634 = .ok (.iadd, 1) := by decide +kernel
theorem dL_law_635 : decode cL_law 635 = .ok (.iaload, 1) := by decide +kernel
theorem dL_law_636 : decode cL_law 636 = .ok (.aload_n 0, 1) := by decide +kernel
theorem dL_law_637 : decode cL_law 637 = .ok (.iload_n 3, 1) := by decide +kernel
theorem dL_law_638 : decode cL_law 638 = .ok (.iconst 3, 1) := by decide +kernel
theorem dL_law_639 : decode cL_law 639 = .ok (.iadd, 1) := by decide +kernel
theorem dL_law_640 : decode cL_law 640 = .ok (.iaload, 1) := by decide +kernel
theorem dL_law_641 : decode cL_law 641 = .ok (.invokevirtual 87, 3) := by decide +kernel
theorem dL_law_644 : decode cL_law 644 = .ok (.if_icmp .eq 279, 3) := by decide +kernel
theorem dL_law_647 : decode cL_law 647 = .ok (.iconst 0, 1) := by decide +kernel
theorem dL_law_648 : decode cL_law 648 = .ok (.ireturn, 1) := by decide +kernel
theorem dL_law_649 : decode cL_law 649 = .ok (.aload_n 1, 1) := by decide +kernel
theorem dL_law_650 : decode cL_law 650 = .ok (.aload_n 0, 1) := by decide +kernel
theorem dL_law_651 : decode cL_law 651 = .ok (.iload_n 3, 1) := by decide +kernel
theorem dL_law_652 : decode cL_law 652 = .ok (.iconst 1, 1) := by decide +kernel
theorem dL_law_653 : decode cL_law 653 = .ok (.iadd, 1) := by decide +kernel
theorem dL_law_654 : decode cL_law 654 = .ok (.iaload, 1) := by decide +kernel
theorem dL_law_655 : decode cL_law 655 = .ok (.aload_n 0, 1) := by decide +kernel
theorem dL_law_656 : decode cL_law 656 = .ok (.iload_n 3, 1) := by decide +kernel
theorem dL_law_657 : decode cL_law 657 = .ok (.iconst 2, 1) := by decide +kernel
theorem dL_law_658 : decode cL_law 658 = .ok (.iadd, 1) := by decide +kernel
theorem dL_law_659 : decode cL_law 659 = .ok (.iaload, 1) := by decide +kernel
theorem dL_law_660 : decode cL_law 660 = .ok (.aload_n 0, 1) := by decide +kernel
theorem dL_law_661 : decode cL_law 661 = .ok (.iload_n 3, 1) := by decide +kernel
theorem dL_law_662 : decode cL_law 662 = .ok (.iconst 3, 1) := by decide +kernel
theorem dL_law_663 : decode cL_law 663 = .ok (.iadd, 1) := by decide +kernel
theorem dL_law_664 : decode cL_law 664 = .ok (.iaload, 1) := by decide +kernel
theorem dL_law_665 : decode cL_law 665 = .ok (.invokevirtual 88, 3) := by decide +kernel
theorem dL_law_668 : decode cL_law 668 = .ok (.aload_n 2, 1) := by decide +kernel
theorem dL_law_669 : decode cL_law 669 = .ok (.aload_n 0, 1) := by decide +kernel
theorem dL_law_670 : decode cL_law 670 = .ok (.iload_n 3, 1) := by decide +kernel
theorem dL_law_671 : decode cL_law 671 = .ok (.iconst 1, 1) := by decide +kernel
theorem dL_law_672 : decode cL_law 672 = .ok (.iadd, 1) := by decide +kernel
theorem dL_law_673 : decode cL_law 673 = .ok (.iaload, 1) := by decide +kernel
theorem dL_law_674 : decode cL_law 674 = .ok (.aload_n 0, 1) := by decide +kernel
theorem dL_law_675 : decode cL_law 675 = .ok (.iload_n 3, 1) := by decide +kernel
theorem dL_law_676 : decode cL_law 676 = .ok (.iconst 2, 1) := by decide +kernel
theorem dL_law_677 : decode cL_law 677 = .ok (.iadd, 1) := by decide +kernel
theorem dL_law_678 : decode cL_law 678 = .ok (.iaload, 1) := by decide +kernel
theorem dL_law_679 : decode cL_law 679 = .ok (.aload_n 0, 1) := by decide +kernel
theorem dL_law_680 : decode cL_law 680 = .ok (.iload_n 3, 1) := by decide +kernel
theorem dL_law_681 : decode cL_law 681 = .ok (.iconst 3, 1) := by decide +kernel
theorem dL_law_682 : decode cL_law 682 = .ok (.iadd, 1) := by decide +kernel
theorem dL_law_683 : decode cL_law 683 = .ok (.iaload, 1) := by decide +kernel
theorem dL_law_684 : decode cL_law 684 = .ok (.invokevirtual 91, 3) := by decide +kernel
theorem dL_law_687 : decode cL_law 687 = .ok (.if_icmp .eq 236, 3) := by decide +kernel
theorem dL_law_690 : decode cL_law 690 = .ok (.iconst 0, 1) := by decide +kernel
theorem dL_law_691 : decode cL_law 691 = .ok (.ireturn, 1) := by decide +kernel
theorem dL_law_692 : decode cL_law 692 = .ok (.aload_n 1, 1) := by decide +kernel
theorem dL_law_693 : decode cL_law 693 = .ok (.aload_n 0, 1) := by decide +kernel
theorem dL_law_694 : decode cL_law 694 = .ok (.iload_n 3, 1) := by decide +kernel
theorem dL_law_695 : decode cL_law 695 = .ok (.iconst 1, 1) := by decide +kernel
theorem dL_law_696 : decode cL_law 696 = .ok (.iadd, 1) := by decide +kernel
theorem dL_law_697 : decode cL_law 697 = .ok (.iaload, 1) := by decide +kernel
theorem dL_law_698 : decode cL_law 698 = .ok (.aload_n 0, 1) := by decide +kernel
theorem dL_law_699 : decode cL_law 699 = .ok (.iload_n 3, 1) := by decide +kernel
theorem dL_law_700 : decode cL_law 700 = .ok (.iconst 2, 1) := by decide +kernel
theorem dL_law_701 : decode cL_law 701 = .ok (.iadd, 1) := by decide +kernel
theorem dL_law_702 : decode cL_law 702 = .ok (.iaload, 1) := by decide +kernel
theorem dL_law_703 : decode cL_law 703 = .ok (.aload_n 0, 1) := by decide +kernel
theorem dL_law_704 : decode cL_law 704 = .ok (.iload_n 3, 1) := by decide +kernel
theorem dL_law_705 : decode cL_law 705 = .ok (.iconst 3, 1) := by decide +kernel
theorem dL_law_706 : decode cL_law 706 = .ok (.iadd, 1) := by decide +kernel
theorem dL_law_707 : decode cL_law 707 = .ok (.iaload, 1) := by decide +kernel
theorem dL_law_708 : decode cL_law 708 = .ok (.aload_n 0, 1) := by decide +kernel
theorem dL_law_709 : decode cL_law 709 = .ok (.iload_n 3, 1) := by decide +kernel
theorem dL_law_710 : decode cL_law 710 = .ok (.iconst 4, 1) := by decide +kernel
theorem dL_law_711 : decode cL_law 711 = .ok (.iadd, 1) := by decide +kernel
theorem dL_law_712 : decode cL_law 712 = .ok (.iaload, 1) := by decide +kernel
theorem dL_law_713 : decode cL_law 713 = .ok (.invokevirtual 92, 3) := by decide +kernel
theorem dL_law_716 : decode cL_law 716 = .ok (.aload_n 2, 1) := by decide +kernel
theorem dL_law_717 : decode cL_law 717 = .ok (.aload_n 0, 1) := by decide +kernel
theorem dL_law_718 : decode cL_law 718 = .ok (.iload_n 3, 1) := by decide +kernel
theorem dL_law_719 : decode cL_law 719 = .ok (.iconst 1, 1) := by decide +kernel
theorem dL_law_720 : decode cL_law 720 = .ok (.iadd, 1) := by decide +kernel
theorem dL_law_721 : decode cL_law 721 = .ok (.iaload, 1) := by decide +kernel
theorem dL_law_722 : decode cL_law 722 = .ok (.aload_n 0, 1) := by decide +kernel
theorem dL_law_723 : decode cL_law 723 = .ok (.iload_n 3, 1) := by decide +kernel
theorem dL_law_724 : decode cL_law 724 = .ok (.iconst 2, 1) := by decide +kernel
theorem dL_law_725 : decode cL_law 725 = .ok (.iadd, 1) := by decide +kernel
theorem dL_law_726 : decode cL_law 726 = .ok (.iaload, 1) := by decide +kernel
theorem dL_law_727 : decode cL_law 727 = .ok (.aload_n 0, 1) := by decide +kernel
theorem dL_law_728 : decode cL_law 728 = .ok (.iload_n 3, 1) := by decide +kernel
theorem dL_law_729 : decode cL_law 729 = .ok (.iconst 3, 1) := by decide +kernel
theorem dL_law_730 : decode cL_law 730 = .ok (.iadd, 1) := by decide +kernel
theorem dL_law_731 : decode cL_law 731 = .ok (.iaload, 1) := by decide +kernel
theorem dL_law_732 : decode cL_law 732 = .ok (.aload_n 0, 1) := by decide +kernel
theorem dL_law_733 : decode cL_law 733 = .ok (.iload_n 3, 1) := by decide +kernel
theorem dL_law_734 : decode cL_law 734 = .ok (.iconst 4, 1) := by decide +kernel
theorem dL_law_735 : decode cL_law 735 = .ok (.iadd, 1) := by decide +kernel
theorem dL_law_736 : decode cL_law 736 = .ok (.iaload, 1) := by decide +kernel
theorem dL_law_737 : decode cL_law 737 = .ok (.invokevirtual 96, 3) := by decide +kernel
theorem dL_law_740 : decode cL_law 740 = .ok (.if_icmp .eq 183, 3) := by decide +kernel
theorem dL_law_743 : decode cL_law 743 = .ok (.iconst 0, 1) := by decide +kernel
theorem dL_law_744 : decode cL_law 744 = .ok (.ireturn, 1) := by decide +kernel
theorem dL_law_745 : decode cL_law 745 = .ok (.aload_n 1, 1) := by decide +kernel
theorem dL_law_746 : decode cL_law 746 = .ok (.aload_n 0, 1) := by decide +kernel
theorem dL_law_747 : decode cL_law 747 = .ok (.iload_n 3, 1) := by decide +kernel
theorem dL_law_748 : decode cL_law 748 = .ok (.iconst 1, 1) := by decide +kernel
theorem dL_law_749 : decode cL_law 749 = .ok (.iadd, 1) := by decide +kernel
theorem dL_law_750 : decode cL_law 750 = .ok (.iaload, 1) := by decide +kernel
theorem dL_law_751 : decode cL_law 751 = .ok (.aload_n 0, 1) := by decide +kernel
theorem dL_law_752 : decode cL_law 752 = .ok (.iload_n 3, 1) := by decide +kernel
theorem dL_law_753 : decode cL_law 753 = .ok (.iconst 2, 1) := by decide +kernel
theorem dL_law_754 : decode cL_law 754 = .ok (.iadd, 1) := by decide +kernel
theorem dL_law_755 : decode cL_law 755 = .ok (.iaload, 1) := by decide +kernel
theorem dL_law_756 : decode cL_law 756 = .ok (.aload_n 0, 1) := by decide +kernel
theorem dL_law_757 : decode cL_law 757 = .ok (.iload_n 3, 1) := by decide +kernel
theorem dL_law_758 : decode cL_law 758 = .ok (.iconst 3, 1) := by decide +kernel
theorem dL_law_759 : decode cL_law 759 = .ok (.iadd, 1) := by decide +kernel
theorem dL_law_760 : decode cL_law 760 = .ok (.iaload, 1) := by decide +kernel
theorem dL_law_761 : decode cL_law 761 = .ok (.invokevirtual 97, 3) := by decide +kernel
theorem dL_law_764 : decode cL_law 764 = .ok (.aload_n 2, 1) := by decide +kernel
theorem dL_law_765 : decode cL_law 765 = .ok (.aload_n 0, 1) := by decide +kernel
theorem dL_law_766 : decode cL_law 766 = .ok (.iload_n 3, 1) := by decide +kernel
theorem dL_law_767 : decode cL_law 767 = .ok (.iconst 1, 1) := by decide +kernel
theorem dL_law_768 : decode cL_law 768 = .ok (.iadd, 1) := by decide +kernel
theorem dL_law_769 : decode cL_law 769 = .ok (.iaload, 1) := by decide +kernel
theorem dL_law_770 : decode cL_law 770 = .ok (.aload_n 0, 1) := by decide +kernel
theorem dL_law_771 : decode cL_law 771 = .ok (.iload_n 3, 1) := by decide +kernel
theorem dL_law_772 : decode cL_law 772 = .ok (.iconst 2, 1) := by decide +kernel
theorem dL_law_773 : decode cL_law 773 = .ok (.iadd, 1) := by decide +kernel
theorem dL_law_774 : decode cL_law 774 = .ok (.iaload, 1) := by decide +kernel
theorem dL_law_775 : decode cL_law 775 = .ok (.aload_n 0, 1) := by decide +kernel
theorem dL_law_776 : decode cL_law 776 = .ok (.iload_n 3, 1) := by decide +kernel
theorem dL_law_777 : decode cL_law 777 = .ok (.iconst 3, 1) := by decide +kernel
theorem dL_law_778 : decode cL_law 778 = .ok (.iadd, 1) := by decide +kernel
theorem dL_law_779 : decode cL_law 779 = .ok (.iaload, 1) := by decide +kernel
theorem dL_law_780 : decode cL_law 780 = .ok (.invokevirtual 100, 3) := by decide +kernel
theorem dL_law_783 : decode cL_law 783 = .ok (.if_icmp .eq 140, 3) := by decide +kernel
theorem dL_law_786 : decode cL_law 786 = .ok (.iconst 0, 1) := by decide +kernel
theorem dL_law_787 : decode cL_law 787 = .ok (.ireturn, 1) := by decide +kernel
theorem dL_law_788 : decode cL_law 788 = .ok (.aload_n 1, 1) := by decide +kernel
theorem dL_law_789 : decode cL_law 789 = .ok (.aload_n 0, 1) := by decide +kernel
theorem dL_law_790 : decode cL_law 790 = .ok (.iload_n 3, 1) := by decide +kernel
theorem dL_law_791 : decode cL_law 791 = .ok (.iconst 1, 1) := by decide +kernel
theorem dL_law_792 : decode cL_law 792 = .ok (.iadd, 1) := by decide +kernel
theorem dL_law_793 : decode cL_law 793 = .ok (.iaload, 1) := by decide +kernel
theorem dL_law_794 : decode cL_law 794 = .ok (.aload_n 0, 1) := by decide +kernel
theorem dL_law_795 : decode cL_law 795 = .ok (.iload_n 3, 1) := by decide +kernel
theorem dL_law_796 : decode cL_law 796 = .ok (.iconst 2, 1) := by decide +kernel
theorem dL_law_797 : decode cL_law 797 = .ok (.iadd, 1) := by decide +kernel
theorem dL_law_798 : decode cL_law 798 = .ok (.iaload, 1) := by decide +kernel
theorem dL_law_799 : decode cL_law 799 = .ok (.invokevirtual 101, 3) := by decide +kernel
theorem dL_law_802 : decode cL_law 802 = .ok (.aload_n 2, 1) := by decide +kernel
theorem dL_law_803 : decode cL_law 803 = .ok (.aload_n 0, 1) := by decide +kernel
theorem dL_law_804 : decode cL_law 804 = .ok (.iload_n 3, 1) := by decide +kernel
theorem dL_law_805 : decode cL_law 805 = .ok (.iconst 1, 1) := by decide +kernel
theorem dL_law_806 : decode cL_law 806 = .ok (.iadd, 1) := by decide +kernel
theorem dL_law_807 : decode cL_law 807 = .ok (.iaload, 1) := by decide +kernel
theorem dL_law_808 : decode cL_law 808 = .ok (.aload_n 0, 1) := by decide +kernel
theorem dL_law_809 : decode cL_law 809 = .ok (.iload_n 3, 1) := by decide +kernel
theorem dL_law_810 : decode cL_law 810 = .ok (.iconst 2, 1) := by decide +kernel
theorem dL_law_811 : decode cL_law 811 = .ok (.iadd, 1) := by decide +kernel
theorem dL_law_812 : decode cL_law 812 = .ok (.iaload, 1) := by decide +kernel
theorem dL_law_813 : decode cL_law 813 = .ok (.invokevirtual 104, 3) := by decide +kernel
theorem dL_law_816 : decode cL_law 816 = .ok (.if_icmp .eq 107, 3) := by decide +kernel
theorem dL_law_819 : decode cL_law 819 = .ok (.iconst 0, 1) := by decide +kernel
theorem dL_law_820 : decode cL_law 820 = .ok (.ireturn, 1) := by decide +kernel
theorem dL_law_821 : decode cL_law 821 = .ok (.aload_n 1, 1) := by decide +kernel
theorem dL_law_822 : decode cL_law 822 = .ok (.aload_n 0, 1) := by decide +kernel
theorem dL_law_823 : decode cL_law 823 = .ok (.iload_n 3, 1) := by decide +kernel
theorem dL_law_824 : decode cL_law 824 = .ok (.iconst 1, 1) := by decide +kernel
theorem dL_law_825 : decode cL_law 825 = .ok (.iadd, 1) := by decide +kernel
theorem dL_law_826 : decode cL_law 826 = .ok (.iaload, 1) := by decide +kernel
theorem dL_law_827 : decode cL_law 827 = .ok (.aload_n 0, 1) := by decide +kernel
theorem dL_law_828 : decode cL_law 828 = .ok (.iload_n 3, 1) := by decide +kernel
theorem dL_law_829 : decode cL_law 829 = .ok (.iconst 2, 1) := by decide +kernel
theorem dL_law_830 : decode cL_law 830 = .ok (.iadd, 1) := by decide +kernel
theorem dL_law_831 : decode cL_law 831 = .ok (.iaload, 1) := by decide +kernel
theorem dL_law_832 : decode cL_law 832 = .ok (.invokevirtual 105, 3) := by decide +kernel
theorem dL_law_835 : decode cL_law 835 = .ok (.aload_n 2, 1) := by decide +kernel
theorem dL_law_836 : decode cL_law 836 = .ok (.aload_n 0, 1) := by decide +kernel
theorem dL_law_837 : decode cL_law 837 = .ok (.iload_n 3, 1) := by decide +kernel
theorem dL_law_838 : decode cL_law 838 = .ok (.iconst 1, 1) := by decide +kernel
theorem dL_law_839 : decode cL_law 839 = .ok (.iadd, 1) := by decide +kernel
theorem dL_law_840 : decode cL_law 840 = .ok (.iaload, 1) := by decide +kernel
theorem dL_law_841 : decode cL_law 841 = .ok (.aload_n 0, 1) := by decide +kernel
theorem dL_law_842 : decode cL_law 842 = .ok (.iload_n 3, 1) := by decide +kernel
theorem dL_law_843 : decode cL_law 843 = .ok (.iconst 2, 1) := by decide +kernel
theorem dL_law_844 : decode cL_law 844 = .ok (.iadd, 1) := by decide +kernel
theorem dL_law_845 : decode cL_law 845 = .ok (.iaload, 1) := by decide +kernel
theorem dL_law_846 : decode cL_law 846 = .ok (.invokevirtual 108, 3) := by decide +kernel
theorem dL_law_849 : decode cL_law 849 = .ok (.if_icmp .eq 74, 3) := by decide +kernel
theorem dL_law_852 : decode cL_law 852 = .ok (.iconst 0, 1) := by decide +kernel
theorem dL_law_853 : decode cL_law 853 = .ok (.ireturn, 1) := by decide +kernel
theorem dL_law_854 : decode cL_law 854 = .ok (.aload_n 1, 1) := by decide +kernel
theorem dL_law_855 : decode cL_law 855 = .ok (.aload_n 0, 1) := by decide +kernel
theorem dL_law_856 : decode cL_law 856 = .ok (.iload_n 3, 1) := by decide +kernel
theorem dL_law_857 : decode cL_law 857 = .ok (.iconst 1, 1) := by decide +kernel
theorem dL_law_858 : decode cL_law 858 = .ok (.iadd, 1) := by decide +kernel
theorem dL_law_859 : decode cL_law 859 = .ok (.iaload, 1) := by decide +kernel
theorem dL_law_860 : decode cL_law 860 = .ok (.invokevirtual 109, 3) := by decide +kernel
theorem dL_law_863 : decode cL_law 863 = .ok (.aload_n 2, 1) := by decide +kernel
theorem dL_law_864 : decode cL_law 864 = .ok (.aload_n 0, 1) := by decide +kernel
theorem dL_law_865 : decode cL_law 865 = .ok (.iload_n 3, 1) := by decide +kernel
theorem dL_law_866 : decode cL_law 866 = .ok (.iconst 1, 1) := by decide +kernel
theorem dL_law_867 : decode cL_law 867 = .ok (.iadd, 1) := by decide +kernel
theorem dL_law_868 : decode cL_law 868 = .ok (.iaload, 1) := by decide +kernel
theorem dL_law_869 : decode cL_law 869 = .ok (.invokevirtual 112, 3) := by decide +kernel
theorem dL_law_872 : decode cL_law 872 = .ok (.if_icmp .eq 51, 3) := by decide +kernel
theorem dL_law_875 : decode cL_law 875 = .ok (.iconst 0, 1) := by decide +kernel
theorem dL_law_876 : decode cL_law 876 = .ok (.ireturn, 1) := by decide +kernel
theorem dL_law_877 : decode cL_law 877 = .ok (.aload_n 1, 1) := by decide +kernel
theorem dL_law_878 : decode cL_law 878 = .ok (.aload_n 0, 1) := by decide +kernel
theorem dL_law_879 : decode cL_law 879 = .ok (.iload_n 3, 1) := by decide +kernel
theorem dL_law_880 : decode cL_law 880 = .ok (.iconst 1, 1) := by decide +kernel
theorem dL_law_881 : decode cL_law 881 = .ok (.iadd, 1) := by decide +kernel
theorem dL_law_882 : decode cL_law 882 = .ok (.iaload, 1) := by decide +kernel
theorem dL_law_883 : decode cL_law 883 = .ok (.invokevirtual 113, 3) := by decide +kernel
theorem dL_law_886 : decode cL_law 886 = .ok (.aload_n 2, 1) := by decide +kernel
theorem dL_law_887 : decode cL_law 887 = .ok (.aload_n 0, 1) := by decide +kernel
theorem dL_law_888 : decode cL_law 888 = .ok (.iload_n 3, 1) := by decide +kernel
theorem dL_law_889 : decode cL_law 889 = .ok (.iconst 1, 1) := by decide +kernel
theorem dL_law_890 : decode cL_law 890 = .ok (.iadd, 1) := by decide +kernel
theorem dL_law_891 : decode cL_law 891 = .ok (.iaload, 1) := by decide +kernel
theorem dL_law_892 : decode cL_law 892 = .ok (.invokevirtual 116, 3) := by decide +kernel
theorem dL_law_895 : decode cL_law 895 = .ok (.if_icmp .eq 28, 3) := by decide +kernel
theorem dL_law_898 : decode cL_law 898 = .ok (.iconst 0, 1) := by decide +kernel
theorem dL_law_899 : decode cL_law 899 = .ok (.ireturn, 1) := by decide +kernel
theorem dL_law_900 : decode cL_law 900 = .ok (.aload_n 1, 1) := by decide +kernel
theorem dL_law_901 : decode cL_law 901 = .ok (.aload_n 0, 1) := by decide +kernel
theorem dL_law_902 : decode cL_law 902 = .ok (.iload_n 3, 1) := by decide +kernel
theorem dL_law_903 : decode cL_law 903 = .ok (.iconst 1, 1) := by decide +kernel
theorem dL_law_904 : decode cL_law 904 = .ok (.iadd, 1) := by decide +kernel
theorem dL_law_905 : decode cL_law 905 = .ok (.iaload, 1) := by decide +kernel
theorem dL_law_906 : decode cL_law 906 = .ok (.invokevirtual 117, 3) := by decide +kernel
theorem dL_law_909 : decode cL_law 909 = .ok (.aload_n 2, 1) := by decide +kernel
theorem dL_law_910 : decode cL_law 910 = .ok (.aload_n 0, 1) := by decide +kernel
theorem dL_law_911 : decode cL_law 911 = .ok (.iload_n 3, 1) := by decide +kernel
theorem dL_law_912 : decode cL_law 912 = .ok (.iconst 1, 1) := by decide +kernel
theorem dL_law_913 : decode cL_law 913 = .ok (.iadd, 1) := by decide +kernel
theorem dL_law_914 : decode cL_law 914 = .ok (.iaload, 1) := by decide +kernel
theorem dL_law_915 : decode cL_law 915 = .ok (.invokevirtual 120, 3) := by decide +kernel
theorem dL_law_918 : decode cL_law 918 = .ok (.if_icmp .eq 5, 3) := by decide +kernel
theorem dL_law_921 : decode cL_law 921 = .ok (.iconst 0, 1) := by decide +kernel
theorem dL_law_922 : decode cL_law 922 = .ok (.ireturn, 1) := by decide +kernel
theorem dL_law_923 : decode cL_law 923 = .ok (.iinc 3 5, 3) := by decide +kernel
theorem dL_law_926 : decode cL_law 926 = .ok (.goto (-908), 3) := by decide +kernel
theorem dL_law_929 : decode cL_law 929 = .ok (.iconst 1, 1) := by decide +kernel
theorem dL_law_930 : decode cL_law 930 = .ok (.ireturn, 1) := by decide +kernel
