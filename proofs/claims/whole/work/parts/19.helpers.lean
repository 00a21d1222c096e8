/-! by helpers.py -/
theorem dL_cell_0 : decode cL_cell 0 = .ok (.iload_n 1, 1) := by decide +kernel
theorem dL_cell_1 : decode cL_cell 1 = .ok (.aload_n 0, 1) := by decide +kernel
theorem dL_cell_2 : decode cL_cell 2 = .ok (.arraylength, 1) := by decide +kernel
theorem dL_cell_3 : decode cL_cell 3 = .ok (.if_icmp .ge 9, 3) := by decide +kernel
theorem dL_cell_6 : decode cL_cell 6 = .ok (.aload_n 0, 1) := by decide +kernel
theorem dL_cell_7 : decode cL_cell 7 = .ok (.iload_n 1, 1) := by decide +kernel
theorem dL_cell_8 : decode cL_cell 8 = .ok (.iaload, 1) := by decide +kernel
theorem dL_cell_9 : decode cL_cell 9 = .ok (.goto 4, 3) := by decide +kernel
theorem dL_cell_12 : decode cL_cell 12 = .ok (.iconst 0, 1) := by decide +kernel
theorem dL_cell_13 : decode cL_cell 13 = .ok (.ireturn, 1) := by decide +kernel
theorem dL_feed_0 : decode cL_feed 0 = .ok (.aload 6, 2) := by decide +kernel
theorem dL_feed_2 : decode cL_feed 2 = .ok (.iconst 0, 1) := by decide +kernel
theorem dL_feed_3 : decode cL_feed 3 = .ok (.aload_n 0, 1) := by decide +kernel
theorem dL_feed_4 : decode cL_feed 4 = .ok (.iload_n 1, 1) := by decide +kernel
theorem dL_feed_5 : decode cL_feed 5 = .ok (.iload_n 2, 1) := by decide +kernel
theorem dL_feed_6 : decode cL_feed 6 = .ok (.iload_n 3, 1) := by decide +kernel
theorem dL_feed_7 : decode cL_feed 7 = .ok (.iload 4, 2) := by decide +kernel
theorem dL_feed_9 : decode cL_feed 9 = .ok (.iload 5, 2) := by decide +kernel
theorem dL_feed_11 : decode cL_feed 11 = .ok (.invokevirtual 7, 3) := by decide +kernel
theorem dL_feed_14 : decode cL_feed 14 = .ok (.i2l, 1) := by decide +kernel
theorem dL_feed_15 : decode cL_feed 15 = .ok (.lastore, 1) := by decide +kernel
theorem dL_feed_16 : decode cL_feed 16 = .ok (.goto 7, 3) := by decide +kernel
theorem dL_feed_19 : decode cL_feed 19 = .ok (.astore 7, 2) := by decide +kernel
theorem dL_feed_21 : decode cL_feed 21 = .ok (.iconst 1, 1) := by decide +kernel
theorem dL_feed_22 : decode cL_feed 22 = .ok (.ireturn, 1) := by decide +kernel
theorem dL_feed_23 : decode cL_feed 23 = .ok (.iconst 0, 1) := by decide +kernel
theorem dL_feed_24 : decode cL_feed 24 = .ok (.ireturn, 1) := by decide +kernel
theorem dL_trim_0 : decode cL_trim 0 = .ok (.aload_n 2, 1) := by decide +kernel
theorem dL_trim_1 : decode cL_trim 1 = .ok (.iconst 0, 1) := by decide +kernel
theorem dL_trim_2 : decode cL_trim 2 = .ok (.aload_n 0, 1) := by decide +kernel
theorem dL_trim_3 : decode cL_trim 3 = .ok (.iload_n 1, 1) := by decide +kernel
theorem dL_trim_4 : decode cL_trim 4 = .ok (.invokevirtual 15, 3) := by decide +kernel
theorem dL_trim_7 : decode cL_trim 7 = .ok (.i2l, 1) := by decide +kernel
theorem dL_trim_8 : decode cL_trim 8 = .ok (.lastore, 1) := by decide +kernel
theorem dL_trim_9 : decode cL_trim 9 = .ok (.goto 6, 3) := by decide +kernel
theorem dL_trim_12 : decode cL_trim 12 = .ok (.astore_n 3, 1) := by decide +kernel
theorem dL_trim_13 : decode cL_trim 13 = .ok (.iconst 1, 1) := by decide +kernel
theorem dL_trim_14 : decode cL_trim 14 = .ok (.ireturn, 1) := by decide +kernel
theorem dL_trim_15 : decode cL_trim 15 = .ok (.iconst 0, 1) := by decide +kernel
theorem dL_trim_16 : decode cL_trim 16 = .ok (.ireturn, 1) := by decide +kernel
theorem dL_spoil_0 : decode cL_spoil 0 = .ok (.aload_n 3, 1) := by decide +kernel
theorem dL_spoil_1 : decode cL_spoil 1 = .ok (.iconst 0, 1) := by decide +kernel
theorem dL_spoil_2 : decode cL_spoil 2 = .ok (.aload_n 0, 1) := by decide +kernel
theorem dL_spoil_3 : decode cL_spoil 3 = .ok (.iload_n 1, 1) := by decide +kernel
theorem dL_spoil_4 : decode cL_spoil 4 = .ok (.iload_n 2, 1) := by decide +kernel
theorem dL_spoil_5 : decode cL_spoil 5 = .ok (.invokevirtual 21, 3) := by decide +kernel
theorem dL_spoil_8 : decode cL_spoil 8 = .ok (.i2l, 1) := by decide +kernel
theorem dL_spoil_9 : decode cL_spoil 9 = .ok (.lastore, 1) := by decide +kernel
theorem dL_spoil_10 : decode cL_spoil 10 = .ok (.goto 7, 3) := by decide +kernel
theorem dL_spoil_13 : decode cL_spoil 13 = .ok (.astore 4, 2) := by decide +kernel
theorem dL_spoil_15 : decode cL_spoil 15 = .ok (.iconst 1, 1) := by decide +kernel
theorem dL_spoil_16 : decode cL_spoil 16 = .ok (.ireturn, 1) := by decide +kernel
theorem dL_spoil_17 : decode cL_spoil 17 = .ok (.iconst 0, 1) := by decide +kernel
theorem dL_spoil_18 : decode cL_spoil 18 = .ok (.ireturn, 1) := by decide +kernel
theorem dL_record_0 : decode cL_record 0 = .ok (.aload 9, 2) := by decide +kernel
theorem dL_record_2 : decode cL_record 2 = .ok (.iconst 0, 1) := by decide +kernel
theorem dL_record_3 : decode cL_record 3 = .ok (.aload_n 0, 1) := by decide +kernel
theorem dL_record_4 : decode cL_record 4 = .ok (.iload_n 1, 1) := by decide +kernel
theorem dL_record_5 : decode cL_record 5 = .ok (.lload_n 2, 1) := by decide +kernel
theorem dL_record_6 : decode cL_record 6 = .ok (.iload 4, 2) := by decide +kernel
theorem dL_record_8 : decode cL_record 8 = .ok (.lload 5, 2) := by decide +kernel
theorem dL_record_10 : decode cL_record 10 = .ok (.iload 7, 2) := by decide +kernel
theorem dL_record_12 : decode cL_record 12 = .ok (.iload 8, 2) := by decide +kernel
theorem dL_record_14 : decode cL_record 14 = .ok (.invokevirtual 25, 3) := by decide +kernel
theorem dL_record_17 : decode cL_record 17 = .ok (.i2l, 1) := by decide +kernel
theorem dL_record_18 : decode cL_record 18 = .ok (.lastore, 1) := by decide +kernel
theorem dL_record_19 : decode cL_record 19 = .ok (.goto 11, 3) := by decide +kernel
theorem dL_record_22 : decode cL_record 22 = .ok (.astore 10, 2) := by decide +kernel
theorem dL_record_24 : decode cL_record 24 = .ok (.iconst 1, 1) := by decide +kernel
theorem dL_record_25 : decode cL_record 25 = .ok (.ireturn, 1) := by decide +kernel
theorem dL_record_26 : decode cL_record 26 = .ok (.astore 10, 2) := by decide +kernel
theorem dL_record_28 : decode cL_record 28 = .ok (.iconst 2, 1) := by decide +kernel
theorem dL_record_29 : decode cL_record 29 = .ok (.ireturn, 1) := by decide +kernel
theorem dL_record_30 : decode cL_record 30 = .ok (.iconst 0, 1) := by decide +kernel
theorem dL_record_31 : decode cL_record 31 = .ok (.ireturn, 1) := by decide +kernel
theorem dL_seal_0 : decode cL_seal 0 = .ok (.aload 7, 2) := by decide +kernel
theorem dL_seal_2 : decode cL_seal 2 = .ok (.iconst 0, 1) := by decide +kernel
theorem dL_seal_3 : decode cL_seal 3 = .ok (.aload_n 0, 1) := by decide +kernel
theorem dL_seal_4 : decode cL_seal 4 = .ok (.lload_n 1, 1) := by decide +kernel
theorem dL_seal_5 : decode cL_seal 5 = .ok (.iload_n 3, 1) := by decide +kernel
theorem dL_seal_6 : decode cL_seal 6 = .ok (.iload 4, 2) := by decide +kernel
theorem dL_seal_8 : decode cL_seal 8 = .ok (.lload 5, 2) := by decide +kernel
theorem dL_seal_10 : decode cL_seal 10 = .ok (.invokevirtual 29, 3) := by decide +kernel
theorem dL_seal_13 : decode cL_seal 13 = .ok (.i2l, 1) := by decide +kernel
theorem dL_seal_14 : decode cL_seal 14 = .ok (.lastore, 1) := by decide +kernel
theorem dL_seal_15 : decode cL_seal 15 = .ok (.goto 11, 3) := by decide +kernel
theorem dL_seal_18 : decode cL_seal 18 = .ok (.astore 8, 2) := by decide +kernel
theorem dL_seal_20 : decode cL_seal 20 = .ok (.iconst 1, 1) := by decide +kernel
theorem dL_seal_21 : decode cL_seal 21 = .ok (.ireturn, 1) := by decide +kernel
theorem dL_seal_22 : decode cL_seal 22 = .ok (.astore 8, 2) := by decide +kernel
theorem dL_seal_24 : decode cL_seal 24 = .ok (.iconst 2, 1) := by decide +kernel
theorem dL_seal_25 : decode cL_seal 25 = .ok (.ireturn, 1) := by decide +kernel
theorem dL_seal_26 : decode cL_seal 26 = .ok (.iconst 0, 1) := by decide +kernel
theorem dL_seal_27 : decode cL_seal 27 = .ok (.ireturn, 1) := by decide +kernel
theorem dL_fault_0 : decode cL_fault 0 = .ok (.aload_n 2, 1) := by decide +kernel
theorem dL_fault_1 : decode cL_fault 1 = .ok (.iconst 0, 1) := by decide +kernel
theorem dL_fault_2 : decode cL_fault 2 = .ok (.aload_n 0, 1) := by decide +kernel
theorem dL_fault_3 : decode cL_fault 3 = .ok (.iload_n 1, 1) := by decide +kernel
theorem dL_fault_4 : decode cL_fault 4 = .ok (.invokevirtual 33, 3) := by decide +kernel
theorem dL_fault_7 : decode cL_fault 7 = .ok (.i2l, 1) := by decide +kernel
theorem dL_fault_8 : decode cL_fault 8 = .ok (.lastore, 1) := by decide +kernel
theorem dL_fault_9 : decode cL_fault 9 = .ok (.goto 6, 3) := by decide +kernel
theorem dL_fault_12 : decode cL_fault 12 = .ok (.astore_n 3, 1) := by decide +kernel
theorem dL_fault_13 : decode cL_fault 13 = .ok (.iconst 1, 1) := by decide +kernel
theorem dL_fault_14 : decode cL_fault 14 = .ok (.ireturn, 1) := by decide +kernel
theorem dL_fault_15 : decode cL_fault 15 = .ok (.iconst 0, 1) := by decide +kernel
theorem dL_fault_16 : decode cL_fault 16 = .ok (.ireturn, 1) := by decide +kernel
theorem dL_producer_0 : decode cL_producer 0 = .ok (.aload_n 1, 1) := by decide +kernel
theorem dL_producer_1 : decode cL_producer 1 = .ok (.iconst 0, 1) := by decide +kernel
theorem dL_producer_2 : decode cL_producer 2 = .ok (.aload_n 0, 1) := by decide +kernel
theorem dL_producer_3 : decode cL_producer 3 = .ok (.invokevirtual 36, 3) := by decide +kernel
theorem dL_producer_6 : decode cL_producer 6 = .ok (.lastore, 1) := by decide +kernel
theorem dL_producer_7 : decode cL_producer 7 = .ok (.goto 6, 3) := by decide +kernel
theorem dL_producer_10 : decode cL_producer 10 = .ok (.astore_n 2, 1) := by decide +kernel
theorem dL_producer_11 : decode cL_producer 11 = .ok (.iconst 1, 1) := by decide +kernel
theorem dL_producer_12 : decode cL_producer 12 = .ok (.ireturn, 1) := by decide +kernel
theorem dL_producer_13 : decode cL_producer 13 = .ok (.iconst 0, 1) := by decide +kernel
theorem dL_producer_14 : decode cL_producer 14 = .ok (.ireturn, 1) := by decide +kernel
theorem dL_produce_0 : decode cL_produce 0 = .ok (.aload_n 2, 1) := by decide +kernel
theorem dL_produce_1 : decode cL_produce 1 = .ok (.iconst 0, 1) := by decide +kernel
theorem dL_produce_2 : decode cL_produce 2 = .ok (.aload_n 0, 1) := by decide +kernel
theorem dL_produce_3 : decode cL_produce 3 = .ok (.iload_n 1, 1) := by decide +kernel
theorem dL_produce_4 : decode cL_produce 4 = .ok (.invokevirtual 40, 3) := by decide +kernel
theorem dL_produce_7 : decode cL_produce 7 = .ok (.lastore, 1) := by decide +kernel
theorem dL_produce_8 : decode cL_produce 8 = .ok (.goto 9, 3) := by decide +kernel
theorem dL_produce_11 : decode cL_produce 11 = .ok (.astore_n 3, 1) := by decide +kernel
theorem dL_produce_12 : decode cL_produce 12 = .ok (.iconst 1, 1) := by decide +kernel
theorem dL_produce_13 : decode cL_produce 13 = .ok (.ireturn, 1) := by decide +kernel
theorem dL_produce_14 : decode cL_produce 14 = .ok (.astore_n 3, 1) := by decide +kernel
theorem dL_produce_15 : decode cL_produce 15 = .ok (.iconst 2, 1) := by decide +kernel
theorem dL_produce_16 : decode cL_produce 16 = .ok (.ireturn, 1) := by decide +kernel
theorem dL_produce_17 : decode cL_produce 17 = .ok (.iconst 0, 1) := by decide +kernel
theorem dL_produce_18 : decode cL_produce 18 = .ok (.ireturn, 1) := by decide +kernel
theorem dL_known_0 : decode cL_known 0 = .ok (.aload 5, 2) := by decide +kernel
theorem dL_known_2 : decode cL_known 2 = .ok (.iconst 0, 1) := by decide +kernel
theorem dL_known_3 : decode cL_known 3 = .ok (.aload_n 0, 1) := by decide +kernel
theorem dL_known_4 : decode cL_known 4 = .ok (.iload_n 1, 1) := by decide +kernel
theorem dL_known_5 : decode cL_known 5 = .ok (.lload_n 2, 1) := by decide +kernel
theorem dL_known_6 : decode cL_known 6 = .ok (.iload 4, 2) := by decide +kernel
theorem dL_known_8 : decode cL_known 8 = .ok (.invokevirtual 44, 3) := by decide +kernel
theorem dL_known_11 : decode cL_known 11 = .ok (.lastore, 1) := by decide +kernel
theorem dL_known_12 : decode cL_known 12 = .ok (.goto 11, 3) := by decide +kernel
theorem dL_known_15 : decode cL_known 15 = .ok (.astore 6, 2) := by decide +kernel
theorem dL_known_17 : decode cL_known 17 = .ok (.iconst 1, 1) := by decide +kernel
theorem dL_known_18 : decode cL_known 18 = .ok (.ireturn, 1) := by decide +kernel
theorem dL_known_19 : decode cL_known 19 = .ok (.astore 6, 2) := by decide +kernel
theorem dL_known_21 : decode cL_known 21 = .ok (.iconst 2, 1) := by decide +kernel
theorem dL_known_22 : decode cL_known 22 = .ok (.ireturn, 1) := by decide +kernel
theorem dL_known_23 : decode cL_known 23 = .ok (.iconst 0, 1) := by decide +kernel
theorem dL_known_24 : decode cL_known 24 = .ok (.ireturn, 1) := by decide +kernel
theorem dL_log_0 : decode cL_log 0 = .ok (.aload_n 3, 1) := by decide +kernel
theorem dL_log_1 : decode cL_log 1 = .ok (.iconst 0, 1) := by decide +kernel
theorem dL_log_2 : decode cL_log 2 = .ok (.aload_n 0, 1) := by decide +kernel
theorem dL_log_3 : decode cL_log 3 = .ok (.iload_n 1, 1) := by decide +kernel
theorem dL_log_4 : decode cL_log 4 = .ok (.iload_n 2, 1) := by decide +kernel
theorem dL_log_5 : decode cL_log 5 = .ok (.invokevirtual 48, 3) := by decide +kernel
theorem dL_log_8 : decode cL_log 8 = .ok (.lastore, 1) := by decide +kernel
theorem dL_log_9 : decode cL_log 9 = .ok (.goto 11, 3) := by decide +kernel
theorem dL_log_12 : decode cL_log 12 = .ok (.astore 4, 2) := by decide +kernel
theorem dL_log_14 : decode cL_log 14 = .ok (.iconst 1, 1) := by decide +kernel
theorem dL_log_15 : decode cL_log 15 = .ok (.ireturn, 1) := by decide +kernel
theorem dL_log_16 : decode cL_log 16 = .ok (.astore 4, 2) := by decide +kernel
theorem dL_log_18 : decode cL_log 18 = .ok (.iconst 2, 1) := by decide +kernel
theorem dL_log_19 : decode cL_log 19 = .ok (.ireturn, 1) := by decide +kernel
theorem dL_log_20 : decode cL_log 20 = .ok (.iconst 0, 1) := by decide +kernel
theorem dL_log_21 : decode cL_log 21 = .ok (.ireturn, 1) := by decide +kernel
theorem dL_fetch_0 : decode cL_fetch 0 = .ok (.aload 5, 2) := by decide +kernel
theorem dL_fetch_2 : decode cL_fetch 2 = .ok (.iconst 0, 1) := by decide +kernel
theorem dL_fetch_3 : decode cL_fetch 3 = .ok (.aload_n 0, 1) := by decide +kernel
theorem dL_fetch_4 : decode cL_fetch 4 = .ok (.iload_n 1, 1) := by decide +kernel
theorem dL_fetch_5 : decode cL_fetch 5 = .ok (.lload_n 2, 1) := by decide +kernel
theorem dL_fetch_6 : decode cL_fetch 6 = .ok (.iload 4, 2) := by decide +kernel
theorem dL_fetch_8 : decode cL_fetch 8 = .ok (.invokevirtual 52, 3) := by decide +kernel
theorem dL_fetch_11 : decode cL_fetch 11 = .ok (.i2l, 1) := by decide +kernel
theorem dL_fetch_12 : decode cL_fetch 12 = .ok (.lastore, 1) := by decide +kernel
theorem dL_fetch_13 : decode cL_fetch 13 = .ok (.goto 11, 3) := by decide +kernel
theorem dL_fetch_16 : decode cL_fetch 16 = .ok (.astore 6, 2) := by decide +kernel
theorem dL_fetch_18 : decode cL_fetch 18 = .ok (.iconst 1, 1) := by decide +kernel
theorem dL_fetch_19 : decode cL_fetch 19 = .ok (.ireturn, 1) := by decide +kernel
theorem dL_fetch_20 : decode cL_fetch 20 = .ok (.astore 6, 2) := by decide +kernel
theorem dL_fetch_22 : decode cL_fetch 22 = .ok (.iconst 2, 1) := by decide +kernel
theorem dL_fetch_23 : decode cL_fetch 23 = .ok (.ireturn, 1) := by decide +kernel
theorem dL_fetch_24 : decode cL_fetch 24 = .ok (.iconst 0, 1) := by decide +kernel
theorem dL_fetch_25 : decode cL_fetch 25 = .ok (.ireturn, 1) := by decide +kernel
theorem dL_byteAt_0 : decode cL_byteAt 0 = .ok (.aload_n 2, 1) := by decide +kernel
theorem dL_byteAt_1 : decode cL_byteAt 1 = .ok (.iconst 0, 1) := by decide +kernel
theorem dL_byteAt_2 : decode cL_byteAt 2 = .ok (.aload_n 0, 1) := by decide +kernel
theorem dL_byteAt_3 : decode cL_byteAt 3 = .ok (.iload_n 1, 1) := by decide +kernel
theorem dL_byteAt_4 : decode cL_byteAt 4 = .ok (.invokevirtual 56, 3) := by decide +kernel
theorem dL_byteAt_7 : decode cL_byteAt 7 = .ok (.i2l, 1) := by decide +kernel
theorem dL_byteAt_8 : decode cL_byteAt 8 = .ok (.lastore, 1) := by decide +kernel
theorem dL_byteAt_9 : decode cL_byteAt 9 = .ok (.goto 6, 3) := by decide +kernel
theorem dL_byteAt_12 : decode cL_byteAt 12 = .ok (.astore_n 3, 1) := by decide +kernel
theorem dL_byteAt_13 : decode cL_byteAt 13 = .ok (.iconst 1, 1) := by decide +kernel
theorem dL_byteAt_14 : decode cL_byteAt 14 = .ok (.ireturn, 1) := by decide +kernel
theorem dL_byteAt_15 : decode cL_byteAt 15 = .ok (.iconst 0, 1) := by decide +kernel
theorem dL_byteAt_16 : decode cL_byteAt 16 = .ok (.ireturn, 1) := by decide +kernel
theorem dL_taken_0 : decode cL_taken 0 = .ok (.aload_n 3, 1) := by decide +kernel
theorem dL_taken_1 : decode cL_taken 1 = .ok (.iconst 0, 1) := by decide +kernel
theorem dL_taken_2 : decode cL_taken 2 = .ok (.aload_n 0, 1) := by decide +kernel
theorem dL_taken_3 : decode cL_taken 3 = .ok (.iload_n 1, 1) := by decide +kernel
theorem dL_taken_4 : decode cL_taken 4 = .ok (.iload_n 2, 1) := by decide +kernel
theorem dL_taken_5 : decode cL_taken 5 = .ok (.invokevirtual 59, 3) := by decide +kernel
theorem dL_taken_8 : decode cL_taken 8 = .ok (.lastore, 1) := by decide +kernel
theorem dL_taken_9 : decode cL_taken 9 = .ok (.goto 7, 3) := by decide +kernel
theorem dL_taken_12 : decode cL_taken 12 = .ok (.astore 4, 2) := by decide +kernel
theorem dL_taken_14 : decode cL_taken 14 = .ok (.iconst 1, 1) := by decide +kernel
theorem dL_taken_15 : decode cL_taken 15 = .ok (.ireturn, 1) := by decide +kernel
theorem dL_taken_16 : decode cL_taken 16 = .ok (.iconst 0, 1) := by decide +kernel
theorem dL_taken_17 : decode cL_taken 17 = .ok (.ireturn, 1) := by decide +kernel
theorem dL_find_0 : decode cL_find 0 = .ok (.aload 4, 2) := by decide +kernel
theorem dL_find_2 : decode cL_find 2 = .ok (.iconst 0, 1) := by decide +kernel
theorem dL_find_3 : decode cL_find 3 = .ok (.aload_n 0, 1) := by decide +kernel
theorem dL_find_4 : decode cL_find 4 = .ok (.iload_n 1, 1) := by decide +kernel
theorem dL_find_5 : decode cL_find 5 = .ok (.lload_n 2, 1) := by decide +kernel
theorem dL_find_6 : decode cL_find 6 = .ok (.invokevirtual 62, 3) := by decide +kernel
theorem dL_find_9 : decode cL_find 9 = .ok (.lastore, 1) := by decide +kernel
theorem dL_find_10 : decode cL_find 10 = .ok (.goto 11, 3) := by decide +kernel
theorem dL_find_13 : decode cL_find 13 = .ok (.astore 5, 2) := by decide +kernel
theorem dL_find_15 : decode cL_find 15 = .ok (.iconst 1, 1) := by decide +kernel
theorem dL_find_16 : decode cL_find 16 = .ok (.ireturn, 1) := by decide +kernel
theorem dL_find_17 : decode cL_find 17 = .ok (.astore 5, 2) := by decide +kernel
theorem dL_find_19 : decode cL_find 19 = .ok (.iconst 2, 1) := by decide +kernel
theorem dL_find_20 : decode cL_find 20 = .ok (.ireturn, 1) := by decide +kernel
theorem dL_find_21 : decode cL_find 21 = .ok (.iconst 0, 1) := by decide +kernel
theorem dL_find_22 : decode cL_find 22 = .ok (.ireturn, 1) := by decide +kernel
theorem dL_retain_0 : decode cL_retain 0 = .ok (.aload_n 3, 1) := by decide +kernel
theorem dL_retain_1 : decode cL_retain 1 = .ok (.iconst 0, 1) := by decide +kernel
theorem dL_retain_2 : decode cL_retain 2 = .ok (.aload_n 0, 1) := by decide +kernel
theorem dL_retain_3 : decode cL_retain 3 = .ok (.iload_n 1, 1) := by decide +kernel
theorem dL_retain_4 : decode cL_retain 4 = .ok (.iload_n 2, 1) := by decide +kernel
theorem dL_retain_5 : decode cL_retain 5 = .ok (.invokevirtual 66, 3) := by decide +kernel
theorem dL_retain_8 : decode cL_retain 8 = .ok (.i2l, 1) := by decide +kernel
theorem dL_retain_9 : decode cL_retain 9 = .ok (.lastore, 1) := by decide +kernel
theorem dL_retain_10 : decode cL_retain 10 = .ok (.goto 11, 3) := by decide +kernel
theorem dL_retain_13 : decode cL_retain 13 = .ok (.astore 4, 2) := by decide +kernel
theorem dL_retain_15 : decode cL_retain 15 = .ok (.iconst 1, 1) := by decide +kernel
theorem dL_retain_16 : decode cL_retain 16 = .ok (.ireturn, 1) := by decide +kernel
theorem dL_retain_17 : decode cL_retain 17 = .ok (.astore 4, 2) := by decide +kernel
theorem dL_retain_19 : decode cL_retain 19 = .ok (.iconst 2, 1) := by decide +kernel
theorem dL_retain_20 : decode cL_retain 20 = .ok (.ireturn, 1) := by decide +kernel
theorem dL_retain_21 : decode cL_retain 21 = .ok (.iconst 0, 1) := by decide +kernel
theorem dL_retain_22 : decode cL_retain 22 = .ok (.ireturn, 1) := by decide +kernel
theorem dL_compact_0 : decode cL_compact 0 = .ok (.aload_n 2, 1) := by decide +kernel
theorem dL_compact_1 : decode cL_compact 1 = .ok (.iconst 0, 1) := by decide +kernel
theorem dL_compact_2 : decode cL_compact 2 = .ok (.aload_n 0, 1) := by decide +kernel
theorem dL_compact_3 : decode cL_compact 3 = .ok (.iload_n 1, 1) := by decide +kernel
theorem dL_compact_4 : decode cL_compact 4 = .ok (.invokevirtual 69, 3) := by decide +kernel
theorem dL_compact_7 : decode cL_compact 7 = .ok (.i2l, 1) := by decide +kernel
theorem dL_compact_8 : decode cL_compact 8 = .ok (.lastore, 1) := by decide +kernel
theorem dL_compact_9 : decode cL_compact 9 = .ok (.goto 9, 3) := by decide +kernel
theorem dL_compact_12 : decode cL_compact 12 = .ok (.astore_n 3, 1) := by decide +kernel
theorem dL_compact_13 : decode cL_compact 13 = .ok (.iconst 1, 1) := by decide +kernel
theorem dL_compact_14 : decode cL_compact 14 = .ok (.ireturn, 1) := by decide +kernel
theorem dL_compact_15 : decode cL_compact 15 = .ok (.astore_n 3, 1) := by decide +kernel
theorem dL_compact_16 : decode cL_compact 16 = .ok (.iconst 2, 1) := by decide +kernel
theorem dL_compact_17 : decode cL_compact 17 = .ok (.ireturn, 1) := by decide +kernel
theorem dL_compact_18 : decode cL_compact 18 = .ok (.iconst 0, 1) := by decide +kernel
theorem dL_compact_19 : decode cL_compact 19 = .ok (.ireturn, 1) := by decide +kernel
theorem dL_join_0 : decode cL_join 0 = .ok (.aload_n 3, 1) := by decide +kernel
theorem dL_join_1 : decode cL_join 1 = .ok (.iconst 0, 1) := by decide +kernel
theorem dL_join_2 : decode cL_join 2 = .ok (.aload_n 0, 1) := by decide +kernel
theorem dL_join_3 : decode cL_join 3 = .ok (.iload_n 1, 1) := by decide +kernel
theorem dL_join_4 : decode cL_join 4 = .ok (.iload_n 2, 1) := by decide +kernel
theorem dL_join_5 : decode cL_join 5 = .ok (.invokevirtual 72, 3) := by decide +kernel
theorem dL_join_8 : decode cL_join 8 = .ok (.i2l, 1) := by decide +kernel
theorem dL_join_9 : decode cL_join 9 = .ok (.lastore, 1) := by decide +kernel
theorem dL_join_10 : decode cL_join 10 = .ok (.goto 11, 3) := by decide +kernel
theorem dL_join_13 : decode cL_join 13 = .ok (.astore 4, 2) := by decide +kernel
theorem dL_join_15 : decode cL_join 15 = .ok (.iconst 1, 1) := by decide +kernel
theorem dL_join_16 : decode cL_join 16 = .ok (.ireturn, 1) := by decide +kernel
theorem dL_join_17 : decode cL_join 17 = .ok (.astore 4, 2) := by decide +kernel
theorem dL_join_19 : decode cL_join 19 = .ok (.iconst 2, 1) := by decide +kernel
theorem dL_join_20 : decode cL_join 20 = .ok (.ireturn, 1) := by decide +kernel
theorem dL_join_21 : decode cL_join 21 = .ok (.iconst 0, 1) := by decide +kernel
theorem dL_join_22 : decode cL_join 22 = .ok (.ireturn, 1) := by decide +kernel
theorem dL_leave_0 : decode cL_leave 0 = .ok (.aload_n 3, 1) := by decide +kernel
theorem dL_leave_1 : decode cL_leave 1 = .ok (.iconst 0, 1) := by decide +kernel
theorem dL_leave_2 : decode cL_leave 2 = .ok (.aload_n 0, 1) := by decide +kernel
theorem dL_leave_3 : decode cL_leave 3 = .ok (.iload_n 1, 1) := by decide +kernel
theorem dL_leave_4 : decode cL_leave 4 = .ok (.iload_n 2, 1) := by decide +kernel
theorem dL_leave_5 : decode cL_leave 5 = .ok (.invokevirtual 75, 3) := by decide +kernel
theorem dL_leave_8 : decode cL_leave 8 = .ok (.i2l, 1) := by decide +kernel
theorem dL_leave_9 : decode cL_leave 9 = .ok (.lastore, 1) := by decide +kernel
theorem dL_leave_10 : decode cL_leave 10 = .ok (.goto 11, 3) := by decide +kernel
theorem dL_leave_13 : decode cL_leave 13 = .ok (.astore 4, 2) := by decide +kernel
theorem dL_leave_15 : decode cL_leave 15 = .ok (.iconst 1, 1) := by decide +kernel
theorem dL_leave_16 : decode cL_leave 16 = .ok (.ireturn, 1) := by decide +kernel
theorem dL_leave_17 : decode cL_leave 17 = .ok (.astore 4, 2) := by decide +kernel
theorem dL_leave_19 : decode cL_leave 19 = .ok (.iconst 2, 1) := by decide +kernel
theorem dL_leave_20 : decode cL_leave 20 = .ok (.ireturn, 1) := by decide +kernel
theorem dL_leave_21 : decode cL_leave 21 = .ok (.iconst 0, 1) := by decide +kernel
theorem dL_leave_22 : decode cL_leave 22 = .ok (.ireturn, 1) := by decide +kernel
theorem dL_beat_0 : decode cL_beat 0 = .ok (.aload 4, 2) := by decide +kernel
theorem dL_beat_2 : decode cL_beat 2 = .ok (.iconst 0, 1) := by decide +kernel
theorem dL_beat_3 : decode cL_beat 3 = .ok (.aload_n 0, 1) := by decide +kernel
theorem dL_beat_4 : decode cL_beat 4 = .ok (.iload_n 1, 1) := by decide +kernel
theorem dL_beat_5 : decode cL_beat 5 = .ok (.iload_n 2, 1) := by decide +kernel
theorem dL_beat_6 : decode cL_beat 6 = .ok (.iload_n 3, 1) := by decide +kernel
theorem dL_beat_7 : decode cL_beat 7 = .ok (.invokevirtual 78, 3) := by decide +kernel
theorem dL_beat_10 : decode cL_beat 10 = .ok (.i2l, 1) := by decide +kernel
theorem dL_beat_11 : decode cL_beat 11 = .ok (.lastore, 1) := by decide +kernel
theorem dL_beat_12 : decode cL_beat 12 = .ok (.goto 11, 3) := by decide +kernel
theorem dL_beat_15 : decode cL_beat 15 = .ok (.astore 5, 2) := by decide +kernel
theorem dL_beat_17 : decode cL_beat 17 = .ok (.iconst 1, 1) := by decide +kernel
theorem dL_beat_18 : decode cL_beat 18 = .ok (.ireturn, 1) := by decide +kernel
theorem dL_beat_19 : decode cL_beat 19 = .ok (.astore 5, 2) := by decide +kernel
theorem dL_beat_21 : decode cL_beat 21 = .ok (.iconst 2, 1) := by decide +kernel
theorem dL_beat_22 : decode cL_beat 22 = .ok (.ireturn, 1) := by decide +kernel
theorem dL_beat_23 : decode cL_beat 23 = .ok (.iconst 0, 1) := by decide +kernel
theorem dL_beat_24 : decode cL_beat 24 = .ok (.ireturn, 1) := by decide +kernel
theorem dL_commit_0 : decode cL_commit 0 = .ok (.aload 7, 2) := by decide +kernel
theorem dL_commit_2 : decode cL_commit 2 = .ok (.iconst 0, 1) := by decide +kernel
theorem dL_commit_3 : decode cL_commit 3 = .ok (.aload_n 0, 1) := by decide +kernel
theorem dL_commit_4 : decode cL_commit 4 = .ok (.iload_n 1, 1) := by decide +kernel
theorem dL_commit_5 : decode cL_commit 5 = .ok (.iload_n 2, 1) := by decide +kernel
theorem dL_commit_6 : decode cL_commit 6 = .ok (.iload_n 3, 1) := by decide +kernel
theorem dL_commit_7 : decode cL_commit 7 = .ok (.iload 4, 2) := by decide +kernel
theorem dL_commit_9 : decode cL_commit 9 = .ok (.lload 5, 2) := by decide +kernel
theorem dL_commit_11 : decode cL_commit 11 = .ok (.invokevirtual 82, 3) := by decide +kernel
theorem dL_commit_14 : decode cL_commit 14 = .ok (.i2l, 1) := by decide +kernel
theorem dL_commit_15 : decode cL_commit 15 = .ok (.lastore, 1) := by decide +kernel
theorem dL_commit_16 : decode cL_commit 16 = .ok (.goto 11, 3) := by decide +kernel
theorem dL_commit_19 : decode cL_commit 19 = .ok (.astore 8, 2) := by decide +kernel
theorem dL_commit_21 : decode cL_commit 21 = .ok (.iconst 1, 1) := by decide +kernel
theorem dL_commit_22 : decode cL_commit 22 = .ok (.ireturn, 1) := by decide +kernel
theorem dL_commit_23 : decode cL_commit 23 = .ok (.astore 8, 2) := by decide +kernel
theorem dL_commit_25 : decode cL_commit 25 = .ok (.iconst 2, 1) := by decide +kernel
theorem dL_commit_26 : decode cL_commit 26 = .ok (.ireturn, 1) := by decide +kernel
theorem dL_commit_27 : decode cL_commit 27 = .ok (.iconst 0, 1) := by decide +kernel
theorem dL_commit_28 : decode cL_commit 28 = .ok (.ireturn, 1) := by decide +kernel
theorem dL_committed_0 : decode cL_committed 0 = .ok (.aload_n 3, 1) := by decide +kernel
theorem dL_committed_1 : decode cL_committed 1 = .ok (.iconst 0, 1) := by decide +kernel
theorem dL_committed_2 : decode cL_committed 2 = .ok (.aload_n 0, 1) := by decide +kernel
theorem dL_committed_3 : decode cL_committed 3 = .ok (.iload_n 1, 1) := by decide +kernel
theorem dL_committed_4 : decode cL_committed 4 = .ok (.iload_n 2, 1) := by decide +kernel
theorem dL_committed_5 : decode cL_committed 5 = .ok (.invokevirtual 86, 3) := by decide +kernel
theorem dL_committed_8 : decode cL_committed 8 = .ok (.lastore, 1) := by decide +kernel
theorem dL_committed_9 : decode cL_committed 9 = .ok (.goto 11, 3) := by decide +kernel
theorem dL_committed_12 : decode cL_committed 12 = .ok (.astore 4, 2) := by decide +kernel
theorem dL_committed_14 : decode cL_committed 14 = .ok (.iconst 1, 1) := by decide +kernel
theorem dL_committed_15 : decode cL_committed 15 = .ok (.ireturn, 1) := by decide +kernel
theorem dL_committed_16 : decode cL_committed 16 = .ok (.astore 4, 2) := by decide +kernel
theorem dL_committed_18 : decode cL_committed 18 = .ok (.iconst 2, 1) := by decide +kernel
theorem dL_committed_19 : decode cL_committed 19 = .ok (.ireturn, 1) := by decide +kernel
theorem dL_committed_20 : decode cL_committed 20 = .ok (.iconst 0, 1) := by decide +kernel
theorem dL_committed_21 : decode cL_committed 21 = .ok (.ireturn, 1) := by decide +kernel
theorem dL_group_0 : decode cL_group 0 = .ok (.aload_n 3, 1) := by decide +kernel
theorem dL_group_1 : decode cL_group 1 = .ok (.iconst 0, 1) := by decide +kernel
theorem dL_group_2 : decode cL_group 2 = .ok (.aload_n 0, 1) := by decide +kernel
theorem dL_group_3 : decode cL_group 3 = .ok (.iload_n 1, 1) := by decide +kernel
theorem dL_group_4 : decode cL_group 4 = .ok (.iload_n 2, 1) := by decide +kernel
theorem dL_group_5 : decode cL_group 5 = .ok (.invokevirtual 89, 3) := by decide +kernel
theorem dL_group_8 : decode cL_group 8 = .ok (.i2l, 1) := by decide +kernel
theorem dL_group_9 : decode cL_group 9 = .ok (.lastore, 1) := by decide +kernel
theorem dL_group_10 : decode cL_group 10 = .ok (.goto 11, 3) := by decide +kernel
theorem dL_group_13 : decode cL_group 13 = .ok (.astore 4, 2) := by decide +kernel
theorem dL_group_15 : decode cL_group 15 = .ok (.iconst 1, 1) := by decide +kernel
theorem dL_group_16 : decode cL_group 16 = .ok (.ireturn, 1) := by decide +kernel
theorem dL_group_17 : decode cL_group 17 = .ok (.astore 4, 2) := by decide +kernel
theorem dL_group_19 : decode cL_group 19 = .ok (.iconst 2, 1) := by decide +kernel
theorem dL_group_20 : decode cL_group 20 = .ok (.ireturn, 1) := by decide +kernel
theorem dL_group_21 : decode cL_group 21 = .ok (.iconst 0, 1) := by decide +kernel
theorem dL_group_22 : decode cL_group 22 = .ok (.ireturn, 1) := by decide +kernel
theorem dL_share_0 : decode cL_share 0 = .ok (.aload_n 3, 1) := by decide +kernel
theorem dL_share_1 : decode cL_share 1 = .ok (.iconst 0, 1) := by decide +kernel
theorem dL_share_2 : decode cL_share 2 = .ok (.aload_n 0, 1) := by decide +kernel
theorem dL_share_3 : decode cL_share 3 = .ok (.iload_n 1, 1) := by decide +kernel
theorem dL_share_4 : decode cL_share 4 = .ok (.iload_n 2, 1) := by decide +kernel
theorem dL_share_5 : decode cL_share 5 = .ok (.invokevirtual 92, 3) := by decide +kernel
theorem dL_share_8 : decode cL_share 8 = .ok (.i2l, 1) := by decide +kernel
theorem dL_share_9 : decode cL_share 9 = .ok (.lastore, 1) := by decide +kernel
theorem dL_share_10 : decode cL_share 10 = .ok (.goto 11, 3) := by decide +kernel
theorem dL_share_13 : decode cL_share 13 = .ok (.astore 4, 2) := by decide +kernel
theorem dL_share_15 : decode cL_share 15 = .ok (.iconst 1, 1) := by decide +kernel
theorem dL_share_16 : decode cL_share 16 = .ok (.ireturn, 1) := by decide +kernel
theorem dL_share_17 : decode cL_share 17 = .ok (.astore 4, 2) := by decide +kernel
theorem dL_share_19 : decode cL_share 19 = .ok (.iconst 2, 1) := by decide +kernel
theorem dL_share_20 : decode cL_share 20 = .ok (.ireturn, 1) := by decide +kernel
theorem dL_share_21 : decode cL_share 21 = .ok (.iconst 0, 1) := by decide +kernel
theorem dL_share_22 : decode cL_share 22 = .ok (.ireturn, 1) := by decide +kernel
theorem dL_ticks_0 : decode cL_ticks 0 = .ok (.aload_n 2, 1) := by decide +kernel
theorem dL_ticks_1 : decode cL_ticks 1 = .ok (.iconst 0, 1) := by decide +kernel
theorem dL_ticks_2 : decode cL_ticks 2 = .ok (.aload_n 0, 1) := by decide +kernel
theorem dL_ticks_3 : decode cL_ticks 3 = .ok (.iload_n 1, 1) := by decide +kernel
theorem dL_ticks_4 : decode cL_ticks 4 = .ok (.invokevirtual 95, 3) := by decide +kernel
theorem dL_ticks_7 : decode cL_ticks 7 = .ok (.i2l, 1) := by decide +kernel
theorem dL_ticks_8 : decode cL_ticks 8 = .ok (.lastore, 1) := by decide +kernel
theorem dL_ticks_9 : decode cL_ticks 9 = .ok (.goto 9, 3) := by decide +kernel
theorem dL_ticks_12 : decode cL_ticks 12 = .ok (.astore_n 3, 1) := by decide +kernel
theorem dL_ticks_13 : decode cL_ticks 13 = .ok (.iconst 1, 1) := by decide +kernel
theorem dL_ticks_14 : decode cL_ticks 14 = .ok (.ireturn, 1) := by decide +kernel
theorem dL_ticks_15 : decode cL_ticks 15 = .ok (.astore_n 3, 1) := by decide +kernel
theorem dL_ticks_16 : decode cL_ticks 16 = .ok (.iconst 2, 1) := by decide +kernel
theorem dL_ticks_17 : decode cL_ticks 17 = .ok (.ireturn, 1) := by decide +kernel
theorem dL_ticks_18 : decode cL_ticks 18 = .ok (.iconst 0, 1) := by decide +kernel
theorem dL_ticks_19 : decode cL_ticks 19 = .ok (.ireturn, 1) := by decide +kernel
theorem dL_crash_0 : decode cL_crash 0 = .ok (.aload_n 0, 1) := by decide +kernel
theorem dL_crash_1 : decode cL_crash 1 = .ok (.iload_n 1, 1) := by decide +kernel
theorem dL_crash_2 : decode cL_crash 2 = .ok (.invokevirtual 98, 3) := by decide +kernel
theorem dL_crash_5 : decode cL_crash 5 = .ok (.goto 9, 3) := by decide +kernel
theorem dL_crash_8 : decode cL_crash 8 = .ok (.astore_n 2, 1) := by decide +kernel
theorem dL_crash_9 : decode cL_crash 9 = .ok (.iconst 1, 1) := by decide +kernel
theorem dL_crash_10 : decode cL_crash 10 = .ok (.ireturn, 1) := by decide +kernel
theorem dL_crash_11 : decode cL_crash 11 = .ok (.astore_n 2, 1) := by decide +kernel
theorem dL_crash_12 : decode cL_crash 12 = .ok (.iconst 2, 1) := by decide +kernel
theorem dL_crash_13 : decode cL_crash 13 = .ok (.ireturn, 1) := by decide +kernel
theorem dL_crash_14 : decode cL_crash 14 = .ok (.iconst 0, 1) := by decide +kernel
theorem dL_crash_15 : decode cL_crash 15 = .ok (.ireturn, 1) := by decide +kernel
theorem dL_free_0 : decode cL_free 0 = .ok (.aload_n 1, 1) := by decide +kernel
theorem dL_free_1 : decode cL_free 1 = .ok (.iconst 0, 1) := by decide +kernel
theorem dL_free_2 : decode cL_free 2 = .ok (.aload_n 0, 1) := by decide +kernel
theorem dL_free_3 : decode cL_free 3 = .ok (.invokevirtual 102, 3) := by decide +kernel
theorem dL_free_6 : decode cL_free 6 = .ok (.i2l, 1) := by decide +kernel
theorem dL_free_7 : decode cL_free 7 = .ok (.lastore, 1) := by decide +kernel
theorem dL_free_8 : decode cL_free 8 = .ok (.goto 6, 3) := by decide +kernel
theorem dL_free_11 : decode cL_free 11 = .ok (.astore_n 2, 1) := by decide +kernel
theorem dL_free_12 : decode cL_free 12 = .ok (.iconst 1, 1) := by decide +kernel
theorem dL_free_13 : decode cL_free 13 = .ok (.ireturn, 1) := by decide +kernel
theorem dL_free_14 : decode cL_free 14 = .ok (.iconst 0, 1) := by decide +kernel
theorem dL_free_15 : decode cL_free 15 = .ok (.ireturn, 1) := by decide +kernel
theorem dL_audit_0 : decode cL_audit 0 = .ok (.aload_n 1, 1) := by decide +kernel
theorem dL_audit_1 : decode cL_audit 1 = .ok (.iconst 0, 1) := by decide +kernel
theorem dL_audit_2 : decode cL_audit 2 = .ok (.aload_n 0, 1) := by decide +kernel
theorem dL_audit_3 : decode cL_audit 3 = .ok (.invokevirtual 106, 3) := by decide +kernel
theorem dL_audit_6 : decode cL_audit 6 = .ok (.i2l, 1) := by decide +kernel
theorem dL_audit_7 : decode cL_audit 7 = .ok (.lastore, 1) := by decide +kernel
theorem dL_audit_8 : decode cL_audit 8 = .ok (.goto 6, 3) := by decide +kernel
theorem dL_audit_11 : decode cL_audit 11 = .ok (.astore_n 2, 1) := by decide +kernel
theorem dL_audit_12 : decode cL_audit 12 = .ok (.iconst 1, 1) := by decide +kernel
theorem dL_audit_13 : decode cL_audit 13 = .ok (.ireturn, 1) := by decide +kernel
theorem dL_audit_14 : decode cL_audit 14 = .ok (.iconst 0, 1) := by decide +kernel
theorem dL_audit_15 : decode cL_audit 15 = .ok (.ireturn, 1) := by decide +kernel
abbrev rm_L_feed : Room := { frames := 8, cells := 1, slots := 6, locals := 135 }
def f_L_feed (Y : Ly) (v0 : Nat) (v1 : Int32) (v2 : Int32) (v3 : Int32) (v4 : Int32) (v5 : Int32) (v6 : Nat) (M : Mm) (Kn : Int32 → Mm → Prop) : Prop :=
  yK Y v0 = 11 ∧ f_X11_feed Y v0 v1 v2 v3 v4 v5 M (fun r1 M1 => yK Y v6 = 102 ∧ (vp_in 0 (yN Y v6) ∧ (∀ M2 : Mm, M2 = sJ M1 v6 (m1 (mJ M1 v6) (0 : Int32).toNatClampNeg r1.toInt64) → Kn 0 M2))) (fun E M1 => (E = iSE ∧ Kn 1 M1))
set_option maxHeartbeats 4000000 in
set_option maxRecDepth 100000 in
theorem m_L_feed (l : Launch) (hlt : l.stackTraces = false) (D : va_G) (cy : Cy) (tq sz : Nat) (Y : Ly) (v0 : Nat) (v1 : Int32) (v2 : Int32) (v3 : Int32) (v4 : Int32) (v5 : Int32) (v6 : Nat) (M : Mm) (Kn : Int32 → Mm → Prop) : Met l yL_feed (Cond.codeWith yL_feed cL_feed 8 (some .int) [(0, 16, 19, 13)] :: TT) rm_L_feed (PcG D cy tq [.ref v0, .int v1, .int v2, .int v3, .int v4, .int v5, .ref v6] sz Y M (f_L_feed Y v0 v1 v2 v3 v4 v5 v6 M Kn)) (va_Qi Kn (BG D cy (Am Y sz) Y) (Am Y sz)) 1 6 (Am Y sz) := by
  refine Met_of_vx (vx_ofWH (cc := cL_feed) (maxL := 8) (ret := (some .int)) (by decide) rfl ?_)
  intro p e s m args below meth c s₁ B hml hv
  obtain ⟨hargs, hsz, hW, hK, hC, hf⟩ := hv
  subst hsz
  have hx := B.exec
  have hb := B.bytes
  have hr := B.returns
  have hts0 := atoms_spec (ws := Cond.codeWith yL_feed cL_feed 8 (some .int) [(0, 16, 19, 13)] :: TT) B.pre
  have hts : ∀ w ∈ TT, w.before args s = true := fun w h => hts0 w (List.mem_cons_of_mem _ h)
  have htab := vx_table (x := x) B (hts0 _ List.mem_cons_self)
  have hown : s.vm.findClass RL = some m.cls := findClass_of_methodNamed B.named
  have hlocks := B.notSynchronized
  replace hW := Wd_self (sz := s.heap.size) hW
  generalize hAe : Am Y s.heap.size = A at hW hC ⊢
  have hA : ∀ q : Nat, s.heap.size ≤ q → A q := fun q h => by rw [← hAe]; exact Or.inr h
  clear hAe
  have hS : va_S A s.heap s.heap [] := va_S.rf
  obtain ⟨ls, hE, hl⟩ := gm_entry m [.ref v0, .int v1, .int v2, .int v3, .int v4, .int v5, .ref v6] (n := 8) hargs (Nat.le_of_ble_eq_true rfl)
  rw [hE]
  have hl : lv_has ls 8 [(0, .ref v0), (1, .int v1), (2, .int v2), (3, .int v3), (4, .int v4), (5, .int v5), (6, .ref v6)] := hl
  show W p l e rm_L_feed s m args below meth c s.heap [] 0 0 (vx_MQ below (va_Qi Kn (BG D cy A Y) A) (fun _ _ _ => False) args s 1 6 A) (F0 m 0 ls [])
  unfold f_L_feed at hf
  obtain ⟨k1, hf⟩ := hf
  refine lv_aload hx hb dL_feed_0 (lv_at hl 6 rfl) ?_
  refine lv_iconst (v := 0) hx hb dL_feed_2 (by decide) ?_
  refine lv_aload_n hx hb dL_feed_3 rfl (lv_at hl 0 rfl) ?_
  refine lv_iload_n hx hb dL_feed_4 rfl (lv_at hl 1 rfl) ?_
  refine lv_iload_n hx hb dL_feed_5 rfl (lv_at hl 2 rfl) ?_
  refine lv_iload_n hx hb dL_feed_6 rfl (lv_at hl 3 rfl) ?_
  refine lv_iload hx hb dL_feed_7 (lv_at hl 4 rfl) ?_
  refine lv_iload hx hb dL_feed_9 (lv_at hl 5 rfl) ?_
  refine gx_ci (vx_runV (As := [.int v1, .int v2, .int v3, .int v4, .int v5]) (rest := [.int 0, .ref v6]) ⟨hx, hb, hml, hown, hts⟩ (m_X11_feed l hlt D cy tq _ Y _ _ _ _ _ _ _ _ _) (cwV 5 hts (good_V kw_398 kw_399 kw_400 kw_1 kw_401) rfl rfl rfl (by decide +kernel) ⟨Nat.le_of_ble_eq_true rfl, Nat.le_of_ble_eq_true rfl⟩) (gm_preV hK hW hC hS hA k1 (by decide) (q := (RX11, TX11, 13)) rfl rfl hf) rfl rfl hl.1 rfl (lv_room (Nat.le_of_ble_eq_true rfl)) dL_feed_11 ⟨Nat.le_of_ble_eq_true rfl, Nat.le_of_ble_eq_true rfl⟩) hW hS hA (fun E M1 H locs ce q9 hW hS hf h1 h2 h3 => ?_) (fun r1 M1 H locs hW hS hf => ?_)
  · obtain ⟨rfl, hf⟩ := hf
    refine gx_catch1 hown ⟨0, 16, 19, 13⟩ [] htab (by decide) (by decide) (hts _ kw_397) hC.2.2.2.2.2.2.2.2.2.2.2.2.2.2.2.1 h1 h2 h3 ?_
    refine lv_astore (lv' := [(7, .ref q9), (0, .ref v0), (1, .int v1), (2, .int v2), (3, .int v3), (4, .int v4), (5, .int v5), (6, .ref v6)]) hx hb dL_feed_19 hl (by decide) rfl (fun ls hl => ?_)
    refine lv_iconst (v := 1) hx hb dL_feed_21 (by decide) ?_
    exact vx_ret (gm_iret hx hb hr hlocks hW hS hf dL_feed_22)
  · refine lv_i2l hx hb dL_feed_14 rfl ?_
    obtain ⟨k2, h4, hf⟩ := hf
    refine gm_last hx hb hK hW hS k2 h4 dL_feed_15 (fun H locs M2 eM2 hW hS => ?_)
    replace hf := hf M2 eM2
    refine lv_goto (tgt := 23) hx hb dL_feed_16 (by decide) ?_
    refine lv_iconst (v := 0) hx hb dL_feed_23 (by decide) ?_
    exact vx_ret (gm_iret hx hb hr hlocks hW hS hf dL_feed_24)
abbrev rm_L_trim : Room := { frames := 8, cells := 1, slots := 6, locals := 131 }
def f_L_trim (Y : Ly) (v0 : Nat) (v1 : Int32) (v2 : Nat) (M : Mm) (Kn : Int32 → Mm → Prop) : Prop :=
  yK Y v0 = 11 ∧ f_X11_trim Y v0 v1 M (fun r1 M1 => yK Y v2 = 102 ∧ (vp_in 0 (yN Y v2) ∧ (∀ M2 : Mm, M2 = sJ M1 v2 (m1 (mJ M1 v2) (0 : Int32).toNatClampNeg r1.toInt64) → Kn 0 M2))) (fun E M1 => (E = iAE ∧ Kn 1 M1))
set_option maxHeartbeats 4000000 in
set_option maxRecDepth 100000 in
theorem m_L_trim (l : Launch) (hlt : l.stackTraces = false) (D : va_G) (cy : Cy) (tq sz : Nat) (Y : Ly) (v0 : Nat) (v1 : Int32) (v2 : Nat) (M : Mm) (Kn : Int32 → Mm → Prop) : Met l yL_trim (Cond.codeWith yL_trim cL_trim 4 (some .int) [(0, 9, 12, 19)] :: TT) rm_L_trim (PcG D cy tq [.ref v0, .int v1, .ref v2] sz Y M (f_L_trim Y v0 v1 v2 M Kn)) (va_Qi Kn (BG D cy (Am Y sz) Y) (Am Y sz)) 1 6 (Am Y sz) := by
  refine Met_of_vx (vx_ofWH (cc := cL_trim) (maxL := 4) (ret := (some .int)) (by decide) rfl ?_)
  intro p e s m args below meth c s₁ B hml hv
  obtain ⟨hargs, hsz, hW, hK, hC, hf⟩ := hv
  subst hsz
  have hx := B.exec
  have hb := B.bytes
  have hr := B.returns
  have hts0 := atoms_spec (ws := Cond.codeWith yL_trim cL_trim 4 (some .int) [(0, 9, 12, 19)] :: TT) B.pre
  have hts : ∀ w ∈ TT, w.before args s = true := fun w h => hts0 w (List.mem_cons_of_mem _ h)
  have htab := vx_table (x := x) B (hts0 _ List.mem_cons_self)
  have hown : s.vm.findClass RL = some m.cls := findClass_of_methodNamed B.named
  have hlocks := B.notSynchronized
  replace hW := Wd_self (sz := s.heap.size) hW
  generalize hAe : Am Y s.heap.size = A at hW hC ⊢
  have hA : ∀ q : Nat, s.heap.size ≤ q → A q := fun q h => by rw [← hAe]; exact Or.inr h
  clear hAe
  have hS : va_S A s.heap s.heap [] := va_S.rf
  obtain ⟨ls, hE, hl⟩ := gm_entry m [.ref v0, .int v1, .ref v2] (n := 4) hargs (Nat.le_of_ble_eq_true rfl)
  rw [hE]
  have hl : lv_has ls 4 [(0, .ref v0), (1, .int v1), (2, .ref v2)] := hl
  show W p l e rm_L_trim s m args below meth c s.heap [] 0 0 (vx_MQ below (va_Qi Kn (BG D cy A Y) A) (fun _ _ _ => False) args s 1 6 A) (F0 m 0 ls [])
  unfold f_L_trim at hf
  obtain ⟨k1, hf⟩ := hf
  refine lv_aload_n hx hb dL_trim_0 rfl (lv_at hl 2 rfl) ?_
  refine lv_iconst (v := 0) hx hb dL_trim_1 (by decide) ?_
  refine lv_aload_n hx hb dL_trim_2 rfl (lv_at hl 0 rfl) ?_
  refine lv_iload_n hx hb dL_trim_3 rfl (lv_at hl 1 rfl) ?_
  refine gx_ci (vx_runV (As := [.int v1]) (rest := [.int 0, .ref v2]) ⟨hx, hb, hml, hown, hts⟩ (m_X11_trim l hlt D cy tq _ Y _ _ _ _ _) (cwV 1 hts (good_V kw_456 kw_457 kw_458 kw_1 kw_459) rfl rfl rfl (by decide +kernel) ⟨Nat.le_of_ble_eq_true rfl, Nat.le_of_ble_eq_true rfl⟩) (gm_preV hK hW hC hS hA k1 (by decide) (q := (RX11, TX11, 13)) rfl rfl hf) rfl rfl hl.1 rfl (lv_room (Nat.le_of_ble_eq_true rfl)) dL_trim_4 ⟨Nat.le_of_ble_eq_true rfl, Nat.le_of_ble_eq_true rfl⟩) hW hS hA (fun E M1 H locs ce q9 hW hS hf h1 h2 h3 => ?_) (fun r1 M1 H locs hW hS hf => ?_)
  · obtain ⟨rfl, hf⟩ := hf
    refine gx_catch1 hown ⟨0, 9, 12, 19⟩ [] htab (by decide) (by decide) (hts _ kw_455) hC.2.2.2.2.2.2.2.2.2.2.2.2.2.2.2.2.1 h1 h2 h3 ?_
    refine lv_astore_n (lv' := [(3, .ref q9), (0, .ref v0), (1, .int v1), (2, .ref v2)]) hx hb dL_trim_12 rfl hl (by decide) rfl (fun ls hl => ?_)
    refine lv_iconst (v := 1) hx hb dL_trim_13 (by decide) ?_
    exact vx_ret (gm_iret hx hb hr hlocks hW hS hf dL_trim_14)
  · refine lv_i2l hx hb dL_trim_7 rfl ?_
    obtain ⟨k2, h4, hf⟩ := hf
    refine gm_last hx hb hK hW hS k2 h4 dL_trim_8 (fun H locs M2 eM2 hW hS => ?_)
    replace hf := hf M2 eM2
    refine lv_goto (tgt := 15) hx hb dL_trim_9 (by decide) ?_
    refine lv_iconst (v := 0) hx hb dL_trim_15 (by decide) ?_
    exact vx_ret (gm_iret hx hb hr hlocks hW hS hf dL_trim_16)
abbrev rm_L_spoil : Room := { frames := 8, cells := 1, slots := 6, locals := 132 }
def f_L_spoil (Y : Ly) (v0 : Nat) (v1 : Int32) (v2 : Int32) (v3 : Nat) (M : Mm) (Kn : Int32 → Mm → Prop) : Prop :=
  yK Y v0 = 11 ∧ f_X11_spoil Y v0 v1 v2 M (fun r1 M1 => yK Y v3 = 102 ∧ (vp_in 0 (yN Y v3) ∧ (∀ M2 : Mm, M2 = sJ M1 v3 (m1 (mJ M1 v3) (0 : Int32).toNatClampNeg r1.toInt64) → Kn 0 M2))) (fun E M1 => (E = iAE ∧ Kn 1 M1))
set_option maxHeartbeats 4000000 in
set_option maxRecDepth 100000 in
theorem m_L_spoil (l : Launch) (hlt : l.stackTraces = false) (D : va_G) (cy : Cy) (tq sz : Nat) (Y : Ly) (v0 : Nat) (v1 : Int32) (v2 : Int32) (v3 : Nat) (M : Mm) (Kn : Int32 → Mm → Prop) : Met l yL_spoil (Cond.codeWith yL_spoil cL_spoil 5 (some .int) [(0, 10, 13, 19)] :: TT) rm_L_spoil (PcG D cy tq [.ref v0, .int v1, .int v2, .ref v3] sz Y M (f_L_spoil Y v0 v1 v2 v3 M Kn)) (va_Qi Kn (BG D cy (Am Y sz) Y) (Am Y sz)) 1 6 (Am Y sz) := by
  refine Met_of_vx (vx_ofWH (cc := cL_spoil) (maxL := 5) (ret := (some .int)) (by decide) rfl ?_)
  intro p e s m args below meth c s₁ B hml hv
  obtain ⟨hargs, hsz, hW, hK, hC, hf⟩ := hv
  subst hsz
  have hx := B.exec
  have hb := B.bytes
  have hr := B.returns
  have hts0 := atoms_spec (ws := Cond.codeWith yL_spoil cL_spoil 5 (some .int) [(0, 10, 13, 19)] :: TT) B.pre
  have hts : ∀ w ∈ TT, w.before args s = true := fun w h => hts0 w (List.mem_cons_of_mem _ h)
  have htab := vx_table (x := x) B (hts0 _ List.mem_cons_self)
  have hown : s.vm.findClass RL = some m.cls := findClass_of_methodNamed B.named
  have hlocks := B.notSynchronized
  replace hW := Wd_self (sz := s.heap.size) hW
  generalize hAe : Am Y s.heap.size = A at hW hC ⊢
  have hA : ∀ q : Nat, s.heap.size ≤ q → A q := fun q h => by rw [← hAe]; exact Or.inr h
  clear hAe
  have hS : va_S A s.heap s.heap [] := va_S.rf
  obtain ⟨ls, hE, hl⟩ := gm_entry m [.ref v0, .int v1, .int v2, .ref v3] (n := 5) hargs (Nat.le_of_ble_eq_true rfl)
  rw [hE]
  have hl : lv_has ls 5 [(0, .ref v0), (1, .int v1), (2, .int v2), (3, .ref v3)] := hl
  show W p l e rm_L_spoil s m args below meth c s.heap [] 0 0 (vx_MQ below (va_Qi Kn (BG D cy A Y) A) (fun _ _ _ => False) args s 1 6 A) (F0 m 0 ls [])
  unfold f_L_spoil at hf
  obtain ⟨k1, hf⟩ := hf
  refine lv_aload_n hx hb dL_spoil_0 rfl (lv_at hl 3 rfl) ?_
  refine lv_iconst (v := 0) hx hb dL_spoil_1 (by decide) ?_
  refine lv_aload_n hx hb dL_spoil_2 rfl (lv_at hl 0 rfl) ?_
  refine lv_iload_n hx hb dL_spoil_3 rfl (lv_at hl 1 rfl) ?_
  refine lv_iload_n hx hb dL_spoil_4 rfl (lv_at hl 2 rfl) ?_
  refine gx_ci (vx_runV (As := [.int v1, .int v2]) (rest := [.int 0, .ref v3]) ⟨hx, hb, hml, hown, hts⟩ (m_X11_spoil l hlt D cy tq _ Y _ _ _ _ _ _) (cwV 2 hts (good_V kw_482 kw_483 kw_484 kw_1 kw_485) rfl rfl rfl (by decide +kernel) ⟨Nat.le_of_ble_eq_true rfl, Nat.le_of_ble_eq_true rfl⟩) (gm_preV hK hW hC hS hA k1 (by decide) (q := (RX11, TX11, 13)) rfl rfl hf) rfl rfl hl.1 rfl (lv_room (Nat.le_of_ble_eq_true rfl)) dL_spoil_5 ⟨Nat.le_of_ble_eq_true rfl, Nat.le_of_ble_eq_true rfl⟩) hW hS hA (fun E M1 H locs ce q9 hW hS hf h1 h2 h3 => ?_) (fun r1 M1 H locs hW hS hf => ?_)
  · obtain ⟨rfl, hf⟩ := hf
    refine gx_catch1 hown ⟨0, 10, 13, 19⟩ [] htab (by decide) (by decide) (hts _ kw_455) hC.2.2.2.2.2.2.2.2.2.2.2.2.2.2.2.2.1 h1 h2 h3 ?_
    refine lv_astore (lv' := [(4, .ref q9), (0, .ref v0), (1, .int v1), (2, .int v2), (3, .ref v3)]) hx hb dL_spoil_13 hl (by decide) rfl (fun ls hl => ?_)
    refine lv_iconst (v := 1) hx hb dL_spoil_15 (by decide) ?_
    exact vx_ret (gm_iret hx hb hr hlocks hW hS hf dL_spoil_16)
  · refine lv_i2l hx hb dL_spoil_8 rfl ?_
    obtain ⟨k2, h4, hf⟩ := hf
    refine gm_last hx hb hK hW hS k2 h4 dL_spoil_9 (fun H locs M2 eM2 hW hS => ?_)
    replace hf := hf M2 eM2
    refine lv_goto (tgt := 17) hx hb dL_spoil_10 (by decide) ?_
    refine lv_iconst (v := 0) hx hb dL_spoil_17 (by decide) ?_
    exact vx_ret (gm_iret hx hb hr hlocks hW hS hf dL_spoil_18)
abbrev rm_L_record : Room := { frames := 8, cells := 3, slots := 18, locals := 211 }
def f_L_record (Y : Ly) (v0 : Nat) (v1 : Int32) (v2 : Int64) (v4 : Int32) (v5 : Int64) (v7 : Int32) (v8 : Int32) (v9 : Nat) (M : Mm) (Kn : Int32 → Mm → Prop) : Prop :=
  yK Y v0 = 11 ∧ f_X11_record Y v0 v1 v2 v4 v5 v7 v8 M (fun r1 M1 => yK Y v9 = 102 ∧ (vp_in 0 (yN Y v9) ∧ (∀ M2 : Mm, M2 = sJ M1 v9 (m1 (mJ M1 v9) (0 : Int32).toNatClampNeg r1.toInt64) → Kn 0 M2))) (fun E M1 => (E = iAE ∧ Kn 1 M1) ∨ (E = iSE ∧ Kn 2 M1))
set_option maxHeartbeats 4000000 in
set_option maxRecDepth 100000 in
theorem m_L_record (l : Launch) (hlt : l.stackTraces = false) (D : va_G) (cy : Cy) (tq sz : Nat) (Y : Ly) (v0 : Nat) (v1 : Int32) (v2 : Int64) (v4 : Int32) (v5 : Int64) (v7 : Int32) (v8 : Int32) (v9 : Nat) (M : Mm) (Kn : Int32 → Mm → Prop) : Met l yL_record (Cond.codeWith yL_record cL_record 11 (some .int) [(0, 19, 22, 19), (0, 19, 26, 13)] :: TT) rm_L_record (PcG D cy tq [.ref v0, .int v1, .long v2, .int v4, .long v5, .int v7, .int v8, .ref v9] sz Y M (f_L_record Y v0 v1 v2 v4 v5 v7 v8 v9 M Kn)) (va_Qi Kn (BG D cy (Am Y sz) Y) (Am Y sz)) 3 18 (Am Y sz) := by
  refine Met_of_vx (vx_ofWH (cc := cL_record) (maxL := 11) (ret := (some .int)) (by decide) rfl ?_)
  intro p e s m args below meth c s₁ B hml hv
  obtain ⟨hargs, hsz, hW, hK, hC, hf⟩ := hv
  subst hsz
  have hx := B.exec
  have hb := B.bytes
  have hr := B.returns
  have hts0 := atoms_spec (ws := Cond.codeWith yL_record cL_record 11 (some .int) [(0, 19, 22, 19), (0, 19, 26, 13)] :: TT) B.pre
  have hts : ∀ w ∈ TT, w.before args s = true := fun w h => hts0 w (List.mem_cons_of_mem _ h)
  have htab := vx_table (x := x) B (hts0 _ List.mem_cons_self)
  have hown : s.vm.findClass RL = some m.cls := findClass_of_methodNamed B.named
  have hlocks := B.notSynchronized
  replace hW := Wd_self (sz := s.heap.size) hW
  generalize hAe : Am Y s.heap.size = A at hW hC ⊢
  have hA : ∀ q : Nat, s.heap.size ≤ q → A q := fun q h => by rw [← hAe]; exact Or.inr h
  clear hAe
  have hS : va_S A s.heap s.heap [] := va_S.rf
  obtain ⟨ls, hE, hl⟩ := gm_entry m [.ref v0, .int v1, .long v2, .int v4, .long v5, .int v7, .int v8, .ref v9] (n := 11) hargs (Nat.le_of_ble_eq_true rfl)
  rw [hE]
  have hl : lv_has ls 11 [(0, .ref v0), (1, .int v1), (2, .long v2), (4, .int v4), (5, .long v5), (7, .int v7), (8, .int v8), (9, .ref v9)] := hl
  show W p l e rm_L_record s m args below meth c s.heap [] 0 0 (vx_MQ below (va_Qi Kn (BG D cy A Y) A) (fun _ _ _ => False) args s 3 18 A) (F0 m 0 ls [])
  unfold f_L_record at hf
  obtain ⟨k1, hf⟩ := hf
  refine lv_aload hx hb dL_record_0 (lv_at hl 7 rfl) ?_
  refine lv_iconst (v := 0) hx hb dL_record_2 (by decide) ?_
  refine lv_aload_n hx hb dL_record_3 rfl (lv_at hl 0 rfl) ?_
  refine lv_iload_n hx hb dL_record_4 rfl (lv_at hl 1 rfl) ?_
  refine lv_lload_n hx hb dL_record_5 rfl (lv_at hl 2 rfl) ?_
  refine lv_iload hx hb dL_record_6 (lv_at hl 3 rfl) ?_
  refine lv_lload hx hb dL_record_8 (lv_at hl 4 rfl) ?_
  refine lv_iload hx hb dL_record_10 (lv_at hl 5 rfl) ?_
  refine lv_iload hx hb dL_record_12 (lv_at hl 6 rfl) ?_
  refine gx_ci (vx_runV (As := [.int v1, .long v2, .int v4, .long v5, .int v7, .int v8]) (rest := [.int 0, .ref v9]) ⟨hx, hb, hml, hown, hts⟩ (m_X11_record l hlt D cy tq _ Y _ _ _ _ _ _ _ _ _ _) (cwV 6 hts (good_V kw_490 kw_491 kw_492 kw_1 kw_493) rfl rfl rfl (by decide +kernel) ⟨Nat.le_of_ble_eq_true rfl, Nat.le_of_ble_eq_true rfl⟩) (gm_preV hK hW hC hS hA k1 (by decide) (q := (RX11, TX11, 13)) rfl rfl hf) rfl rfl hl.1 rfl (lv_room (Nat.le_of_ble_eq_true rfl)) dL_record_14 ⟨Nat.le_of_ble_eq_true rfl, Nat.le_of_ble_eq_true rfl⟩) hW hS hA (fun E M1 H locs ce q9 hW hS hf h1 h2 h3 => ?_) (fun r1 M1 H locs hW hS hf => ?_)
  · rcases hf with ⟨rfl, hf⟩ | ⟨rfl, hf⟩
    · refine gx_catch1 hown ⟨0, 19, 22, 19⟩ [⟨0, 19, 26, 13⟩] htab (by decide) (by decide) (hts _ kw_455) hC.2.2.2.2.2.2.2.2.2.2.2.2.2.2.2.2.1 h1 h2 h3 ?_
      refine lv_astore (lv' := [(10, .ref q9), (0, .ref v0), (1, .int v1), (2, .long v2), (4, .int v4), (5, .long v5), (7, .int v7), (8, .int v8), (9, .ref v9)]) hx hb dL_record_22 hl (by decide) rfl (fun ls hl => ?_)
      refine lv_iconst (v := 1) hx hb dL_record_24 (by decide) ?_
      exact vx_ret (gm_iret hx hb hr hlocks hW hS hf dL_record_25)
    · refine gx_catch2 hown ⟨0, 19, 22, 19⟩ ⟨0, 19, 26, 13⟩ [] htab (by decide) (by decide) (by decide) (by decide) (hts _ kw_455) hC.2.2.2.2.2.2.2.2.2.2.2.2.2.2.2.2.2.2.2.2.1 (hts _ kw_397) hC.2.2.2.2.2.2.2.2.2.2.2.2.2.2.2.1 h1 h2 h3 ?_
      refine lv_astore (lv' := [(10, .ref q9), (0, .ref v0), (1, .int v1), (2, .long v2), (4, .int v4), (5, .long v5), (7, .int v7), (8, .int v8), (9, .ref v9)]) hx hb dL_record_26 hl (by decide) rfl (fun ls hl => ?_)
      refine lv_iconst (v := 2) hx hb dL_record_28 (by decide) ?_
      exact vx_ret (gm_iret hx hb hr hlocks hW hS hf dL_record_29)
  · refine lv_i2l hx hb dL_record_17 rfl ?_
    obtain ⟨k2, h4, hf⟩ := hf
    refine gm_last hx hb hK hW hS k2 h4 dL_record_18 (fun H locs M2 eM2 hW hS => ?_)
    replace hf := hf M2 eM2
    refine lv_goto (tgt := 30) hx hb dL_record_19 (by decide) ?_
    refine lv_iconst (v := 0) hx hb dL_record_30 (by decide) ?_
    exact vx_ret (gm_iret hx hb hr hlocks hW hS hf dL_record_31)
abbrev rm_L_seal : Room := { frames := 8, cells := 2, slots := 12, locals := 182 }
def f_L_seal (Y : Ly) (v0 : Nat) (v1 : Int64) (v3 : Int32) (v4 : Int32) (v5 : Int64) (v7 : Nat) (M : Mm) (Kn : Int32 → Mm → Prop) : Prop :=
  yK Y v0 = 11 ∧ f_X11_seal Y v0 v1 v3 v4 v5 M (fun r1 M1 => yK Y v7 = 102 ∧ (vp_in 0 (yN Y v7) ∧ (∀ M2 : Mm, M2 = sJ M1 v7 (m1 (mJ M1 v7) (0 : Int32).toNatClampNeg r1.toInt64) → Kn 0 M2))) (fun E M1 => (E = iAE ∧ Kn 1 M1) ∨ (E = iSE ∧ Kn 2 M1))
set_option maxHeartbeats 4000000 in
set_option maxRecDepth 100000 in
theorem m_L_seal (l : Launch) (hlt : l.stackTraces = false) (D : va_G) (cy : Cy) (tq sz : Nat) (Y : Ly) (v0 : Nat) (v1 : Int64) (v3 : Int32) (v4 : Int32) (v5 : Int64) (v7 : Nat) (M : Mm) (Kn : Int32 → Mm → Prop) : Met l yL_seal (Cond.codeWith yL_seal cL_seal 9 (some .int) [(0, 15, 18, 19), (0, 15, 22, 13)] :: TT) rm_L_seal (PcG D cy tq [.ref v0, .long v1, .int v3, .int v4, .long v5, .ref v7] sz Y M (f_L_seal Y v0 v1 v3 v4 v5 v7 M Kn)) (va_Qi Kn (BG D cy (Am Y sz) Y) (Am Y sz)) 2 12 (Am Y sz) := by
  refine Met_of_vx (vx_ofWH (cc := cL_seal) (maxL := 9) (ret := (some .int)) (by decide) rfl ?_)
  intro p e s m args below meth c s₁ B hml hv
  obtain ⟨hargs, hsz, hW, hK, hC, hf⟩ := hv
  subst hsz
  have hx := B.exec
  have hb := B.bytes
  have hr := B.returns
  have hts0 := atoms_spec (ws := Cond.codeWith yL_seal cL_seal 9 (some .int) [(0, 15, 18, 19), (0, 15, 22, 13)] :: TT) B.pre
  have hts : ∀ w ∈ TT, w.before args s = true := fun w h => hts0 w (List.mem_cons_of_mem _ h)
  have htab := vx_table (x := x) B (hts0 _ List.mem_cons_self)
  have hown : s.vm.findClass RL = some m.cls := findClass_of_methodNamed B.named
  have hlocks := B.notSynchronized
  replace hW := Wd_self (sz := s.heap.size) hW
  generalize hAe : Am Y s.heap.size = A at hW hC ⊢
  have hA : ∀ q : Nat, s.heap.size ≤ q → A q := fun q h => by rw [← hAe]; exact Or.inr h
  clear hAe
  have hS : va_S A s.heap s.heap [] := va_S.rf
  obtain ⟨ls, hE, hl⟩ := gm_entry m [.ref v0, .long v1, .int v3, .int v4, .long v5, .ref v7] (n := 9) hargs (Nat.le_of_ble_eq_true rfl)
  rw [hE]
  have hl : lv_has ls 9 [(0, .ref v0), (1, .long v1), (3, .int v3), (4, .int v4), (5, .long v5), (7, .ref v7)] := hl
  show W p l e rm_L_seal s m args below meth c s.heap [] 0 0 (vx_MQ below (va_Qi Kn (BG D cy A Y) A) (fun _ _ _ => False) args s 2 12 A) (F0 m 0 ls [])
  unfold f_L_seal at hf
  obtain ⟨k1, hf⟩ := hf
  refine lv_aload hx hb dL_seal_0 (lv_at hl 5 rfl) ?_
  refine lv_iconst (v := 0) hx hb dL_seal_2 (by decide) ?_
  refine lv_aload_n hx hb dL_seal_3 rfl (lv_at hl 0 rfl) ?_
  refine lv_lload_n hx hb dL_seal_4 rfl (lv_at hl 1 rfl) ?_
  refine lv_iload_n hx hb dL_seal_5 rfl (lv_at hl 2 rfl) ?_
  refine lv_iload hx hb dL_seal_6 (lv_at hl 3 rfl) ?_
  refine lv_lload hx hb dL_seal_8 (lv_at hl 4 rfl) ?_
  refine gx_ci (vx_runV (As := [.long v1, .int v3, .int v4, .long v5]) (rest := [.int 0, .ref v7]) ⟨hx, hb, hml, hown, hts⟩ (m_X11_seal l hlt D cy tq _ Y _ _ _ _ _ _ _ _) (cwV 4 hts (good_V kw_527 kw_528 kw_529 kw_1 kw_530) rfl rfl rfl (by decide +kernel) ⟨Nat.le_of_ble_eq_true rfl, Nat.le_of_ble_eq_true rfl⟩) (gm_preV hK hW hC hS hA k1 (by decide) (q := (RX11, TX11, 13)) rfl rfl hf) rfl rfl hl.1 rfl (lv_room (Nat.le_of_ble_eq_true rfl)) dL_seal_10 ⟨Nat.le_of_ble_eq_true rfl, Nat.le_of_ble_eq_true rfl⟩) hW hS hA (fun E M1 H locs ce q9 hW hS hf h1 h2 h3 => ?_) (fun r1 M1 H locs hW hS hf => ?_)
  · rcases hf with ⟨rfl, hf⟩ | ⟨rfl, hf⟩
    · refine gx_catch1 hown ⟨0, 15, 18, 19⟩ [⟨0, 15, 22, 13⟩] htab (by decide) (by decide) (hts _ kw_455) hC.2.2.2.2.2.2.2.2.2.2.2.2.2.2.2.2.1 h1 h2 h3 ?_
      refine lv_astore (lv' := [(8, .ref q9), (0, .ref v0), (1, .long v1), (3, .int v3), (4, .int v4), (5, .long v5), (7, .ref v7)]) hx hb dL_seal_18 hl (by decide) rfl (fun ls hl => ?_)
      refine lv_iconst (v := 1) hx hb dL_seal_20 (by decide) ?_
      exact vx_ret (gm_iret hx hb hr hlocks hW hS hf dL_seal_21)
    · refine gx_catch2 hown ⟨0, 15, 18, 19⟩ ⟨0, 15, 22, 13⟩ [] htab (by decide) (by decide) (by decide) (by decide) (hts _ kw_455) hC.2.2.2.2.2.2.2.2.2.2.2.2.2.2.2.2.2.2.2.2.1 (hts _ kw_397) hC.2.2.2.2.2.2.2.2.2.2.2.2.2.2.2.1 h1 h2 h3 ?_
      refine lv_astore (lv' := [(8, .ref q9), (0, .ref v0), (1, .long v1), (3, .int v3), (4, .int v4), (5, .long v5), (7, .ref v7)]) hx hb dL_seal_22 hl (by decide) rfl (fun ls hl => ?_)
      refine lv_iconst (v := 2) hx hb dL_seal_24 (by decide) ?_
      exact vx_ret (gm_iret hx hb hr hlocks hW hS hf dL_seal_25)
  · refine lv_i2l hx hb dL_seal_13 rfl ?_
    obtain ⟨k2, h4, hf⟩ := hf
    refine gm_last hx hb hK hW hS k2 h4 dL_seal_14 (fun H locs M2 eM2 hW hS => ?_)
    replace hf := hf M2 eM2
    refine lv_goto (tgt := 26) hx hb dL_seal_15 (by decide) ?_
    refine lv_iconst (v := 0) hx hb dL_seal_26 (by decide) ?_
    exact vx_ret (gm_iret hx hb hr hlocks hW hS hf dL_seal_27)
abbrev rm_L_fault : Room := { frames := 8, cells := 1, slots := 6, locals := 231 }
def f_L_fault (Y : Ly) (v0 : Nat) (v1 : Int32) (v2 : Nat) (M : Mm) (Kn : Int32 → Mm → Prop) : Prop :=
  yK Y v0 = 11 ∧ f_X11_fault Y v0 v1 M (fun r1 M1 => yK Y v2 = 102 ∧ (vp_in 0 (yN Y v2) ∧ (∀ M2 : Mm, M2 = sJ M1 v2 (m1 (mJ M1 v2) (0 : Int32).toNatClampNeg r1.toInt64) → Kn 0 M2))) (fun E M1 => (E = iAE ∧ Kn 1 M1))
set_option maxHeartbeats 4000000 in
set_option maxRecDepth 100000 in
theorem m_L_fault (l : Launch) (hlt : l.stackTraces = false) (D : va_G) (cy : Cy) (tq sz : Nat) (Y : Ly) (v0 : Nat) (v1 : Int32) (v2 : Nat) (M : Mm) (Kn : Int32 → Mm → Prop) : Met l yL_fault (Cond.codeWith yL_fault cL_fault 4 (some .int) [(0, 9, 12, 19)] :: TT) rm_L_fault (PcG D cy tq [.ref v0, .int v1, .ref v2] sz Y M (f_L_fault Y v0 v1 v2 M Kn)) (va_Qi Kn (BG D cy (Am Y sz) Y) (Am Y sz)) 1 6 (Am Y sz) := by
  refine Met_of_vx (vx_ofWH (cc := cL_fault) (maxL := 4) (ret := (some .int)) (by decide) rfl ?_)
  intro p e s m args below meth c s₁ B hml hv
  obtain ⟨hargs, hsz, hW, hK, hC, hf⟩ := hv
  subst hsz
  have hx := B.exec
  have hb := B.bytes
  have hr := B.returns
  have hts0 := atoms_spec (ws := Cond.codeWith yL_fault cL_fault 4 (some .int) [(0, 9, 12, 19)] :: TT) B.pre
  have hts : ∀ w ∈ TT, w.before args s = true := fun w h => hts0 w (List.mem_cons_of_mem _ h)
  have htab := vx_table (x := x) B (hts0 _ List.mem_cons_self)
  have hown : s.vm.findClass RL = some m.cls := findClass_of_methodNamed B.named
  have hlocks := B.notSynchronized
  replace hW := Wd_self (sz := s.heap.size) hW
  generalize hAe : Am Y s.heap.size = A at hW hC ⊢
  have hA : ∀ q : Nat, s.heap.size ≤ q → A q := fun q h => by rw [← hAe]; exact Or.inr h
  clear hAe
  have hS : va_S A s.heap s.heap [] := va_S.rf
  obtain ⟨ls, hE, hl⟩ := gm_entry m [.ref v0, .int v1, .ref v2] (n := 4) hargs (Nat.le_of_ble_eq_true rfl)
  rw [hE]
  have hl : lv_has ls 4 [(0, .ref v0), (1, .int v1), (2, .ref v2)] := hl
  show W p l e rm_L_fault s m args below meth c s.heap [] 0 0 (vx_MQ below (va_Qi Kn (BG D cy A Y) A) (fun _ _ _ => False) args s 1 6 A) (F0 m 0 ls [])
  unfold f_L_fault at hf
  obtain ⟨k1, hf⟩ := hf
  refine lv_aload_n hx hb dL_fault_0 rfl (lv_at hl 2 rfl) ?_
  refine lv_iconst (v := 0) hx hb dL_fault_1 (by decide) ?_
  refine lv_aload_n hx hb dL_fault_2 rfl (lv_at hl 0 rfl) ?_
  refine lv_iload_n hx hb dL_fault_3 rfl (lv_at hl 1 rfl) ?_
  refine gx_ci (vx_runV (As := [.int v1]) (rest := [.int 0, .ref v2]) ⟨hx, hb, hml, hown, hts⟩ (m_X11_fault l hlt D cy tq _ Y _ _ _ _ _) (cwV 1 hts (good_V kw_766 kw_767 kw_768 kw_1 kw_769) rfl rfl rfl (by decide +kernel) ⟨Nat.le_of_ble_eq_true rfl, Nat.le_of_ble_eq_true rfl⟩) (gm_preV hK hW hC hS hA k1 (by decide) (q := (RX11, TX11, 13)) rfl rfl hf) rfl rfl hl.1 rfl (lv_room (Nat.le_of_ble_eq_true rfl)) dL_fault_4 ⟨Nat.le_of_ble_eq_true rfl, Nat.le_of_ble_eq_true rfl⟩) hW hS hA (fun E M1 H locs ce q9 hW hS hf h1 h2 h3 => ?_) (fun r1 M1 H locs hW hS hf => ?_)
  · obtain ⟨rfl, hf⟩ := hf
    refine gx_catch1 hown ⟨0, 9, 12, 19⟩ [] htab (by decide) (by decide) (hts _ kw_455) hC.2.2.2.2.2.2.2.2.2.2.2.2.2.2.2.2.1 h1 h2 h3 ?_
    refine lv_astore_n (lv' := [(3, .ref q9), (0, .ref v0), (1, .int v1), (2, .ref v2)]) hx hb dL_fault_12 rfl hl (by decide) rfl (fun ls hl => ?_)
    refine lv_iconst (v := 1) hx hb dL_fault_13 (by decide) ?_
    exact vx_ret (gm_iret hx hb hr hlocks hW hS hf dL_fault_14)
  · refine lv_i2l hx hb dL_fault_7 rfl ?_
    obtain ⟨k2, h4, hf⟩ := hf
    refine gm_last hx hb hK hW hS k2 h4 dL_fault_8 (fun H locs M2 eM2 hW hS => ?_)
    replace hf := hf M2 eM2
    refine lv_goto (tgt := 15) hx hb dL_fault_9 (by decide) ?_
    refine lv_iconst (v := 0) hx hb dL_fault_15 (by decide) ?_
    exact vx_ret (gm_iret hx hb hr hlocks hW hS hf dL_fault_16)
abbrev rm_L_producer : Room := { frames := 9, cells := 1, slots := 6, locals := 150 }
def f_L_producer (Y : Ly) (v0 : Nat) (v1 : Nat) (M : Mm) (Kn : Int32 → Mm → Prop) : Prop :=
  yK Y v0 = 11 ∧ f_X11_producer Y v0 M (fun r1 M1 => yK Y v1 = 102 ∧ (vp_in 0 (yN Y v1) ∧ (∀ M2 : Mm, M2 = sJ M1 v1 (m1 (mJ M1 v1) (0 : Int32).toNatClampNeg r1) → Kn 0 M2))) (fun E M1 => (E = iSE ∧ Kn 1 M1))
set_option maxHeartbeats 4000000 in
set_option maxRecDepth 100000 in
theorem m_L_producer (l : Launch) (hlt : l.stackTraces = false) (D : va_G) (cy : Cy) (tq sz : Nat) (Y : Ly) (v0 : Nat) (v1 : Nat) (M : Mm) (Kn : Int32 → Mm → Prop) : Met l yL_producer (Cond.codeWith yL_producer cL_producer 3 (some .int) [(0, 7, 10, 13)] :: TT) rm_L_producer (PcG D cy tq [.ref v0, .ref v1] sz Y M (f_L_producer Y v0 v1 M Kn)) (va_Qi Kn (BG D cy (Am Y sz) Y) (Am Y sz)) 1 6 (Am Y sz) := by
  refine Met_of_vx (vx_ofWH (cc := cL_producer) (maxL := 3) (ret := (some .int)) (by decide) rfl ?_)
  intro p e s m args below meth c s₁ B hml hv
  obtain ⟨hargs, hsz, hW, hK, hC, hf⟩ := hv
  subst hsz
  have hx := B.exec
  have hb := B.bytes
  have hr := B.returns
  have hts0 := atoms_spec (ws := Cond.codeWith yL_producer cL_producer 3 (some .int) [(0, 7, 10, 13)] :: TT) B.pre
  have hts : ∀ w ∈ TT, w.before args s = true := fun w h => hts0 w (List.mem_cons_of_mem _ h)
  have htab := vx_table (x := x) B (hts0 _ List.mem_cons_self)
  have hown : s.vm.findClass RL = some m.cls := findClass_of_methodNamed B.named
  have hlocks := B.notSynchronized
  replace hW := Wd_self (sz := s.heap.size) hW
  generalize hAe : Am Y s.heap.size = A at hW hC ⊢
  have hA : ∀ q : Nat, s.heap.size ≤ q → A q := fun q h => by rw [← hAe]; exact Or.inr h
  clear hAe
  have hS : va_S A s.heap s.heap [] := va_S.rf
  obtain ⟨ls, hE, hl⟩ := gm_entry m [.ref v0, .ref v1] (n := 3) hargs (Nat.le_of_ble_eq_true rfl)
  rw [hE]
  have hl : lv_has ls 3 [(0, .ref v0), (1, .ref v1)] := hl
  show W p l e rm_L_producer s m args below meth c s.heap [] 0 0 (vx_MQ below (va_Qi Kn (BG D cy A Y) A) (fun _ _ _ => False) args s 1 6 A) (F0 m 0 ls [])
  unfold f_L_producer at hf
  obtain ⟨k1, hf⟩ := hf
  refine lv_aload_n hx hb dL_producer_0 rfl (lv_at hl 1 rfl) ?_
  refine lv_iconst (v := 0) hx hb dL_producer_1 (by decide) ?_
  refine lv_aload_n hx hb dL_producer_2 rfl (lv_at hl 0 rfl) ?_
  refine gx_cl (vx_runV (As := []) (rest := [.int 0, .ref v1]) ⟨hx, hb, hml, hown, hts⟩ (m_X11_producer l hlt D cy tq _ Y _ _ _ _) (cwV 0 hts (good_V kw_838 kw_839 kw_840 kw_1 kw_841) rfl rfl rfl (by decide +kernel) ⟨Nat.le_of_ble_eq_true rfl, Nat.le_of_ble_eq_true rfl⟩) (gm_preV hK hW hC hS hA k1 (by decide) (q := (RX11, TX11, 13)) rfl rfl hf) rfl rfl hl.1 rfl (lv_room (Nat.le_of_ble_eq_true rfl)) dL_producer_3 ⟨Nat.le_of_ble_eq_true rfl, Nat.le_of_ble_eq_true rfl⟩) hW hS hA (fun E M1 H locs ce q9 hW hS hf h1 h2 h3 => ?_) (fun r1 M1 H locs hW hS hf => ?_)
  · obtain ⟨rfl, hf⟩ := hf
    refine gx_catch1 hown ⟨0, 7, 10, 13⟩ [] htab (by decide) (by decide) (hts _ kw_397) hC.2.2.2.2.2.2.2.2.2.2.2.2.2.2.2.1 h1 h2 h3 ?_
    refine lv_astore_n (lv' := [(2, .ref q9), (0, .ref v0), (1, .ref v1)]) hx hb dL_producer_10 rfl hl (by decide) rfl (fun ls hl => ?_)
    refine lv_iconst (v := 1) hx hb dL_producer_11 (by decide) ?_
    exact vx_ret (gm_iret hx hb hr hlocks hW hS hf dL_producer_12)
  · obtain ⟨k2, h4, hf⟩ := hf
    refine gm_last hx hb hK hW hS k2 h4 dL_producer_6 (fun H locs M2 eM2 hW hS => ?_)
    replace hf := hf M2 eM2
    refine lv_goto (tgt := 13) hx hb dL_producer_7 (by decide) ?_
    refine lv_iconst (v := 0) hx hb dL_producer_13 (by decide) ?_
    exact vx_ret (gm_iret hx hb hr hlocks hW hS hf dL_producer_14)
abbrev rm_L_produce : Room := { frames := 9, cells := 2, slots := 12, locals := 251 }
def f_L_produce (Y : Ly) (v0 : Nat) (v1 : Int32) (v2 : Nat) (M : Mm) (Kn : Int32 → Mm → Prop) : Prop :=
  yK Y v0 = 11 ∧ f_X11_produce Y v0 v1 M (fun r1 M1 => yK Y v2 = 102 ∧ (vp_in 0 (yN Y v2) ∧ (∀ M2 : Mm, M2 = sJ M1 v2 (m1 (mJ M1 v2) (0 : Int32).toNatClampNeg r1) → Kn 0 M2))) (fun E M1 => (E = iAE ∧ Kn 1 M1) ∨ (E = iSE ∧ Kn 2 M1))
set_option maxHeartbeats 4000000 in
set_option maxRecDepth 100000 in
theorem m_L_produce (l : Launch) (hlt : l.stackTraces = false) (D : va_G) (cy : Cy) (tq sz : Nat) (Y : Ly) (v0 : Nat) (v1 : Int32) (v2 : Nat) (M : Mm) (Kn : Int32 → Mm → Prop) : Met l yL_produce (Cond.codeWith yL_produce cL_produce 4 (some .int) [(0, 8, 11, 19), (0, 8, 14, 13)] :: TT) rm_L_produce (PcG D cy tq [.ref v0, .int v1, .ref v2] sz Y M (f_L_produce Y v0 v1 v2 M Kn)) (va_Qi Kn (BG D cy (Am Y sz) Y) (Am Y sz)) 2 12 (Am Y sz) := by
  refine Met_of_vx (vx_ofWH (cc := cL_produce) (maxL := 4) (ret := (some .int)) (by decide) rfl ?_)
  intro p e s m args below meth c s₁ B hml hv
  obtain ⟨hargs, hsz, hW, hK, hC, hf⟩ := hv
  subst hsz
  have hx := B.exec
  have hb := B.bytes
  have hr := B.returns
  have hts0 := atoms_spec (ws := Cond.codeWith yL_produce cL_produce 4 (some .int) [(0, 8, 11, 19), (0, 8, 14, 13)] :: TT) B.pre
  have hts : ∀ w ∈ TT, w.before args s = true := fun w h => hts0 w (List.mem_cons_of_mem _ h)
  have htab := vx_table (x := x) B (hts0 _ List.mem_cons_self)
  have hown : s.vm.findClass RL = some m.cls := findClass_of_methodNamed B.named
  have hlocks := B.notSynchronized
  replace hW := Wd_self (sz := s.heap.size) hW
  generalize hAe : Am Y s.heap.size = A at hW hC ⊢
  have hA : ∀ q : Nat, s.heap.size ≤ q → A q := fun q h => by rw [← hAe]; exact Or.inr h
  clear hAe
  have hS : va_S A s.heap s.heap [] := va_S.rf
  obtain ⟨ls, hE, hl⟩ := gm_entry m [.ref v0, .int v1, .ref v2] (n := 4) hargs (Nat.le_of_ble_eq_true rfl)
  rw [hE]
  have hl : lv_has ls 4 [(0, .ref v0), (1, .int v1), (2, .ref v2)] := hl
  show W p l e rm_L_produce s m args below meth c s.heap [] 0 0 (vx_MQ below (va_Qi Kn (BG D cy A Y) A) (fun _ _ _ => False) args s 2 12 A) (F0 m 0 ls [])
  unfold f_L_produce at hf
  obtain ⟨k1, hf⟩ := hf
  refine lv_aload_n hx hb dL_produce_0 rfl (lv_at hl 2 rfl) ?_
  refine lv_iconst (v := 0) hx hb dL_produce_1 (by decide) ?_
  refine lv_aload_n hx hb dL_produce_2 rfl (lv_at hl 0 rfl) ?_
  refine lv_iload_n hx hb dL_produce_3 rfl (lv_at hl 1 rfl) ?_
  refine gx_cl (vx_runV (As := [.int v1]) (rest := [.int 0, .ref v2]) ⟨hx, hb, hml, hown, hts⟩ (m_X11_produce l hlt D cy tq _ Y _ _ _ _ _) (cwV 1 hts (good_V kw_855 kw_856 kw_857 kw_1 kw_858) rfl rfl rfl (by decide +kernel) ⟨Nat.le_of_ble_eq_true rfl, Nat.le_of_ble_eq_true rfl⟩) (gm_preV hK hW hC hS hA k1 (by decide) (q := (RX11, TX11, 13)) rfl rfl hf) rfl rfl hl.1 rfl (lv_room (Nat.le_of_ble_eq_true rfl)) dL_produce_4 ⟨Nat.le_of_ble_eq_true rfl, Nat.le_of_ble_eq_true rfl⟩) hW hS hA (fun E M1 H locs ce q9 hW hS hf h1 h2 h3 => ?_) (fun r1 M1 H locs hW hS hf => ?_)
  · rcases hf with ⟨rfl, hf⟩ | ⟨rfl, hf⟩
    · refine gx_catch1 hown ⟨0, 8, 11, 19⟩ [⟨0, 8, 14, 13⟩] htab (by decide) (by decide) (hts _ kw_455) hC.2.2.2.2.2.2.2.2.2.2.2.2.2.2.2.2.1 h1 h2 h3 ?_
      refine lv_astore_n (lv' := [(3, .ref q9), (0, .ref v0), (1, .int v1), (2, .ref v2)]) hx hb dL_produce_11 rfl hl (by decide) rfl (fun ls hl => ?_)
      refine lv_iconst (v := 1) hx hb dL_produce_12 (by decide) ?_
      exact vx_ret (gm_iret hx hb hr hlocks hW hS hf dL_produce_13)
    · refine gx_catch2 hown ⟨0, 8, 11, 19⟩ ⟨0, 8, 14, 13⟩ [] htab (by decide) (by decide) (by decide) (by decide) (hts _ kw_455) hC.2.2.2.2.2.2.2.2.2.2.2.2.2.2.2.2.2.2.2.2.1 (hts _ kw_397) hC.2.2.2.2.2.2.2.2.2.2.2.2.2.2.2.1 h1 h2 h3 ?_
      refine lv_astore_n (lv' := [(3, .ref q9), (0, .ref v0), (1, .int v1), (2, .ref v2)]) hx hb dL_produce_14 rfl hl (by decide) rfl (fun ls hl => ?_)
      refine lv_iconst (v := 2) hx hb dL_produce_15 (by decide) ?_
      exact vx_ret (gm_iret hx hb hr hlocks hW hS hf dL_produce_16)
  · obtain ⟨k2, h4, hf⟩ := hf
    refine gm_last hx hb hK hW hS k2 h4 dL_produce_7 (fun H locs M2 eM2 hW hS => ?_)
    replace hf := hf M2 eM2
    refine lv_goto (tgt := 17) hx hb dL_produce_8 (by decide) ?_
    refine lv_iconst (v := 0) hx hb dL_produce_17 (by decide) ?_
    exact vx_ret (gm_iret hx hb hr hlocks hW hS hf dL_produce_18)
abbrev rm_L_known : Room := { frames := 9, cells := 2, slots := 12, locals := 225 }
def f_L_known (Y : Ly) (v0 : Nat) (v1 : Int32) (v2 : Int64) (v4 : Int32) (v5 : Nat) (M : Mm) (Kn : Int32 → Mm → Prop) : Prop :=
  yK Y v0 = 11 ∧ f_X11_known Y v0 v1 v2 v4 M (fun r1 M1 => yK Y v5 = 102 ∧ (vp_in 0 (yN Y v5) ∧ (∀ M2 : Mm, M2 = sJ M1 v5 (m1 (mJ M1 v5) (0 : Int32).toNatClampNeg r1) → Kn 0 M2))) (fun E M1 => (E = iAE ∧ Kn 1 M1) ∨ (E = iSE ∧ Kn 2 M1))
set_option maxHeartbeats 4000000 in
set_option maxRecDepth 100000 in
theorem m_L_known (l : Launch) (hlt : l.stackTraces = false) (D : va_G) (cy : Cy) (tq sz : Nat) (Y : Ly) (v0 : Nat) (v1 : Int32) (v2 : Int64) (v4 : Int32) (v5 : Nat) (M : Mm) (Kn : Int32 → Mm → Prop) : Met l yL_known (Cond.codeWith yL_known cL_known 7 (some .int) [(0, 12, 15, 19), (0, 12, 19, 13)] :: TT) rm_L_known (PcG D cy tq [.ref v0, .int v1, .long v2, .int v4, .ref v5] sz Y M (f_L_known Y v0 v1 v2 v4 v5 M Kn)) (va_Qi Kn (BG D cy (Am Y sz) Y) (Am Y sz)) 2 12 (Am Y sz) := by
  refine Met_of_vx (vx_ofWH (cc := cL_known) (maxL := 7) (ret := (some .int)) (by decide) rfl ?_)
  intro p e s m args below meth c s₁ B hml hv
  obtain ⟨hargs, hsz, hW, hK, hC, hf⟩ := hv
  subst hsz
  have hx := B.exec
  have hb := B.bytes
  have hr := B.returns
  have hts0 := atoms_spec (ws := Cond.codeWith yL_known cL_known 7 (some .int) [(0, 12, 15, 19), (0, 12, 19, 13)] :: TT) B.pre
  have hts : ∀ w ∈ TT, w.before args s = true := fun w h => hts0 w (List.mem_cons_of_mem _ h)
  have htab := vx_table (x := x) B (hts0 _ List.mem_cons_self)
  have hown : s.vm.findClass RL = some m.cls := findClass_of_methodNamed B.named
  have hlocks := B.notSynchronized
  replace hW := Wd_self (sz := s.heap.size) hW
  generalize hAe : Am Y s.heap.size = A at hW hC ⊢
  have hA : ∀ q : Nat, s.heap.size ≤ q → A q := fun q h => by rw [← hAe]; exact Or.inr h
  clear hAe
  have hS : va_S A s.heap s.heap [] := va_S.rf
  obtain ⟨ls, hE, hl⟩ := gm_entry m [.ref v0, .int v1, .long v2, .int v4, .ref v5] (n := 7) hargs (Nat.le_of_ble_eq_true rfl)
  rw [hE]
  have hl : lv_has ls 7 [(0, .ref v0), (1, .int v1), (2, .long v2), (4, .int v4), (5, .ref v5)] := hl
  show W p l e rm_L_known s m args below meth c s.heap [] 0 0 (vx_MQ below (va_Qi Kn (BG D cy A Y) A) (fun _ _ _ => False) args s 2 12 A) (F0 m 0 ls [])
  unfold f_L_known at hf
  obtain ⟨k1, hf⟩ := hf
  refine lv_aload hx hb dL_known_0 (lv_at hl 4 rfl) ?_
  refine lv_iconst (v := 0) hx hb dL_known_2 (by decide) ?_
  refine lv_aload_n hx hb dL_known_3 rfl (lv_at hl 0 rfl) ?_
  refine lv_iload_n hx hb dL_known_4 rfl (lv_at hl 1 rfl) ?_
  refine lv_lload_n hx hb dL_known_5 rfl (lv_at hl 2 rfl) ?_
  refine lv_iload hx hb dL_known_6 (lv_at hl 3 rfl) ?_
  refine gx_cl (vx_runV (As := [.int v1, .long v2, .int v4]) (rest := [.int 0, .ref v5]) ⟨hx, hb, hml, hown, hts⟩ (m_X11_known l hlt D cy tq _ Y _ _ _ _ _ _ _) (cwV 3 hts (good_V kw_928 kw_929 kw_930 kw_1 kw_931) rfl rfl rfl (by decide +kernel) ⟨Nat.le_of_ble_eq_true rfl, Nat.le_of_ble_eq_true rfl⟩) (gm_preV hK hW hC hS hA k1 (by decide) (q := (RX11, TX11, 13)) rfl rfl hf) rfl rfl hl.1 rfl (lv_room (Nat.le_of_ble_eq_true rfl)) dL_known_8 ⟨Nat.le_of_ble_eq_true rfl, Nat.le_of_ble_eq_true rfl⟩) hW hS hA (fun E M1 H locs ce q9 hW hS hf h1 h2 h3 => ?_) (fun r1 M1 H locs hW hS hf => ?_)
  · rcases hf with ⟨rfl, hf⟩ | ⟨rfl, hf⟩
    · refine gx_catch1 hown ⟨0, 12, 15, 19⟩ [⟨0, 12, 19, 13⟩] htab (by decide) (by decide) (hts _ kw_455) hC.2.2.2.2.2.2.2.2.2.2.2.2.2.2.2.2.1 h1 h2 h3 ?_
      refine lv_astore (lv' := [(6, .ref q9), (0, .ref v0), (1, .int v1), (2, .long v2), (4, .int v4), (5, .ref v5)]) hx hb dL_known_15 hl (by decide) rfl (fun ls hl => ?_)
      refine lv_iconst (v := 1) hx hb dL_known_17 (by decide) ?_
      exact vx_ret (gm_iret hx hb hr hlocks hW hS hf dL_known_18)
    · refine gx_catch2 hown ⟨0, 12, 15, 19⟩ ⟨0, 12, 19, 13⟩ [] htab (by decide) (by decide) (by decide) (by decide) (hts _ kw_455) hC.2.2.2.2.2.2.2.2.2.2.2.2.2.2.2.2.2.2.2.2.1 (hts _ kw_397) hC.2.2.2.2.2.2.2.2.2.2.2.2.2.2.2.1 h1 h2 h3 ?_
      refine lv_astore (lv' := [(6, .ref q9), (0, .ref v0), (1, .int v1), (2, .long v2), (4, .int v4), (5, .ref v5)]) hx hb dL_known_19 hl (by decide) rfl (fun ls hl => ?_)
      refine lv_iconst (v := 2) hx hb dL_known_21 (by decide) ?_
      exact vx_ret (gm_iret hx hb hr hlocks hW hS hf dL_known_22)
  · obtain ⟨k2, h4, hf⟩ := hf
    refine gm_last hx hb hK hW hS k2 h4 dL_known_11 (fun H locs M2 eM2 hW hS => ?_)
    replace hf := hf M2 eM2
    refine lv_goto (tgt := 23) hx hb dL_known_12 (by decide) ?_
    refine lv_iconst (v := 0) hx hb dL_known_23 (by decide) ?_
    exact vx_ret (gm_iret hx hb hr hlocks hW hS hf dL_known_24)
abbrev rm_L_log : Room := { frames := 9, cells := 2, slots := 12, locals := 196 }
def f_L_log (Y : Ly) (v0 : Nat) (v1 : Int32) (v2 : Int32) (v3 : Nat) (M : Mm) (Kn : Int32 → Mm → Prop) : Prop :=
  yK Y v0 = 11 ∧ f_X11_log Y v0 v1 v2 M (fun r1 M1 => yK Y v3 = 102 ∧ (vp_in 0 (yN Y v3) ∧ (∀ M2 : Mm, M2 = sJ M1 v3 (m1 (mJ M1 v3) (0 : Int32).toNatClampNeg r1) → Kn 0 M2))) (fun E M1 => (E = iAE ∧ Kn 1 M1) ∨ (E = iSE ∧ Kn 2 M1))
set_option maxHeartbeats 4000000 in
set_option maxRecDepth 100000 in
theorem m_L_log (l : Launch) (hlt : l.stackTraces = false) (D : va_G) (cy : Cy) (tq sz : Nat) (Y : Ly) (v0 : Nat) (v1 : Int32) (v2 : Int32) (v3 : Nat) (M : Mm) (Kn : Int32 → Mm → Prop) : Met l yL_log (Cond.codeWith yL_log cL_log 5 (some .int) [(0, 9, 12, 19), (0, 9, 16, 13)] :: TT) rm_L_log (PcG D cy tq [.ref v0, .int v1, .int v2, .ref v3] sz Y M (f_L_log Y v0 v1 v2 v3 M Kn)) (va_Qi Kn (BG D cy (Am Y sz) Y) (Am Y sz)) 2 12 (Am Y sz) := by
  refine Met_of_vx (vx_ofWH (cc := cL_log) (maxL := 5) (ret := (some .int)) (by decide) rfl ?_)
  intro p e s m args below meth c s₁ B hml hv
  obtain ⟨hargs, hsz, hW, hK, hC, hf⟩ := hv
  subst hsz
  have hx := B.exec
  have hb := B.bytes
  have hr := B.returns
  have hts0 := atoms_spec (ws := Cond.codeWith yL_log cL_log 5 (some .int) [(0, 9, 12, 19), (0, 9, 16, 13)] :: TT) B.pre
  have hts : ∀ w ∈ TT, w.before args s = true := fun w h => hts0 w (List.mem_cons_of_mem _ h)
  have htab := vx_table (x := x) B (hts0 _ List.mem_cons_self)
  have hown : s.vm.findClass RL = some m.cls := findClass_of_methodNamed B.named
  have hlocks := B.notSynchronized
  replace hW := Wd_self (sz := s.heap.size) hW
  generalize hAe : Am Y s.heap.size = A at hW hC ⊢
  have hA : ∀ q : Nat, s.heap.size ≤ q → A q := fun q h => by rw [← hAe]; exact Or.inr h
  clear hAe
  have hS : va_S A s.heap s.heap [] := va_S.rf
  obtain ⟨ls, hE, hl⟩ := gm_entry m [.ref v0, .int v1, .int v2, .ref v3] (n := 5) hargs (Nat.le_of_ble_eq_true rfl)
  rw [hE]
  have hl : lv_has ls 5 [(0, .ref v0), (1, .int v1), (2, .int v2), (3, .ref v3)] := hl
  show W p l e rm_L_log s m args below meth c s.heap [] 0 0 (vx_MQ below (va_Qi Kn (BG D cy A Y) A) (fun _ _ _ => False) args s 2 12 A) (F0 m 0 ls [])
  unfold f_L_log at hf
  obtain ⟨k1, hf⟩ := hf
  refine lv_aload_n hx hb dL_log_0 rfl (lv_at hl 3 rfl) ?_
  refine lv_iconst (v := 0) hx hb dL_log_1 (by decide) ?_
  refine lv_aload_n hx hb dL_log_2 rfl (lv_at hl 0 rfl) ?_
  refine lv_iload_n hx hb dL_log_3 rfl (lv_at hl 1 rfl) ?_
  refine lv_iload_n hx hb dL_log_4 rfl (lv_at hl 2 rfl) ?_
  refine gx_cl (vx_runV (As := [.int v1, .int v2]) (rest := [.int 0, .ref v3]) ⟨hx, hb, hml, hown, hts⟩ (m_X11_log l hlt D cy tq _ Y _ _ _ _ _ _) (cwV 2 hts (good_V kw_947 kw_948 kw_949 kw_1 kw_950) rfl rfl rfl (by decide +kernel) ⟨Nat.le_of_ble_eq_true rfl, Nat.le_of_ble_eq_true rfl⟩) (gm_preV hK hW hC hS hA k1 (by decide) (q := (RX11, TX11, 13)) rfl rfl hf) rfl rfl hl.1 rfl (lv_room (Nat.le_of_ble_eq_true rfl)) dL_log_5 ⟨Nat.le_of_ble_eq_true rfl, Nat.le_of_ble_eq_true rfl⟩) hW hS hA (fun E M1 H locs ce q9 hW hS hf h1 h2 h3 => ?_) (fun r1 M1 H locs hW hS hf => ?_)
  · rcases hf with ⟨rfl, hf⟩ | ⟨rfl, hf⟩
    · refine gx_catch1 hown ⟨0, 9, 12, 19⟩ [⟨0, 9, 16, 13⟩] htab (by decide) (by decide) (hts _ kw_455) hC.2.2.2.2.2.2.2.2.2.2.2.2.2.2.2.2.1 h1 h2 h3 ?_
      refine lv_astore (lv' := [(4, .ref q9), (0, .ref v0), (1, .int v1), (2, .int v2), (3, .ref v3)]) hx hb dL_log_12 hl (by decide) rfl (fun ls hl => ?_)
      refine lv_iconst (v := 1) hx hb dL_log_14 (by decide) ?_
      exact vx_ret (gm_iret hx hb hr hlocks hW hS hf dL_log_15)
    · refine gx_catch2 hown ⟨0, 9, 12, 19⟩ ⟨0, 9, 16, 13⟩ [] htab (by decide) (by decide) (by decide) (by decide) (hts _ kw_455) hC.2.2.2.2.2.2.2.2.2.2.2.2.2.2.2.2.2.2.2.2.1 (hts _ kw_397) hC.2.2.2.2.2.2.2.2.2.2.2.2.2.2.2.1 h1 h2 h3 ?_
      refine lv_astore (lv' := [(4, .ref q9), (0, .ref v0), (1, .int v1), (2, .int v2), (3, .ref v3)]) hx hb dL_log_16 hl (by decide) rfl (fun ls hl => ?_)
      refine lv_iconst (v := 2) hx hb dL_log_18 (by decide) ?_
      exact vx_ret (gm_iret hx hb hr hlocks hW hS hf dL_log_19)
  · obtain ⟨k2, h4, hf⟩ := hf
    refine gm_last hx hb hK hW hS k2 h4 dL_log_8 (fun H locs M2 eM2 hW hS => ?_)
    replace hf := hf M2 eM2
    refine lv_goto (tgt := 20) hx hb dL_log_9 (by decide) ?_
    refine lv_iconst (v := 0) hx hb dL_log_20 (by decide) ?_
    exact vx_ret (gm_iret hx hb hr hlocks hW hS hf dL_log_21)
abbrev rm_L_fetch : Room := { frames := 9, cells := 2, slots := 12, locals := 259 }
def f_L_fetch (Y : Ly) (v0 : Nat) (v1 : Int32) (v2 : Int64) (v4 : Int32) (v5 : Nat) (M : Mm) (Kn : Int32 → Mm → Prop) : Prop :=
  yK Y v0 = 11 ∧ f_X11_fetch Y v0 v1 v2 v4 M (fun r1 M1 => yK Y v5 = 102 ∧ (vp_in 0 (yN Y v5) ∧ (∀ M2 : Mm, M2 = sJ M1 v5 (m1 (mJ M1 v5) (0 : Int32).toNatClampNeg r1.toInt64) → Kn 0 M2))) (fun E M1 => (E = iAE ∧ Kn 1 M1) ∨ (E = iSE ∧ Kn 2 M1))
set_option maxHeartbeats 4000000 in
set_option maxRecDepth 100000 in
theorem m_L_fetch (l : Launch) (hlt : l.stackTraces = false) (D : va_G) (cy : Cy) (tq sz : Nat) (Y : Ly) (v0 : Nat) (v1 : Int32) (v2 : Int64) (v4 : Int32) (v5 : Nat) (M : Mm) (Kn : Int32 → Mm → Prop) : Met l yL_fetch (Cond.codeWith yL_fetch cL_fetch 7 (some .int) [(0, 13, 16, 19), (0, 13, 20, 13)] :: TT) rm_L_fetch (PcG D cy tq [.ref v0, .int v1, .long v2, .int v4, .ref v5] sz Y M (f_L_fetch Y v0 v1 v2 v4 v5 M Kn)) (va_Qi Kn (BG D cy (Am Y sz) Y) (Am Y sz)) 2 12 (Am Y sz) := by
  refine Met_of_vx (vx_ofWH (cc := cL_fetch) (maxL := 7) (ret := (some .int)) (by decide) rfl ?_)
  intro p e s m args below meth c s₁ B hml hv
  obtain ⟨hargs, hsz, hW, hK, hC, hf⟩ := hv
  subst hsz
  have hx := B.exec
  have hb := B.bytes
  have hr := B.returns
  have hts0 := atoms_spec (ws := Cond.codeWith yL_fetch cL_fetch 7 (some .int) [(0, 13, 16, 19), (0, 13, 20, 13)] :: TT) B.pre
  have hts : ∀ w ∈ TT, w.before args s = true := fun w h => hts0 w (List.mem_cons_of_mem _ h)
  have htab := vx_table (x := x) B (hts0 _ List.mem_cons_self)
  have hown : s.vm.findClass RL = some m.cls := findClass_of_methodNamed B.named
  have hlocks := B.notSynchronized
  replace hW := Wd_self (sz := s.heap.size) hW
  generalize hAe : Am Y s.heap.size = A at hW hC ⊢
  have hA : ∀ q : Nat, s.heap.size ≤ q → A q := fun q h => by rw [← hAe]; exact Or.inr h
  clear hAe
  have hS : va_S A s.heap s.heap [] := va_S.rf
  obtain ⟨ls, hE, hl⟩ := gm_entry m [.ref v0, .int v1, .long v2, .int v4, .ref v5] (n := 7) hargs (Nat.le_of_ble_eq_true rfl)
  rw [hE]
  have hl : lv_has ls 7 [(0, .ref v0), (1, .int v1), (2, .long v2), (4, .int v4), (5, .ref v5)] := hl
  show W p l e rm_L_fetch s m args below meth c s.heap [] 0 0 (vx_MQ below (va_Qi Kn (BG D cy A Y) A) (fun _ _ _ => False) args s 2 12 A) (F0 m 0 ls [])
  unfold f_L_fetch at hf
  obtain ⟨k1, hf⟩ := hf
  refine lv_aload hx hb dL_fetch_0 (lv_at hl 4 rfl) ?_
  refine lv_iconst (v := 0) hx hb dL_fetch_2 (by decide) ?_
  refine lv_aload_n hx hb dL_fetch_3 rfl (lv_at hl 0 rfl) ?_
  refine lv_iload_n hx hb dL_fetch_4 rfl (lv_at hl 1 rfl) ?_
  refine lv_lload_n hx hb dL_fetch_5 rfl (lv_at hl 2 rfl) ?_
  refine lv_iload hx hb dL_fetch_6 (lv_at hl 3 rfl) ?_
  refine gx_ci (vx_runV (As := [.int v1, .long v2, .int v4]) (rest := [.int 0, .ref v5]) ⟨hx, hb, hml, hown, hts⟩ (m_X11_fetch l hlt D cy tq _ Y _ _ _ _ _ _ _) (cwV 3 hts (good_V kw_963 kw_964 kw_965 kw_1 kw_966) rfl rfl rfl (by decide +kernel) ⟨Nat.le_of_ble_eq_true rfl, Nat.le_of_ble_eq_true rfl⟩) (gm_preV hK hW hC hS hA k1 (by decide) (q := (RX11, TX11, 13)) rfl rfl hf) rfl rfl hl.1 rfl (lv_room (Nat.le_of_ble_eq_true rfl)) dL_fetch_8 ⟨Nat.le_of_ble_eq_true rfl, Nat.le_of_ble_eq_true rfl⟩) hW hS hA (fun E M1 H locs ce q9 hW hS hf h1 h2 h3 => ?_) (fun r1 M1 H locs hW hS hf => ?_)
  · rcases hf with ⟨rfl, hf⟩ | ⟨rfl, hf⟩
    · refine gx_catch1 hown ⟨0, 13, 16, 19⟩ [⟨0, 13, 20, 13⟩] htab (by decide) (by decide) (hts _ kw_455) hC.2.2.2.2.2.2.2.2.2.2.2.2.2.2.2.2.1 h1 h2 h3 ?_
      refine lv_astore (lv' := [(6, .ref q9), (0, .ref v0), (1, .int v1), (2, .long v2), (4, .int v4), (5, .ref v5)]) hx hb dL_fetch_16 hl (by decide) rfl (fun ls hl => ?_)
      refine lv_iconst (v := 1) hx hb dL_fetch_18 (by decide) ?_
      exact vx_ret (gm_iret hx hb hr hlocks hW hS hf dL_fetch_19)
    · refine gx_catch2 hown ⟨0, 13, 16, 19⟩ ⟨0, 13, 20, 13⟩ [] htab (by decide) (by decide) (by decide) (by decide) (hts _ kw_455) hC.2.2.2.2.2.2.2.2.2.2.2.2.2.2.2.2.2.2.2.2.1 (hts _ kw_397) hC.2.2.2.2.2.2.2.2.2.2.2.2.2.2.2.1 h1 h2 h3 ?_
      refine lv_astore (lv' := [(6, .ref q9), (0, .ref v0), (1, .int v1), (2, .long v2), (4, .int v4), (5, .ref v5)]) hx hb dL_fetch_20 hl (by decide) rfl (fun ls hl => ?_)
      refine lv_iconst (v := 2) hx hb dL_fetch_22 (by decide) ?_
      exact vx_ret (gm_iret hx hb hr hlocks hW hS hf dL_fetch_23)
  · refine lv_i2l hx hb dL_fetch_11 rfl ?_
    obtain ⟨k2, h4, hf⟩ := hf
    refine gm_last hx hb hK hW hS k2 h4 dL_fetch_12 (fun H locs M2 eM2 hW hS => ?_)
    replace hf := hf M2 eM2
    refine lv_goto (tgt := 24) hx hb dL_fetch_13 (by decide) ?_
    refine lv_iconst (v := 0) hx hb dL_fetch_24 (by decide) ?_
    exact vx_ret (gm_iret hx hb hr hlocks hW hS hf dL_fetch_25)
abbrev rm_L_byteAt : Room := { frames := 8, cells := 1, slots := 6, locals := 131 }
def f_L_byteAt (Y : Ly) (v0 : Nat) (v1 : Int32) (v2 : Nat) (M : Mm) (Kn : Int32 → Mm → Prop) : Prop :=
  yK Y v0 = 11 ∧ f_X11_byteAt Y v0 v1 M (fun r1 M1 => yK Y v2 = 102 ∧ (vp_in 0 (yN Y v2) ∧ (∀ M2 : Mm, M2 = sJ M1 v2 (m1 (mJ M1 v2) (0 : Int32).toNatClampNeg r1.toInt64) → Kn 0 M2))) (fun E M1 => (E = iAE ∧ Kn 1 M1))
set_option maxHeartbeats 4000000 in
set_option maxRecDepth 100000 in
theorem m_L_byteAt (l : Launch) (hlt : l.stackTraces = false) (D : va_G) (cy : Cy) (tq sz : Nat) (Y : Ly) (v0 : Nat) (v1 : Int32) (v2 : Nat) (M : Mm) (Kn : Int32 → Mm → Prop) : Met l yL_byteAt (Cond.codeWith yL_byteAt cL_byteAt 4 (some .int) [(0, 9, 12, 19)] :: TT) rm_L_byteAt (PcG D cy tq [.ref v0, .int v1, .ref v2] sz Y M (f_L_byteAt Y v0 v1 v2 M Kn)) (va_Qi Kn (BG D cy (Am Y sz) Y) (Am Y sz)) 1 6 (Am Y sz) := by
  refine Met_of_vx (vx_ofWH (cc := cL_byteAt) (maxL := 4) (ret := (some .int)) (by decide) rfl ?_)
  intro p e s m args below meth c s₁ B hml hv
  obtain ⟨hargs, hsz, hW, hK, hC, hf⟩ := hv
  subst hsz
  have hx := B.exec
  have hb := B.bytes
  have hr := B.returns
  have hts0 := atoms_spec (ws := Cond.codeWith yL_byteAt cL_byteAt 4 (some .int) [(0, 9, 12, 19)] :: TT) B.pre
  have hts : ∀ w ∈ TT, w.before args s = true := fun w h => hts0 w (List.mem_cons_of_mem _ h)
  have htab := vx_table (x := x) B (hts0 _ List.mem_cons_self)
  have hown : s.vm.findClass RL = some m.cls := findClass_of_methodNamed B.named
  have hlocks := B.notSynchronized
  replace hW := Wd_self (sz := s.heap.size) hW
  generalize hAe : Am Y s.heap.size = A at hW hC ⊢
  have hA : ∀ q : Nat, s.heap.size ≤ q → A q := fun q h => by rw [← hAe]; exact Or.inr h
  clear hAe
  have hS : va_S A s.heap s.heap [] := va_S.rf
  obtain ⟨ls, hE, hl⟩ := gm_entry m [.ref v0, .int v1, .ref v2] (n := 4) hargs (Nat.le_of_ble_eq_true rfl)
  rw [hE]
  have hl : lv_has ls 4 [(0, .ref v0), (1, .int v1), (2, .ref v2)] := hl
  show W p l e rm_L_byteAt s m args below meth c s.heap [] 0 0 (vx_MQ below (va_Qi Kn (BG D cy A Y) A) (fun _ _ _ => False) args s 1 6 A) (F0 m 0 ls [])
  unfold f_L_byteAt at hf
  obtain ⟨k1, hf⟩ := hf
  refine lv_aload_n hx hb dL_byteAt_0 rfl (lv_at hl 2 rfl) ?_
  refine lv_iconst (v := 0) hx hb dL_byteAt_1 (by decide) ?_
  refine lv_aload_n hx hb dL_byteAt_2 rfl (lv_at hl 0 rfl) ?_
  refine lv_iload_n hx hb dL_byteAt_3 rfl (lv_at hl 1 rfl) ?_
  refine gx_ci (vx_runV (As := [.int v1]) (rest := [.int 0, .ref v2]) ⟨hx, hb, hml, hown, hts⟩ (m_X11_byteAt l hlt D cy tq _ Y _ _ _ _ _) (cwV 1 hts (good_V kw_1001 kw_1002 kw_1003 kw_1 kw_1004) rfl rfl rfl (by decide +kernel) ⟨Nat.le_of_ble_eq_true rfl, Nat.le_of_ble_eq_true rfl⟩) (gm_preV hK hW hC hS hA k1 (by decide) (q := (RX11, TX11, 13)) rfl rfl hf) rfl rfl hl.1 rfl (lv_room (Nat.le_of_ble_eq_true rfl)) dL_byteAt_4 ⟨Nat.le_of_ble_eq_true rfl, Nat.le_of_ble_eq_true rfl⟩) hW hS hA (fun E M1 H locs ce q9 hW hS hf h1 h2 h3 => ?_) (fun r1 M1 H locs hW hS hf => ?_)
  · obtain ⟨rfl, hf⟩ := hf
    refine gx_catch1 hown ⟨0, 9, 12, 19⟩ [] htab (by decide) (by decide) (hts _ kw_455) hC.2.2.2.2.2.2.2.2.2.2.2.2.2.2.2.2.1 h1 h2 h3 ?_
    refine lv_astore_n (lv' := [(3, .ref q9), (0, .ref v0), (1, .int v1), (2, .ref v2)]) hx hb dL_byteAt_12 rfl hl (by decide) rfl (fun ls hl => ?_)
    refine lv_iconst (v := 1) hx hb dL_byteAt_13 (by decide) ?_
    exact vx_ret (gm_iret hx hb hr hlocks hW hS hf dL_byteAt_14)
  · refine lv_i2l hx hb dL_byteAt_7 rfl ?_
    obtain ⟨k2, h4, hf⟩ := hf
    refine gm_last hx hb hK hW hS k2 h4 dL_byteAt_8 (fun H locs M2 eM2 hW hS => ?_)
    replace hf := hf M2 eM2
    refine lv_goto (tgt := 15) hx hb dL_byteAt_9 (by decide) ?_
    refine lv_iconst (v := 0) hx hb dL_byteAt_15 (by decide) ?_
    exact vx_ret (gm_iret hx hb hr hlocks hW hS hf dL_byteAt_16)
abbrev rm_L_taken : Room := { frames := 8, cells := 1, slots := 6, locals := 227 }
def f_L_taken (Y : Ly) (v0 : Nat) (v1 : Int32) (v2 : Int32) (v3 : Nat) (M : Mm) (Kn : Int32 → Mm → Prop) : Prop :=
  yK Y v0 = 11 ∧ f_X11_taken Y v0 v1 v2 M (fun r1 M1 => yK Y v3 = 102 ∧ (vp_in 0 (yN Y v3) ∧ (∀ M2 : Mm, M2 = sJ M1 v3 (m1 (mJ M1 v3) (0 : Int32).toNatClampNeg r1) → Kn 0 M2))) (fun E M1 => (E = iAE ∧ Kn 1 M1))
set_option maxHeartbeats 4000000 in
set_option maxRecDepth 100000 in
theorem m_L_taken (l : Launch) (hlt : l.stackTraces = false) (D : va_G) (cy : Cy) (tq sz : Nat) (Y : Ly) (v0 : Nat) (v1 : Int32) (v2 : Int32) (v3 : Nat) (M : Mm) (Kn : Int32 → Mm → Prop) : Met l yL_taken (Cond.codeWith yL_taken cL_taken 5 (some .int) [(0, 9, 12, 19)] :: TT) rm_L_taken (PcG D cy tq [.ref v0, .int v1, .int v2, .ref v3] sz Y M (f_L_taken Y v0 v1 v2 v3 M Kn)) (va_Qi Kn (BG D cy (Am Y sz) Y) (Am Y sz)) 1 6 (Am Y sz) := by
  refine Met_of_vx (vx_ofWH (cc := cL_taken) (maxL := 5) (ret := (some .int)) (by decide) rfl ?_)
  intro p e s m args below meth c s₁ B hml hv
  obtain ⟨hargs, hsz, hW, hK, hC, hf⟩ := hv
  subst hsz
  have hx := B.exec
  have hb := B.bytes
  have hr := B.returns
  have hts0 := atoms_spec (ws := Cond.codeWith yL_taken cL_taken 5 (some .int) [(0, 9, 12, 19)] :: TT) B.pre
  have hts : ∀ w ∈ TT, w.before args s = true := fun w h => hts0 w (List.mem_cons_of_mem _ h)
  have htab := vx_table (x := x) B (hts0 _ List.mem_cons_self)
  have hown : s.vm.findClass RL = some m.cls := findClass_of_methodNamed B.named
  have hlocks := B.notSynchronized
  replace hW := Wd_self (sz := s.heap.size) hW
  generalize hAe : Am Y s.heap.size = A at hW hC ⊢
  have hA : ∀ q : Nat, s.heap.size ≤ q → A q := fun q h => by rw [← hAe]; exact Or.inr h
  clear hAe
  have hS : va_S A s.heap s.heap [] := va_S.rf
  obtain ⟨ls, hE, hl⟩ := gm_entry m [.ref v0, .int v1, .int v2, .ref v3] (n := 5) hargs (Nat.le_of_ble_eq_true rfl)
  rw [hE]
  have hl : lv_has ls 5 [(0, .ref v0), (1, .int v1), (2, .int v2), (3, .ref v3)] := hl
  show W p l e rm_L_taken s m args below meth c s.heap [] 0 0 (vx_MQ below (va_Qi Kn (BG D cy A Y) A) (fun _ _ _ => False) args s 1 6 A) (F0 m 0 ls [])
  unfold f_L_taken at hf
  obtain ⟨k1, hf⟩ := hf
  refine lv_aload_n hx hb dL_taken_0 rfl (lv_at hl 3 rfl) ?_
  refine lv_iconst (v := 0) hx hb dL_taken_1 (by decide) ?_
  refine lv_aload_n hx hb dL_taken_2 rfl (lv_at hl 0 rfl) ?_
  refine lv_iload_n hx hb dL_taken_3 rfl (lv_at hl 1 rfl) ?_
  refine lv_iload_n hx hb dL_taken_4 rfl (lv_at hl 2 rfl) ?_
  refine gx_cl (vx_runV (As := [.int v1, .int v2]) (rest := [.int 0, .ref v3]) ⟨hx, hb, hml, hown, hts⟩ (m_X11_taken l hlt D cy tq _ Y _ _ _ _ _ _) (cwV 2 hts (good_V kw_1008 kw_1009 kw_1010 kw_1 kw_1011) rfl rfl rfl (by decide +kernel) ⟨Nat.le_of_ble_eq_true rfl, Nat.le_of_ble_eq_true rfl⟩) (gm_preV hK hW hC hS hA k1 (by decide) (q := (RX11, TX11, 13)) rfl rfl hf) rfl rfl hl.1 rfl (lv_room (Nat.le_of_ble_eq_true rfl)) dL_taken_5 ⟨Nat.le_of_ble_eq_true rfl, Nat.le_of_ble_eq_true rfl⟩) hW hS hA (fun E M1 H locs ce q9 hW hS hf h1 h2 h3 => ?_) (fun r1 M1 H locs hW hS hf => ?_)
  · obtain ⟨rfl, hf⟩ := hf
    refine gx_catch1 hown ⟨0, 9, 12, 19⟩ [] htab (by decide) (by decide) (hts _ kw_455) hC.2.2.2.2.2.2.2.2.2.2.2.2.2.2.2.2.1 h1 h2 h3 ?_
    refine lv_astore (lv' := [(4, .ref q9), (0, .ref v0), (1, .int v1), (2, .int v2), (3, .ref v3)]) hx hb dL_taken_12 hl (by decide) rfl (fun ls hl => ?_)
    refine lv_iconst (v := 1) hx hb dL_taken_14 (by decide) ?_
    exact vx_ret (gm_iret hx hb hr hlocks hW hS hf dL_taken_15)
  · obtain ⟨k2, h4, hf⟩ := hf
    refine gm_last hx hb hK hW hS k2 h4 dL_taken_8 (fun H locs M2 eM2 hW hS => ?_)
    replace hf := hf M2 eM2
    refine lv_goto (tgt := 16) hx hb dL_taken_9 (by decide) ?_
    refine lv_iconst (v := 0) hx hb dL_taken_16 (by decide) ?_
    exact vx_ret (gm_iret hx hb hr hlocks hW hS hf dL_taken_17)
abbrev rm_L_find : Room := { frames := 9, cells := 2, slots := 12, locals := 236 }
def f_L_find (Y : Ly) (v0 : Nat) (v1 : Int32) (v2 : Int64) (v4 : Nat) (M : Mm) (Kn : Int32 → Mm → Prop) : Prop :=
  yK Y v0 = 11 ∧ f_X11_find Y v0 v1 v2 M (fun r1 M1 => yK Y v4 = 102 ∧ (vp_in 0 (yN Y v4) ∧ (∀ M2 : Mm, M2 = sJ M1 v4 (m1 (mJ M1 v4) (0 : Int32).toNatClampNeg r1) → Kn 0 M2))) (fun E M1 => (E = iAE ∧ Kn 1 M1) ∨ (E = iSE ∧ Kn 2 M1))
set_option maxHeartbeats 4000000 in
set_option maxRecDepth 100000 in
theorem m_L_find (l : Launch) (hlt : l.stackTraces = false) (D : va_G) (cy : Cy) (tq sz : Nat) (Y : Ly) (v0 : Nat) (v1 : Int32) (v2 : Int64) (v4 : Nat) (M : Mm) (Kn : Int32 → Mm → Prop) : Met l yL_find (Cond.codeWith yL_find cL_find 6 (some .int) [(0, 10, 13, 19), (0, 10, 17, 13)] :: TT) rm_L_find (PcG D cy tq [.ref v0, .int v1, .long v2, .ref v4] sz Y M (f_L_find Y v0 v1 v2 v4 M Kn)) (va_Qi Kn (BG D cy (Am Y sz) Y) (Am Y sz)) 2 12 (Am Y sz) := by
  refine Met_of_vx (vx_ofWH (cc := cL_find) (maxL := 6) (ret := (some .int)) (by decide) rfl ?_)
  intro p e s m args below meth c s₁ B hml hv
  obtain ⟨hargs, hsz, hW, hK, hC, hf⟩ := hv
  subst hsz
  have hx := B.exec
  have hb := B.bytes
  have hr := B.returns
  have hts0 := atoms_spec (ws := Cond.codeWith yL_find cL_find 6 (some .int) [(0, 10, 13, 19), (0, 10, 17, 13)] :: TT) B.pre
  have hts : ∀ w ∈ TT, w.before args s = true := fun w h => hts0 w (List.mem_cons_of_mem _ h)
  have htab := vx_table (x := x) B (hts0 _ List.mem_cons_self)
  have hown : s.vm.findClass RL = some m.cls := findClass_of_methodNamed B.named
  have hlocks := B.notSynchronized
  replace hW := Wd_self (sz := s.heap.size) hW
  generalize hAe : Am Y s.heap.size = A at hW hC ⊢
  have hA : ∀ q : Nat, s.heap.size ≤ q → A q := fun q h => by rw [← hAe]; exact Or.inr h
  clear hAe
  have hS : va_S A s.heap s.heap [] := va_S.rf
  obtain ⟨ls, hE, hl⟩ := gm_entry m [.ref v0, .int v1, .long v2, .ref v4] (n := 6) hargs (Nat.le_of_ble_eq_true rfl)
  rw [hE]
  have hl : lv_has ls 6 [(0, .ref v0), (1, .int v1), (2, .long v2), (4, .ref v4)] := hl
  show W p l e rm_L_find s m args below meth c s.heap [] 0 0 (vx_MQ below (va_Qi Kn (BG D cy A Y) A) (fun _ _ _ => False) args s 2 12 A) (F0 m 0 ls [])
  unfold f_L_find at hf
  obtain ⟨k1, hf⟩ := hf
  refine lv_aload hx hb dL_find_0 (lv_at hl 3 rfl) ?_
  refine lv_iconst (v := 0) hx hb dL_find_2 (by decide) ?_
  refine lv_aload_n hx hb dL_find_3 rfl (lv_at hl 0 rfl) ?_
  refine lv_iload_n hx hb dL_find_4 rfl (lv_at hl 1 rfl) ?_
  refine lv_lload_n hx hb dL_find_5 rfl (lv_at hl 2 rfl) ?_
  refine gx_cl (vx_runV (As := [.int v1, .long v2]) (rest := [.int 0, .ref v4]) ⟨hx, hb, hml, hown, hts⟩ (m_X11_find l hlt D cy tq _ Y _ _ _ _ _ _) (cwV 2 hts (good_V kw_1032 kw_1033 kw_1034 kw_1 kw_1035) rfl rfl rfl (by decide +kernel) ⟨Nat.le_of_ble_eq_true rfl, Nat.le_of_ble_eq_true rfl⟩) (gm_preV hK hW hC hS hA k1 (by decide) (q := (RX11, TX11, 13)) rfl rfl hf) rfl rfl hl.1 rfl (lv_room (Nat.le_of_ble_eq_true rfl)) dL_find_6 ⟨Nat.le_of_ble_eq_true rfl, Nat.le_of_ble_eq_true rfl⟩) hW hS hA (fun E M1 H locs ce q9 hW hS hf h1 h2 h3 => ?_) (fun r1 M1 H locs hW hS hf => ?_)
  · rcases hf with ⟨rfl, hf⟩ | ⟨rfl, hf⟩
    · refine gx_catch1 hown ⟨0, 10, 13, 19⟩ [⟨0, 10, 17, 13⟩] htab (by decide) (by decide) (hts _ kw_455) hC.2.2.2.2.2.2.2.2.2.2.2.2.2.2.2.2.1 h1 h2 h3 ?_
      refine lv_astore (lv' := [(5, .ref q9), (0, .ref v0), (1, .int v1), (2, .long v2), (4, .ref v4)]) hx hb dL_find_13 hl (by decide) rfl (fun ls hl => ?_)
      refine lv_iconst (v := 1) hx hb dL_find_15 (by decide) ?_
      exact vx_ret (gm_iret hx hb hr hlocks hW hS hf dL_find_16)
    · refine gx_catch2 hown ⟨0, 10, 13, 19⟩ ⟨0, 10, 17, 13⟩ [] htab (by decide) (by decide) (by decide) (by decide) (hts _ kw_455) hC.2.2.2.2.2.2.2.2.2.2.2.2.2.2.2.2.2.2.2.2.1 (hts _ kw_397) hC.2.2.2.2.2.2.2.2.2.2.2.2.2.2.2.1 h1 h2 h3 ?_
      refine lv_astore (lv' := [(5, .ref q9), (0, .ref v0), (1, .int v1), (2, .long v2), (4, .ref v4)]) hx hb dL_find_17 hl (by decide) rfl (fun ls hl => ?_)
      refine lv_iconst (v := 2) hx hb dL_find_19 (by decide) ?_
      exact vx_ret (gm_iret hx hb hr hlocks hW hS hf dL_find_20)
  · obtain ⟨k2, h4, hf⟩ := hf
    refine gm_last hx hb hK hW hS k2 h4 dL_find_9 (fun H locs M2 eM2 hW hS => ?_)
    replace hf := hf M2 eM2
    refine lv_goto (tgt := 21) hx hb dL_find_10 (by decide) ?_
    refine lv_iconst (v := 0) hx hb dL_find_21 (by decide) ?_
    exact vx_ret (gm_iret hx hb hr hlocks hW hS hf dL_find_22)
abbrev rm_L_retain : Room := { frames := 9, cells := 2, slots := 12, locals := 196 }
def f_L_retain (Y : Ly) (v0 : Nat) (v1 : Int32) (v2 : Int32) (v3 : Nat) (M : Mm) (Kn : Int32 → Mm → Prop) : Prop :=
  yK Y v0 = 11 ∧ f_X11_retain Y v0 v1 v2 M (fun r1 M1 => yK Y v3 = 102 ∧ (vp_in 0 (yN Y v3) ∧ (∀ M2 : Mm, M2 = sJ M1 v3 (m1 (mJ M1 v3) (0 : Int32).toNatClampNeg r1.toInt64) → Kn 0 M2))) (fun E M1 => (E = iAE ∧ Kn 1 M1) ∨ (E = iSE ∧ Kn 2 M1))
set_option maxHeartbeats 4000000 in
set_option maxRecDepth 100000 in
theorem m_L_retain (l : Launch) (hlt : l.stackTraces = false) (D : va_G) (cy : Cy) (tq sz : Nat) (Y : Ly) (v0 : Nat) (v1 : Int32) (v2 : Int32) (v3 : Nat) (M : Mm) (Kn : Int32 → Mm → Prop) : Met l yL_retain (Cond.codeWith yL_retain cL_retain 5 (some .int) [(0, 10, 13, 19), (0, 10, 17, 13)] :: TT) rm_L_retain (PcG D cy tq [.ref v0, .int v1, .int v2, .ref v3] sz Y M (f_L_retain Y v0 v1 v2 v3 M Kn)) (va_Qi Kn (BG D cy (Am Y sz) Y) (Am Y sz)) 2 12 (Am Y sz) := by
  refine Met_of_vx (vx_ofWH (cc := cL_retain) (maxL := 5) (ret := (some .int)) (by decide) rfl ?_)
  intro p e s m args below meth c s₁ B hml hv
  obtain ⟨hargs, hsz, hW, hK, hC, hf⟩ := hv
  subst hsz
  have hx := B.exec
  have hb := B.bytes
  have hr := B.returns
  have hts0 := atoms_spec (ws := Cond.codeWith yL_retain cL_retain 5 (some .int) [(0, 10, 13, 19), (0, 10, 17, 13)] :: TT) B.pre
  have hts : ∀ w ∈ TT, w.before args s = true := fun w h => hts0 w (List.mem_cons_of_mem _ h)
  have htab := vx_table (x := x) B (hts0 _ List.mem_cons_self)
  have hown : s.vm.findClass RL = some m.cls := findClass_of_methodNamed B.named
  have hlocks := B.notSynchronized
  replace hW := Wd_self (sz := s.heap.size) hW
  generalize hAe : Am Y s.heap.size = A at hW hC ⊢
  have hA : ∀ q : Nat, s.heap.size ≤ q → A q := fun q h => by rw [← hAe]; exact Or.inr h
  clear hAe
  have hS : va_S A s.heap s.heap [] := va_S.rf
  obtain ⟨ls, hE, hl⟩ := gm_entry m [.ref v0, .int v1, .int v2, .ref v3] (n := 5) hargs (Nat.le_of_ble_eq_true rfl)
  rw [hE]
  have hl : lv_has ls 5 [(0, .ref v0), (1, .int v1), (2, .int v2), (3, .ref v3)] := hl
  show W p l e rm_L_retain s m args below meth c s.heap [] 0 0 (vx_MQ below (va_Qi Kn (BG D cy A Y) A) (fun _ _ _ => False) args s 2 12 A) (F0 m 0 ls [])
  unfold f_L_retain at hf
  obtain ⟨k1, hf⟩ := hf
  refine lv_aload_n hx hb dL_retain_0 rfl (lv_at hl 3 rfl) ?_
  refine lv_iconst (v := 0) hx hb dL_retain_1 (by decide) ?_
  refine lv_aload_n hx hb dL_retain_2 rfl (lv_at hl 0 rfl) ?_
  refine lv_iload_n hx hb dL_retain_3 rfl (lv_at hl 1 rfl) ?_
  refine lv_iload_n hx hb dL_retain_4 rfl (lv_at hl 2 rfl) ?_
  refine gx_ci (vx_runV (As := [.int v1, .int v2]) (rest := [.int 0, .ref v3]) ⟨hx, hb, hml, hown, hts⟩ (m_X11_retain l hlt D cy tq _ Y _ _ _ _ _ _) (cwV 2 hts (good_V kw_1048 kw_1049 kw_1050 kw_1 kw_1051) rfl rfl rfl (by decide +kernel) ⟨Nat.le_of_ble_eq_true rfl, Nat.le_of_ble_eq_true rfl⟩) (gm_preV hK hW hC hS hA k1 (by decide) (q := (RX11, TX11, 13)) rfl rfl hf) rfl rfl hl.1 rfl (lv_room (Nat.le_of_ble_eq_true rfl)) dL_retain_5 ⟨Nat.le_of_ble_eq_true rfl, Nat.le_of_ble_eq_true rfl⟩) hW hS hA (fun E M1 H locs ce q9 hW hS hf h1 h2 h3 => ?_) (fun r1 M1 H locs hW hS hf => ?_)
  · rcases hf with ⟨rfl, hf⟩ | ⟨rfl, hf⟩
    · refine gx_catch1 hown ⟨0, 10, 13, 19⟩ [⟨0, 10, 17, 13⟩] htab (by decide) (by decide) (hts _ kw_455) hC.2.2.2.2.2.2.2.2.2.2.2.2.2.2.2.2.1 h1 h2 h3 ?_
      refine lv_astore (lv' := [(4, .ref q9), (0, .ref v0), (1, .int v1), (2, .int v2), (3, .ref v3)]) hx hb dL_retain_13 hl (by decide) rfl (fun ls hl => ?_)
      refine lv_iconst (v := 1) hx hb dL_retain_15 (by decide) ?_
      exact vx_ret (gm_iret hx hb hr hlocks hW hS hf dL_retain_16)
    · refine gx_catch2 hown ⟨0, 10, 13, 19⟩ ⟨0, 10, 17, 13⟩ [] htab (by decide) (by decide) (by decide) (by decide) (hts _ kw_455) hC.2.2.2.2.2.2.2.2.2.2.2.2.2.2.2.2.2.2.2.2.1 (hts _ kw_397) hC.2.2.2.2.2.2.2.2.2.2.2.2.2.2.2.1 h1 h2 h3 ?_
      refine lv_astore (lv' := [(4, .ref q9), (0, .ref v0), (1, .int v1), (2, .int v2), (3, .ref v3)]) hx hb dL_retain_17 hl (by decide) rfl (fun ls hl => ?_)
      refine lv_iconst (v := 2) hx hb dL_retain_19 (by decide) ?_
      exact vx_ret (gm_iret hx hb hr hlocks hW hS hf dL_retain_20)
  · refine lv_i2l hx hb dL_retain_8 rfl ?_
    obtain ⟨k2, h4, hf⟩ := hf
    refine gm_last hx hb hK hW hS k2 h4 dL_retain_9 (fun H locs M2 eM2 hW hS => ?_)
    replace hf := hf M2 eM2
    refine lv_goto (tgt := 21) hx hb dL_retain_10 (by decide) ?_
    refine lv_iconst (v := 0) hx hb dL_retain_21 (by decide) ?_
    exact vx_ret (gm_iret hx hb hr hlocks hW hS hf dL_retain_22)
abbrev rm_L_compact : Room := { frames := 9, cells := 2, slots := 12, locals := 249 }
def f_L_compact (Y : Ly) (v0 : Nat) (v1 : Int32) (v2 : Nat) (M : Mm) (Kn : Int32 → Mm → Prop) : Prop :=
  yK Y v0 = 11 ∧ f_X11_compact Y v0 v1 M (fun r1 M1 => yK Y v2 = 102 ∧ (vp_in 0 (yN Y v2) ∧ (∀ M2 : Mm, M2 = sJ M1 v2 (m1 (mJ M1 v2) (0 : Int32).toNatClampNeg r1.toInt64) → Kn 0 M2))) (fun E M1 => (E = iAE ∧ Kn 1 M1) ∨ (E = iSE ∧ Kn 2 M1))
set_option maxHeartbeats 4000000 in
set_option maxRecDepth 100000 in
theorem m_L_compact (l : Launch) (hlt : l.stackTraces = false) (D : va_G) (cy : Cy) (tq sz : Nat) (Y : Ly) (v0 : Nat) (v1 : Int32) (v2 : Nat) (M : Mm) (Kn : Int32 → Mm → Prop) : Met l yL_compact (Cond.codeWith yL_compact cL_compact 4 (some .int) [(0, 9, 12, 19), (0, 9, 15, 13)] :: TT) rm_L_compact (PcG D cy tq [.ref v0, .int v1, .ref v2] sz Y M (f_L_compact Y v0 v1 v2 M Kn)) (va_Qi Kn (BG D cy (Am Y sz) Y) (Am Y sz)) 2 12 (Am Y sz) := by
  refine Met_of_vx (vx_ofWH (cc := cL_compact) (maxL := 4) (ret := (some .int)) (by decide) rfl ?_)
  intro p e s m args below meth c s₁ B hml hv
  obtain ⟨hargs, hsz, hW, hK, hC, hf⟩ := hv
  subst hsz
  have hx := B.exec
  have hb := B.bytes
  have hr := B.returns
  have hts0 := atoms_spec (ws := Cond.codeWith yL_compact cL_compact 4 (some .int) [(0, 9, 12, 19), (0, 9, 15, 13)] :: TT) B.pre
  have hts : ∀ w ∈ TT, w.before args s = true := fun w h => hts0 w (List.mem_cons_of_mem _ h)
  have htab := vx_table (x := x) B (hts0 _ List.mem_cons_self)
  have hown : s.vm.findClass RL = some m.cls := findClass_of_methodNamed B.named
  have hlocks := B.notSynchronized
  replace hW := Wd_self (sz := s.heap.size) hW
  generalize hAe : Am Y s.heap.size = A at hW hC ⊢
  have hA : ∀ q : Nat, s.heap.size ≤ q → A q := fun q h => by rw [← hAe]; exact Or.inr h
  clear hAe
  have hS : va_S A s.heap s.heap [] := va_S.rf
  obtain ⟨ls, hE, hl⟩ := gm_entry m [.ref v0, .int v1, .ref v2] (n := 4) hargs (Nat.le_of_ble_eq_true rfl)
  rw [hE]
  have hl : lv_has ls 4 [(0, .ref v0), (1, .int v1), (2, .ref v2)] := hl
  show W p l e rm_L_compact s m args below meth c s.heap [] 0 0 (vx_MQ below (va_Qi Kn (BG D cy A Y) A) (fun _ _ _ => False) args s 2 12 A) (F0 m 0 ls [])
  unfold f_L_compact at hf
  obtain ⟨k1, hf⟩ := hf
  refine lv_aload_n hx hb dL_compact_0 rfl (lv_at hl 2 rfl) ?_
  refine lv_iconst (v := 0) hx hb dL_compact_1 (by decide) ?_
  refine lv_aload_n hx hb dL_compact_2 rfl (lv_at hl 0 rfl) ?_
  refine lv_iload_n hx hb dL_compact_3 rfl (lv_at hl 1 rfl) ?_
  refine gx_ci (vx_runV (As := [.int v1]) (rest := [.int 0, .ref v2]) ⟨hx, hb, hml, hown, hts⟩ (m_X11_compact l hlt D cy tq _ Y _ _ _ _ _) (cwV 1 hts (good_V kw_1065 kw_1066 kw_1067 kw_1 kw_1068) rfl rfl rfl (by decide +kernel) ⟨Nat.le_of_ble_eq_true rfl, Nat.le_of_ble_eq_true rfl⟩) (gm_preV hK hW hC hS hA k1 (by decide) (q := (RX11, TX11, 13)) rfl rfl hf) rfl rfl hl.1 rfl (lv_room (Nat.le_of_ble_eq_true rfl)) dL_compact_4 ⟨Nat.le_of_ble_eq_true rfl, Nat.le_of_ble_eq_true rfl⟩) hW hS hA (fun E M1 H locs ce q9 hW hS hf h1 h2 h3 => ?_) (fun r1 M1 H locs hW hS hf => ?_)
  · rcases hf with ⟨rfl, hf⟩ | ⟨rfl, hf⟩
    · refine gx_catch1 hown ⟨0, 9, 12, 19⟩ [⟨0, 9, 15, 13⟩] htab (by decide) (by decide) (hts _ kw_455) hC.2.2.2.2.2.2.2.2.2.2.2.2.2.2.2.2.1 h1 h2 h3 ?_
      refine lv_astore_n (lv' := [(3, .ref q9), (0, .ref v0), (1, .int v1), (2, .ref v2)]) hx hb dL_compact_12 rfl hl (by decide) rfl (fun ls hl => ?_)
      refine lv_iconst (v := 1) hx hb dL_compact_13 (by decide) ?_
      exact vx_ret (gm_iret hx hb hr hlocks hW hS hf dL_compact_14)
    · refine gx_catch2 hown ⟨0, 9, 12, 19⟩ ⟨0, 9, 15, 13⟩ [] htab (by decide) (by decide) (by decide) (by decide) (hts _ kw_455) hC.2.2.2.2.2.2.2.2.2.2.2.2.2.2.2.2.2.2.2.2.1 (hts _ kw_397) hC.2.2.2.2.2.2.2.2.2.2.2.2.2.2.2.1 h1 h2 h3 ?_
      refine lv_astore_n (lv' := [(3, .ref q9), (0, .ref v0), (1, .int v1), (2, .ref v2)]) hx hb dL_compact_15 rfl hl (by decide) rfl (fun ls hl => ?_)
      refine lv_iconst (v := 2) hx hb dL_compact_16 (by decide) ?_
      exact vx_ret (gm_iret hx hb hr hlocks hW hS hf dL_compact_17)
  · refine lv_i2l hx hb dL_compact_7 rfl ?_
    obtain ⟨k2, h4, hf⟩ := hf
    refine gm_last hx hb hK hW hS k2 h4 dL_compact_8 (fun H locs M2 eM2 hW hS => ?_)
    replace hf := hf M2 eM2
    refine lv_goto (tgt := 18) hx hb dL_compact_9 (by decide) ?_
    refine lv_iconst (v := 0) hx hb dL_compact_18 (by decide) ?_
    exact vx_ret (gm_iret hx hb hr hlocks hW hS hf dL_compact_19)
abbrev rm_L_join : Room := { frames := 9, cells := 2, slots := 12, locals := 247 }
def f_L_join (Y : Ly) (v0 : Nat) (v1 : Int32) (v2 : Int32) (v3 : Nat) (M : Mm) (Kn : Int32 → Mm → Prop) : Prop :=
  yK Y v0 = 11 ∧ f_X11_join Y v0 v1 v2 M (fun r1 M1 => yK Y v3 = 102 ∧ (vp_in 0 (yN Y v3) ∧ (∀ M2 : Mm, M2 = sJ M1 v3 (m1 (mJ M1 v3) (0 : Int32).toNatClampNeg r1.toInt64) → Kn 0 M2))) (fun E M1 => (E = iAE ∧ Kn 1 M1) ∨ (E = iSE ∧ Kn 2 M1))
set_option maxHeartbeats 4000000 in
set_option maxRecDepth 100000 in
theorem m_L_join (l : Launch) (hlt : l.stackTraces = false) (D : va_G) (cy : Cy) (tq sz : Nat) (Y : Ly) (v0 : Nat) (v1 : Int32) (v2 : Int32) (v3 : Nat) (M : Mm) (Kn : Int32 → Mm → Prop) : Met l yL_join (Cond.codeWith yL_join cL_join 5 (some .int) [(0, 10, 13, 19), (0, 10, 17, 13)] :: TT) rm_L_join (PcG D cy tq [.ref v0, .int v1, .int v2, .ref v3] sz Y M (f_L_join Y v0 v1 v2 v3 M Kn)) (va_Qi Kn (BG D cy (Am Y sz) Y) (Am Y sz)) 2 12 (Am Y sz) := by
  refine Met_of_vx (vx_ofWH (cc := cL_join) (maxL := 5) (ret := (some .int)) (by decide) rfl ?_)
  intro p e s m args below meth c s₁ B hml hv
  obtain ⟨hargs, hsz, hW, hK, hC, hf⟩ := hv
  subst hsz
  have hx := B.exec
  have hb := B.bytes
  have hr := B.returns
  have hts0 := atoms_spec (ws := Cond.codeWith yL_join cL_join 5 (some .int) [(0, 10, 13, 19), (0, 10, 17, 13)] :: TT) B.pre
  have hts : ∀ w ∈ TT, w.before args s = true := fun w h => hts0 w (List.mem_cons_of_mem _ h)
  have htab := vx_table (x := x) B (hts0 _ List.mem_cons_self)
  have hown : s.vm.findClass RL = some m.cls := findClass_of_methodNamed B.named
  have hlocks := B.notSynchronized
  replace hW := Wd_self (sz := s.heap.size) hW
  generalize hAe : Am Y s.heap.size = A at hW hC ⊢
  have hA : ∀ q : Nat, s.heap.size ≤ q → A q := fun q h => by rw [← hAe]; exact Or.inr h
  clear hAe
  have hS : va_S A s.heap s.heap [] := va_S.rf
  obtain ⟨ls, hE, hl⟩ := gm_entry m [.ref v0, .int v1, .int v2, .ref v3] (n := 5) hargs (Nat.le_of_ble_eq_true rfl)
  rw [hE]
  have hl : lv_has ls 5 [(0, .ref v0), (1, .int v1), (2, .int v2), (3, .ref v3)] := hl
  show W p l e rm_L_join s m args below meth c s.heap [] 0 0 (vx_MQ below (va_Qi Kn (BG D cy A Y) A) (fun _ _ _ => False) args s 2 12 A) (F0 m 0 ls [])
  unfold f_L_join at hf
  obtain ⟨k1, hf⟩ := hf
  refine lv_aload_n hx hb dL_join_0 rfl (lv_at hl 3 rfl) ?_
  refine lv_iconst (v := 0) hx hb dL_join_1 (by decide) ?_
  refine lv_aload_n hx hb dL_join_2 rfl (lv_at hl 0 rfl) ?_
  refine lv_iload_n hx hb dL_join_3 rfl (lv_at hl 1 rfl) ?_
  refine lv_iload_n hx hb dL_join_4 rfl (lv_at hl 2 rfl) ?_
  refine gx_ci (vx_runV (As := [.int v1, .int v2]) (rest := [.int 0, .ref v3]) ⟨hx, hb, hml, hown, hts⟩ (m_X11_join l hlt D cy tq _ Y _ _ _ _ _ _) (cwV 2 hts (good_V kw_1137 kw_1138 kw_1139 kw_1 kw_1140) rfl rfl rfl (by decide +kernel) ⟨Nat.le_of_ble_eq_true rfl, Nat.le_of_ble_eq_true rfl⟩) (gm_preV hK hW hC hS hA k1 (by decide) (q := (RX11, TX11, 13)) rfl rfl hf) rfl rfl hl.1 rfl (lv_room (Nat.le_of_ble_eq_true rfl)) dL_join_5 ⟨Nat.le_of_ble_eq_true rfl, Nat.le_of_ble_eq_true rfl⟩) hW hS hA (fun E M1 H locs ce q9 hW hS hf h1 h2 h3 => ?_) (fun r1 M1 H locs hW hS hf => ?_)
  · rcases hf with ⟨rfl, hf⟩ | ⟨rfl, hf⟩
    · refine gx_catch1 hown ⟨0, 10, 13, 19⟩ [⟨0, 10, 17, 13⟩] htab (by decide) (by decide) (hts _ kw_455) hC.2.2.2.2.2.2.2.2.2.2.2.2.2.2.2.2.1 h1 h2 h3 ?_
      refine lv_astore (lv' := [(4, .ref q9), (0, .ref v0), (1, .int v1), (2, .int v2), (3, .ref v3)]) hx hb dL_join_13 hl (by decide) rfl (fun ls hl => ?_)
      refine lv_iconst (v := 1) hx hb dL_join_15 (by decide) ?_
      exact vx_ret (gm_iret hx hb hr hlocks hW hS hf dL_join_16)
    · refine gx_catch2 hown ⟨0, 10, 13, 19⟩ ⟨0, 10, 17, 13⟩ [] htab (by decide) (by decide) (by decide) (by decide) (hts _ kw_455) hC.2.2.2.2.2.2.2.2.2.2.2.2.2.2.2.2.2.2.2.2.1 (hts _ kw_397) hC.2.2.2.2.2.2.2.2.2.2.2.2.2.2.2.1 h1 h2 h3 ?_
      refine lv_astore (lv' := [(4, .ref q9), (0, .ref v0), (1, .int v1), (2, .int v2), (3, .ref v3)]) hx hb dL_join_17 hl (by decide) rfl (fun ls hl => ?_)
      refine lv_iconst (v := 2) hx hb dL_join_19 (by decide) ?_
      exact vx_ret (gm_iret hx hb hr hlocks hW hS hf dL_join_20)
  · refine lv_i2l hx hb dL_join_8 rfl ?_
    obtain ⟨k2, h4, hf⟩ := hf
    refine gm_last hx hb hK hW hS k2 h4 dL_join_9 (fun H locs M2 eM2 hW hS => ?_)
    replace hf := hf M2 eM2
    refine lv_goto (tgt := 21) hx hb dL_join_10 (by decide) ?_
    refine lv_iconst (v := 0) hx hb dL_join_21 (by decide) ?_
    exact vx_ret (gm_iret hx hb hr hlocks hW hS hf dL_join_22)
abbrev rm_L_leave : Room := { frames := 9, cells := 2, slots := 12, locals := 247 }
def f_L_leave (Y : Ly) (v0 : Nat) (v1 : Int32) (v2 : Int32) (v3 : Nat) (M : Mm) (Kn : Int32 → Mm → Prop) : Prop :=
  yK Y v0 = 11 ∧ f_X11_leave Y v0 v1 v2 M (fun r1 M1 => yK Y v3 = 102 ∧ (vp_in 0 (yN Y v3) ∧ (∀ M2 : Mm, M2 = sJ M1 v3 (m1 (mJ M1 v3) (0 : Int32).toNatClampNeg r1.toInt64) → Kn 0 M2))) (fun E M1 => (E = iAE ∧ Kn 1 M1) ∨ (E = iSE ∧ Kn 2 M1))
set_option maxHeartbeats 4000000 in
set_option maxRecDepth 100000 in
theorem m_L_leave (l : Launch) (hlt : l.stackTraces = false) (D : va_G) (cy : Cy) (tq sz : Nat) (Y : Ly) (v0 : Nat) (v1 : Int32) (v2 : Int32) (v3 : Nat) (M : Mm) (Kn : Int32 → Mm → Prop) : Met l yL_leave (Cond.codeWith yL_leave cL_leave 5 (some .int) [(0, 10, 13, 19), (0, 10, 17, 13)] :: TT) rm_L_leave (PcG D cy tq [.ref v0, .int v1, .int v2, .ref v3] sz Y M (f_L_leave Y v0 v1 v2 v3 M Kn)) (va_Qi Kn (BG D cy (Am Y sz) Y) (Am Y sz)) 2 12 (Am Y sz) := by
  refine Met_of_vx (vx_ofWH (cc := cL_leave) (maxL := 5) (ret := (some .int)) (by decide) rfl ?_)
  intro p e s m args below meth c s₁ B hml hv
  obtain ⟨hargs, hsz, hW, hK, hC, hf⟩ := hv
  subst hsz
  have hx := B.exec
  have hb := B.bytes
  have hr := B.returns
  have hts0 := atoms_spec (ws := Cond.codeWith yL_leave cL_leave 5 (some .int) [(0, 10, 13, 19), (0, 10, 17, 13)] :: TT) B.pre
  have hts : ∀ w ∈ TT, w.before args s = true := fun w h => hts0 w (List.mem_cons_of_mem _ h)
  have htab := vx_table (x := x) B (hts0 _ List.mem_cons_self)
  have hown : s.vm.findClass RL = some m.cls := findClass_of_methodNamed B.named
  have hlocks := B.notSynchronized
  replace hW := Wd_self (sz := s.heap.size) hW
  generalize hAe : Am Y s.heap.size = A at hW hC ⊢
  have hA : ∀ q : Nat, s.heap.size ≤ q → A q := fun q h => by rw [← hAe]; exact Or.inr h
  clear hAe
  have hS : va_S A s.heap s.heap [] := va_S.rf
  obtain ⟨ls, hE, hl⟩ := gm_entry m [.ref v0, .int v1, .int v2, .ref v3] (n := 5) hargs (Nat.le_of_ble_eq_true rfl)
  rw [hE]
  have hl : lv_has ls 5 [(0, .ref v0), (1, .int v1), (2, .int v2), (3, .ref v3)] := hl
  show W p l e rm_L_leave s m args below meth c s.heap [] 0 0 (vx_MQ below (va_Qi Kn (BG D cy A Y) A) (fun _ _ _ => False) args s 2 12 A) (F0 m 0 ls [])
  unfold f_L_leave at hf
  obtain ⟨k1, hf⟩ := hf
  refine lv_aload_n hx hb dL_leave_0 rfl (lv_at hl 3 rfl) ?_
  refine lv_iconst (v := 0) hx hb dL_leave_1 (by decide) ?_
  refine lv_aload_n hx hb dL_leave_2 rfl (lv_at hl 0 rfl) ?_
  refine lv_iload_n hx hb dL_leave_3 rfl (lv_at hl 1 rfl) ?_
  refine lv_iload_n hx hb dL_leave_4 rfl (lv_at hl 2 rfl) ?_
  refine gx_ci (vx_runV (As := [.int v1, .int v2]) (rest := [.int 0, .ref v3]) ⟨hx, hb, hml, hown, hts⟩ (m_X11_leave l hlt D cy tq _ Y _ _ _ _ _ _) (cwV 2 hts (good_V kw_1173 kw_1174 kw_1175 kw_1 kw_1176) rfl rfl rfl (by decide +kernel) ⟨Nat.le_of_ble_eq_true rfl, Nat.le_of_ble_eq_true rfl⟩) (gm_preV hK hW hC hS hA k1 (by decide) (q := (RX11, TX11, 13)) rfl rfl hf) rfl rfl hl.1 rfl (lv_room (Nat.le_of_ble_eq_true rfl)) dL_leave_5 ⟨Nat.le_of_ble_eq_true rfl, Nat.le_of_ble_eq_true rfl⟩) hW hS hA (fun E M1 H locs ce q9 hW hS hf h1 h2 h3 => ?_) (fun r1 M1 H locs hW hS hf => ?_)
  · rcases hf with ⟨rfl, hf⟩ | ⟨rfl, hf⟩
    · refine gx_catch1 hown ⟨0, 10, 13, 19⟩ [⟨0, 10, 17, 13⟩] htab (by decide) (by decide) (hts _ kw_455) hC.2.2.2.2.2.2.2.2.2.2.2.2.2.2.2.2.1 h1 h2 h3 ?_
      refine lv_astore (lv' := [(4, .ref q9), (0, .ref v0), (1, .int v1), (2, .int v2), (3, .ref v3)]) hx hb dL_leave_13 hl (by decide) rfl (fun ls hl => ?_)
      refine lv_iconst (v := 1) hx hb dL_leave_15 (by decide) ?_
      exact vx_ret (gm_iret hx hb hr hlocks hW hS hf dL_leave_16)
    · refine gx_catch2 hown ⟨0, 10, 13, 19⟩ ⟨0, 10, 17, 13⟩ [] htab (by decide) (by decide) (by decide) (by decide) (hts _ kw_455) hC.2.2.2.2.2.2.2.2.2.2.2.2.2.2.2.2.2.2.2.2.1 (hts _ kw_397) hC.2.2.2.2.2.2.2.2.2.2.2.2.2.2.2.1 h1 h2 h3 ?_
      refine lv_astore (lv' := [(4, .ref q9), (0, .ref v0), (1, .int v1), (2, .int v2), (3, .ref v3)]) hx hb dL_leave_17 hl (by decide) rfl (fun ls hl => ?_)
      refine lv_iconst (v := 2) hx hb dL_leave_19 (by decide) ?_
      exact vx_ret (gm_iret hx hb hr hlocks hW hS hf dL_leave_20)
  · refine lv_i2l hx hb dL_leave_8 rfl ?_
    obtain ⟨k2, h4, hf⟩ := hf
    refine gm_last hx hb hK hW hS k2 h4 dL_leave_9 (fun H locs M2 eM2 hW hS => ?_)
    replace hf := hf M2 eM2
    refine lv_goto (tgt := 21) hx hb dL_leave_10 (by decide) ?_
    refine lv_iconst (v := 0) hx hb dL_leave_21 (by decide) ?_
    exact vx_ret (gm_iret hx hb hr hlocks hW hS hf dL_leave_22)
abbrev rm_L_beat : Room := { frames := 9, cells := 2, slots := 12, locals := 172 }
def f_L_beat (Y : Ly) (v0 : Nat) (v1 : Int32) (v2 : Int32) (v3 : Int32) (v4 : Nat) (M : Mm) (Kn : Int32 → Mm → Prop) : Prop :=
  yK Y v0 = 11 ∧ f_X11_beat Y v0 v1 v2 v3 M (fun r1 M1 => yK Y v4 = 102 ∧ (vp_in 0 (yN Y v4) ∧ (∀ M2 : Mm, M2 = sJ M1 v4 (m1 (mJ M1 v4) (0 : Int32).toNatClampNeg r1.toInt64) → Kn 0 M2))) (fun E M1 => (E = iAE ∧ Kn 1 M1) ∨ (E = iSE ∧ Kn 2 M1))
set_option maxHeartbeats 4000000 in
set_option maxRecDepth 100000 in
theorem m_L_beat (l : Launch) (hlt : l.stackTraces = false) (D : va_G) (cy : Cy) (tq sz : Nat) (Y : Ly) (v0 : Nat) (v1 : Int32) (v2 : Int32) (v3 : Int32) (v4 : Nat) (M : Mm) (Kn : Int32 → Mm → Prop) : Met l yL_beat (Cond.codeWith yL_beat cL_beat 6 (some .int) [(0, 12, 15, 19), (0, 12, 19, 13)] :: TT) rm_L_beat (PcG D cy tq [.ref v0, .int v1, .int v2, .int v3, .ref v4] sz Y M (f_L_beat Y v0 v1 v2 v3 v4 M Kn)) (va_Qi Kn (BG D cy (Am Y sz) Y) (Am Y sz)) 2 12 (Am Y sz) := by
  refine Met_of_vx (vx_ofWH (cc := cL_beat) (maxL := 6) (ret := (some .int)) (by decide) rfl ?_)
  intro p e s m args below meth c s₁ B hml hv
  obtain ⟨hargs, hsz, hW, hK, hC, hf⟩ := hv
  subst hsz
  have hx := B.exec
  have hb := B.bytes
  have hr := B.returns
  have hts0 := atoms_spec (ws := Cond.codeWith yL_beat cL_beat 6 (some .int) [(0, 12, 15, 19), (0, 12, 19, 13)] :: TT) B.pre
  have hts : ∀ w ∈ TT, w.before args s = true := fun w h => hts0 w (List.mem_cons_of_mem _ h)
  have htab := vx_table (x := x) B (hts0 _ List.mem_cons_self)
  have hown : s.vm.findClass RL = some m.cls := findClass_of_methodNamed B.named
  have hlocks := B.notSynchronized
  replace hW := Wd_self (sz := s.heap.size) hW
  generalize hAe : Am Y s.heap.size = A at hW hC ⊢
  have hA : ∀ q : Nat, s.heap.size ≤ q → A q := fun q h => by rw [← hAe]; exact Or.inr h
  clear hAe
  have hS : va_S A s.heap s.heap [] := va_S.rf
  obtain ⟨ls, hE, hl⟩ := gm_entry m [.ref v0, .int v1, .int v2, .int v3, .ref v4] (n := 6) hargs (Nat.le_of_ble_eq_true rfl)
  rw [hE]
  have hl : lv_has ls 6 [(0, .ref v0), (1, .int v1), (2, .int v2), (3, .int v3), (4, .ref v4)] := hl
  show W p l e rm_L_beat s m args below meth c s.heap [] 0 0 (vx_MQ below (va_Qi Kn (BG D cy A Y) A) (fun _ _ _ => False) args s 2 12 A) (F0 m 0 ls [])
  unfold f_L_beat at hf
  obtain ⟨k1, hf⟩ := hf
  refine lv_aload hx hb dL_beat_0 (lv_at hl 4 rfl) ?_
  refine lv_iconst (v := 0) hx hb dL_beat_2 (by decide) ?_
  refine lv_aload_n hx hb dL_beat_3 rfl (lv_at hl 0 rfl) ?_
  refine lv_iload_n hx hb dL_beat_4 rfl (lv_at hl 1 rfl) ?_
  refine lv_iload_n hx hb dL_beat_5 rfl (lv_at hl 2 rfl) ?_
  refine lv_iload_n hx hb dL_beat_6 rfl (lv_at hl 3 rfl) ?_
  refine gx_ci (vx_runV (As := [.int v1, .int v2, .int v3]) (rest := [.int 0, .ref v4]) ⟨hx, hb, hml, hown, hts⟩ (m_X11_beat l hlt D cy tq _ Y _ _ _ _ _ _ _) (cwV 3 hts (good_V kw_1187 kw_1188 kw_1189 kw_1 kw_1190) rfl rfl rfl (by decide +kernel) ⟨Nat.le_of_ble_eq_true rfl, Nat.le_of_ble_eq_true rfl⟩) (gm_preV hK hW hC hS hA k1 (by decide) (q := (RX11, TX11, 13)) rfl rfl hf) rfl rfl hl.1 rfl (lv_room (Nat.le_of_ble_eq_true rfl)) dL_beat_7 ⟨Nat.le_of_ble_eq_true rfl, Nat.le_of_ble_eq_true rfl⟩) hW hS hA (fun E M1 H locs ce q9 hW hS hf h1 h2 h3 => ?_) (fun r1 M1 H locs hW hS hf => ?_)
  · rcases hf with ⟨rfl, hf⟩ | ⟨rfl, hf⟩
    · refine gx_catch1 hown ⟨0, 12, 15, 19⟩ [⟨0, 12, 19, 13⟩] htab (by decide) (by decide) (hts _ kw_455) hC.2.2.2.2.2.2.2.2.2.2.2.2.2.2.2.2.1 h1 h2 h3 ?_
      refine lv_astore (lv' := [(5, .ref q9), (0, .ref v0), (1, .int v1), (2, .int v2), (3, .int v3), (4, .ref v4)]) hx hb dL_beat_15 hl (by decide) rfl (fun ls hl => ?_)
      refine lv_iconst (v := 1) hx hb dL_beat_17 (by decide) ?_
      exact vx_ret (gm_iret hx hb hr hlocks hW hS hf dL_beat_18)
    · refine gx_catch2 hown ⟨0, 12, 15, 19⟩ ⟨0, 12, 19, 13⟩ [] htab (by decide) (by decide) (by decide) (by decide) (hts _ kw_455) hC.2.2.2.2.2.2.2.2.2.2.2.2.2.2.2.2.2.2.2.2.1 (hts _ kw_397) hC.2.2.2.2.2.2.2.2.2.2.2.2.2.2.2.1 h1 h2 h3 ?_
      refine lv_astore (lv' := [(5, .ref q9), (0, .ref v0), (1, .int v1), (2, .int v2), (3, .int v3), (4, .ref v4)]) hx hb dL_beat_19 hl (by decide) rfl (fun ls hl => ?_)
      refine lv_iconst (v := 2) hx hb dL_beat_21 (by decide) ?_
      exact vx_ret (gm_iret hx hb hr hlocks hW hS hf dL_beat_22)
  · refine lv_i2l hx hb dL_beat_10 rfl ?_
    obtain ⟨k2, h4, hf⟩ := hf
    refine gm_last hx hb hK hW hS k2 h4 dL_beat_11 (fun H locs M2 eM2 hW hS => ?_)
    replace hf := hf M2 eM2
    refine lv_goto (tgt := 23) hx hb dL_beat_12 (by decide) ?_
    refine lv_iconst (v := 0) hx hb dL_beat_23 (by decide) ?_
    exact vx_ret (gm_iret hx hb hr hlocks hW hS hf dL_beat_24)
abbrev rm_L_commit : Room := { frames := 9, cells := 2, slots := 12, locals := 232 }
def f_L_commit (Y : Ly) (v0 : Nat) (v1 : Int32) (v2 : Int32) (v3 : Int32) (v4 : Int32) (v5 : Int64) (v7 : Nat) (M : Mm) (Kn : Int32 → Mm → Prop) : Prop :=
  yK Y v0 = 11 ∧ f_X11_commit Y v0 v1 v2 v3 v4 v5 M (fun r1 M1 => yK Y v7 = 102 ∧ (vp_in 0 (yN Y v7) ∧ (∀ M2 : Mm, M2 = sJ M1 v7 (m1 (mJ M1 v7) (0 : Int32).toNatClampNeg r1.toInt64) → Kn 0 M2))) (fun E M1 => (E = iAE ∧ Kn 1 M1) ∨ (E = iSE ∧ Kn 2 M1))
set_option maxHeartbeats 4000000 in
set_option maxRecDepth 100000 in
theorem m_L_commit (l : Launch) (hlt : l.stackTraces = false) (D : va_G) (cy : Cy) (tq sz : Nat) (Y : Ly) (v0 : Nat) (v1 : Int32) (v2 : Int32) (v3 : Int32) (v4 : Int32) (v5 : Int64) (v7 : Nat) (M : Mm) (Kn : Int32 → Mm → Prop) : Met l yL_commit (Cond.codeWith yL_commit cL_commit 9 (some .int) [(0, 16, 19, 19), (0, 16, 23, 13)] :: TT) rm_L_commit (PcG D cy tq [.ref v0, .int v1, .int v2, .int v3, .int v4, .long v5, .ref v7] sz Y M (f_L_commit Y v0 v1 v2 v3 v4 v5 v7 M Kn)) (va_Qi Kn (BG D cy (Am Y sz) Y) (Am Y sz)) 2 12 (Am Y sz) := by
  refine Met_of_vx (vx_ofWH (cc := cL_commit) (maxL := 9) (ret := (some .int)) (by decide) rfl ?_)
  intro p e s m args below meth c s₁ B hml hv
  obtain ⟨hargs, hsz, hW, hK, hC, hf⟩ := hv
  subst hsz
  have hx := B.exec
  have hb := B.bytes
  have hr := B.returns
  have hts0 := atoms_spec (ws := Cond.codeWith yL_commit cL_commit 9 (some .int) [(0, 16, 19, 19), (0, 16, 23, 13)] :: TT) B.pre
  have hts : ∀ w ∈ TT, w.before args s = true := fun w h => hts0 w (List.mem_cons_of_mem _ h)
  have htab := vx_table (x := x) B (hts0 _ List.mem_cons_self)
  have hown : s.vm.findClass RL = some m.cls := findClass_of_methodNamed B.named
  have hlocks := B.notSynchronized
  replace hW := Wd_self (sz := s.heap.size) hW
  generalize hAe : Am Y s.heap.size = A at hW hC ⊢
  have hA : ∀ q : Nat, s.heap.size ≤ q → A q := fun q h => by rw [← hAe]; exact Or.inr h
  clear hAe
  have hS : va_S A s.heap s.heap [] := va_S.rf
  obtain ⟨ls, hE, hl⟩ := gm_entry m [.ref v0, .int v1, .int v2, .int v3, .int v4, .long v5, .ref v7] (n := 9) hargs (Nat.le_of_ble_eq_true rfl)
  rw [hE]
  have hl : lv_has ls 9 [(0, .ref v0), (1, .int v1), (2, .int v2), (3, .int v3), (4, .int v4), (5, .long v5), (7, .ref v7)] := hl
  show W p l e rm_L_commit s m args below meth c s.heap [] 0 0 (vx_MQ below (va_Qi Kn (BG D cy A Y) A) (fun _ _ _ => False) args s 2 12 A) (F0 m 0 ls [])
  unfold f_L_commit at hf
  obtain ⟨k1, hf⟩ := hf
  refine lv_aload hx hb dL_commit_0 (lv_at hl 6 rfl) ?_
  refine lv_iconst (v := 0) hx hb dL_commit_2 (by decide) ?_
  refine lv_aload_n hx hb dL_commit_3 rfl (lv_at hl 0 rfl) ?_
  refine lv_iload_n hx hb dL_commit_4 rfl (lv_at hl 1 rfl) ?_
  refine lv_iload_n hx hb dL_commit_5 rfl (lv_at hl 2 rfl) ?_
  refine lv_iload_n hx hb dL_commit_6 rfl (lv_at hl 3 rfl) ?_
  refine lv_iload hx hb dL_commit_7 (lv_at hl 4 rfl) ?_
  refine lv_lload hx hb dL_commit_9 (lv_at hl 5 rfl) ?_
  refine gx_ci (vx_runV (As := [.int v1, .int v2, .int v3, .int v4, .long v5]) (rest := [.int 0, .ref v7]) ⟨hx, hb, hml, hown, hts⟩ (m_X11_commit l hlt D cy tq _ Y _ _ _ _ _ _ _ _ _) (cwV 5 hts (good_V kw_1202 kw_1203 kw_1204 kw_1 kw_1205) rfl rfl rfl (by decide +kernel) ⟨Nat.le_of_ble_eq_true rfl, Nat.le_of_ble_eq_true rfl⟩) (gm_preV hK hW hC hS hA k1 (by decide) (q := (RX11, TX11, 13)) rfl rfl hf) rfl rfl hl.1 rfl (lv_room (Nat.le_of_ble_eq_true rfl)) dL_commit_11 ⟨Nat.le_of_ble_eq_true rfl, Nat.le_of_ble_eq_true rfl⟩) hW hS hA (fun E M1 H locs ce q9 hW hS hf h1 h2 h3 => ?_) (fun r1 M1 H locs hW hS hf => ?_)
  · rcases hf with ⟨rfl, hf⟩ | ⟨rfl, hf⟩
    · refine gx_catch1 hown ⟨0, 16, 19, 19⟩ [⟨0, 16, 23, 13⟩] htab (by decide) (by decide) (hts _ kw_455) hC.2.2.2.2.2.2.2.2.2.2.2.2.2.2.2.2.1 h1 h2 h3 ?_
      refine lv_astore (lv' := [(8, .ref q9), (0, .ref v0), (1, .int v1), (2, .int v2), (3, .int v3), (4, .int v4), (5, .long v5), (7, .ref v7)]) hx hb dL_commit_19 hl (by decide) rfl (fun ls hl => ?_)
      refine lv_iconst (v := 1) hx hb dL_commit_21 (by decide) ?_
      exact vx_ret (gm_iret hx hb hr hlocks hW hS hf dL_commit_22)
    · refine gx_catch2 hown ⟨0, 16, 19, 19⟩ ⟨0, 16, 23, 13⟩ [] htab (by decide) (by decide) (by decide) (by decide) (hts _ kw_455) hC.2.2.2.2.2.2.2.2.2.2.2.2.2.2.2.2.2.2.2.2.1 (hts _ kw_397) hC.2.2.2.2.2.2.2.2.2.2.2.2.2.2.2.1 h1 h2 h3 ?_
      refine lv_astore (lv' := [(8, .ref q9), (0, .ref v0), (1, .int v1), (2, .int v2), (3, .int v3), (4, .int v4), (5, .long v5), (7, .ref v7)]) hx hb dL_commit_23 hl (by decide) rfl (fun ls hl => ?_)
      refine lv_iconst (v := 2) hx hb dL_commit_25 (by decide) ?_
      exact vx_ret (gm_iret hx hb hr hlocks hW hS hf dL_commit_26)
  · refine lv_i2l hx hb dL_commit_14 rfl ?_
    obtain ⟨k2, h4, hf⟩ := hf
    refine gm_last hx hb hK hW hS k2 h4 dL_commit_15 (fun H locs M2 eM2 hW hS => ?_)
    replace hf := hf M2 eM2
    refine lv_goto (tgt := 27) hx hb dL_commit_16 (by decide) ?_
    refine lv_iconst (v := 0) hx hb dL_commit_27 (by decide) ?_
    exact vx_ret (gm_iret hx hb hr hlocks hW hS hf dL_commit_28)
abbrev rm_L_committed : Room := { frames := 9, cells := 2, slots := 12, locals := 176 }
def f_L_committed (Y : Ly) (v0 : Nat) (v1 : Int32) (v2 : Int32) (v3 : Nat) (M : Mm) (Kn : Int32 → Mm → Prop) : Prop :=
  yK Y v0 = 11 ∧ f_X11_committed Y v0 v1 v2 M (fun r1 M1 => yK Y v3 = 102 ∧ (vp_in 0 (yN Y v3) ∧ (∀ M2 : Mm, M2 = sJ M1 v3 (m1 (mJ M1 v3) (0 : Int32).toNatClampNeg r1) → Kn 0 M2))) (fun E M1 => (E = iAE ∧ Kn 1 M1) ∨ (E = iSE ∧ Kn 2 M1))
set_option maxHeartbeats 4000000 in
set_option maxRecDepth 100000 in
theorem m_L_committed (l : Launch) (hlt : l.stackTraces = false) (D : va_G) (cy : Cy) (tq sz : Nat) (Y : Ly) (v0 : Nat) (v1 : Int32) (v2 : Int32) (v3 : Nat) (M : Mm) (Kn : Int32 → Mm → Prop) : Met l yL_committed (Cond.codeWith yL_committed cL_committed 5 (some .int) [(0, 9, 12, 19), (0, 9, 16, 13)] :: TT) rm_L_committed (PcG D cy tq [.ref v0, .int v1, .int v2, .ref v3] sz Y M (f_L_committed Y v0 v1 v2 v3 M Kn)) (va_Qi Kn (BG D cy (Am Y sz) Y) (Am Y sz)) 2 12 (Am Y sz) := by
  refine Met_of_vx (vx_ofWH (cc := cL_committed) (maxL := 5) (ret := (some .int)) (by decide) rfl ?_)
  intro p e s m args below meth c s₁ B hml hv
  obtain ⟨hargs, hsz, hW, hK, hC, hf⟩ := hv
  subst hsz
  have hx := B.exec
  have hb := B.bytes
  have hr := B.returns
  have hts0 := atoms_spec (ws := Cond.codeWith yL_committed cL_committed 5 (some .int) [(0, 9, 12, 19), (0, 9, 16, 13)] :: TT) B.pre
  have hts : ∀ w ∈ TT, w.before args s = true := fun w h => hts0 w (List.mem_cons_of_mem _ h)
  have htab := vx_table (x := x) B (hts0 _ List.mem_cons_self)
  have hown : s.vm.findClass RL = some m.cls := findClass_of_methodNamed B.named
  have hlocks := B.notSynchronized
  replace hW := Wd_self (sz := s.heap.size) hW
  generalize hAe : Am Y s.heap.size = A at hW hC ⊢
  have hA : ∀ q : Nat, s.heap.size ≤ q → A q := fun q h => by rw [← hAe]; exact Or.inr h
  clear hAe
  have hS : va_S A s.heap s.heap [] := va_S.rf
  obtain ⟨ls, hE, hl⟩ := gm_entry m [.ref v0, .int v1, .int v2, .ref v3] (n := 5) hargs (Nat.le_of_ble_eq_true rfl)
  rw [hE]
  have hl : lv_has ls 5 [(0, .ref v0), (1, .int v1), (2, .int v2), (3, .ref v3)] := hl
  show W p l e rm_L_committed s m args below meth c s.heap [] 0 0 (vx_MQ below (va_Qi Kn (BG D cy A Y) A) (fun _ _ _ => False) args s 2 12 A) (F0 m 0 ls [])
  unfold f_L_committed at hf
  obtain ⟨k1, hf⟩ := hf
  refine lv_aload_n hx hb dL_committed_0 rfl (lv_at hl 3 rfl) ?_
  refine lv_iconst (v := 0) hx hb dL_committed_1 (by decide) ?_
  refine lv_aload_n hx hb dL_committed_2 rfl (lv_at hl 0 rfl) ?_
  refine lv_iload_n hx hb dL_committed_3 rfl (lv_at hl 1 rfl) ?_
  refine lv_iload_n hx hb dL_committed_4 rfl (lv_at hl 2 rfl) ?_
  refine gx_cl (vx_runV (As := [.int v1, .int v2]) (rest := [.int 0, .ref v3]) ⟨hx, hb, hml, hown, hts⟩ (m_X11_committed l hlt D cy tq _ Y _ _ _ _ _ _) (cwV 2 hts (good_V kw_1225 kw_1226 kw_1227 kw_1 kw_1228) rfl rfl rfl (by decide +kernel) ⟨Nat.le_of_ble_eq_true rfl, Nat.le_of_ble_eq_true rfl⟩) (gm_preV hK hW hC hS hA k1 (by decide) (q := (RX11, TX11, 13)) rfl rfl hf) rfl rfl hl.1 rfl (lv_room (Nat.le_of_ble_eq_true rfl)) dL_committed_5 ⟨Nat.le_of_ble_eq_true rfl, Nat.le_of_ble_eq_true rfl⟩) hW hS hA (fun E M1 H locs ce q9 hW hS hf h1 h2 h3 => ?_) (fun r1 M1 H locs hW hS hf => ?_)
  · rcases hf with ⟨rfl, hf⟩ | ⟨rfl, hf⟩
    · refine gx_catch1 hown ⟨0, 9, 12, 19⟩ [⟨0, 9, 16, 13⟩] htab (by decide) (by decide) (hts _ kw_455) hC.2.2.2.2.2.2.2.2.2.2.2.2.2.2.2.2.1 h1 h2 h3 ?_
      refine lv_astore (lv' := [(4, .ref q9), (0, .ref v0), (1, .int v1), (2, .int v2), (3, .ref v3)]) hx hb dL_committed_12 hl (by decide) rfl (fun ls hl => ?_)
      refine lv_iconst (v := 1) hx hb dL_committed_14 (by decide) ?_
      exact vx_ret (gm_iret hx hb hr hlocks hW hS hf dL_committed_15)
    · refine gx_catch2 hown ⟨0, 9, 12, 19⟩ ⟨0, 9, 16, 13⟩ [] htab (by decide) (by decide) (by decide) (by decide) (hts _ kw_455) hC.2.2.2.2.2.2.2.2.2.2.2.2.2.2.2.2.2.2.2.2.1 (hts _ kw_397) hC.2.2.2.2.2.2.2.2.2.2.2.2.2.2.2.1 h1 h2 h3 ?_
      refine lv_astore (lv' := [(4, .ref q9), (0, .ref v0), (1, .int v1), (2, .int v2), (3, .ref v3)]) hx hb dL_committed_16 hl (by decide) rfl (fun ls hl => ?_)
      refine lv_iconst (v := 2) hx hb dL_committed_18 (by decide) ?_
      exact vx_ret (gm_iret hx hb hr hlocks hW hS hf dL_committed_19)
  · obtain ⟨k2, h4, hf⟩ := hf
    refine gm_last hx hb hK hW hS k2 h4 dL_committed_8 (fun H locs M2 eM2 hW hS => ?_)
    replace hf := hf M2 eM2
    refine lv_goto (tgt := 20) hx hb dL_committed_9 (by decide) ?_
    refine lv_iconst (v := 0) hx hb dL_committed_20 (by decide) ?_
    exact vx_ret (gm_iret hx hb hr hlocks hW hS hf dL_committed_21)
abbrev rm_L_group : Room := { frames := 9, cells := 2, slots := 12, locals := 152 }
def f_L_group (Y : Ly) (v0 : Nat) (v1 : Int32) (v2 : Int32) (v3 : Nat) (M : Mm) (Kn : Int32 → Mm → Prop) : Prop :=
  yK Y v0 = 11 ∧ f_X11_group Y v0 v1 v2 M (fun r1 M1 => yK Y v3 = 102 ∧ (vp_in 0 (yN Y v3) ∧ (∀ M2 : Mm, M2 = sJ M1 v3 (m1 (mJ M1 v3) (0 : Int32).toNatClampNeg r1.toInt64) → Kn 0 M2))) (fun E M1 => (E = iAE ∧ Kn 1 M1) ∨ (E = iSE ∧ Kn 2 M1))
set_option maxHeartbeats 4000000 in
set_option maxRecDepth 100000 in
theorem m_L_group (l : Launch) (hlt : l.stackTraces = false) (D : va_G) (cy : Cy) (tq sz : Nat) (Y : Ly) (v0 : Nat) (v1 : Int32) (v2 : Int32) (v3 : Nat) (M : Mm) (Kn : Int32 → Mm → Prop) : Met l yL_group (Cond.codeWith yL_group cL_group 5 (some .int) [(0, 10, 13, 19), (0, 10, 17, 13)] :: TT) rm_L_group (PcG D cy tq [.ref v0, .int v1, .int v2, .ref v3] sz Y M (f_L_group Y v0 v1 v2 v3 M Kn)) (va_Qi Kn (BG D cy (Am Y sz) Y) (Am Y sz)) 2 12 (Am Y sz) := by
  refine Met_of_vx (vx_ofWH (cc := cL_group) (maxL := 5) (ret := (some .int)) (by decide) rfl ?_)
  intro p e s m args below meth c s₁ B hml hv
  obtain ⟨hargs, hsz, hW, hK, hC, hf⟩ := hv
  subst hsz
  have hx := B.exec
  have hb := B.bytes
  have hr := B.returns
  have hts0 := atoms_spec (ws := Cond.codeWith yL_group cL_group 5 (some .int) [(0, 10, 13, 19), (0, 10, 17, 13)] :: TT) B.pre
  have hts : ∀ w ∈ TT, w.before args s = true := fun w h => hts0 w (List.mem_cons_of_mem _ h)
  have htab := vx_table (x := x) B (hts0 _ List.mem_cons_self)
  have hown : s.vm.findClass RL = some m.cls := findClass_of_methodNamed B.named
  have hlocks := B.notSynchronized
  replace hW := Wd_self (sz := s.heap.size) hW
  generalize hAe : Am Y s.heap.size = A at hW hC ⊢
  have hA : ∀ q : Nat, s.heap.size ≤ q → A q := fun q h => by rw [← hAe]; exact Or.inr h
  clear hAe
  have hS : va_S A s.heap s.heap [] := va_S.rf
  obtain ⟨ls, hE, hl⟩ := gm_entry m [.ref v0, .int v1, .int v2, .ref v3] (n := 5) hargs (Nat.le_of_ble_eq_true rfl)
  rw [hE]
  have hl : lv_has ls 5 [(0, .ref v0), (1, .int v1), (2, .int v2), (3, .ref v3)] := hl
  show W p l e rm_L_group s m args below meth c s.heap [] 0 0 (vx_MQ below (va_Qi Kn (BG D cy A Y) A) (fun _ _ _ => False) args s 2 12 A) (F0 m 0 ls [])
  unfold f_L_group at hf
  obtain ⟨k1, hf⟩ := hf
  refine lv_aload_n hx hb dL_group_0 rfl (lv_at hl 3 rfl) ?_
  refine lv_iconst (v := 0) hx hb dL_group_1 (by decide) ?_
  refine lv_aload_n hx hb dL_group_2 rfl (lv_at hl 0 rfl) ?_
  refine lv_iload_n hx hb dL_group_3 rfl (lv_at hl 1 rfl) ?_
  refine lv_iload_n hx hb dL_group_4 rfl (lv_at hl 2 rfl) ?_
  refine gx_ci (vx_runV (As := [.int v1, .int v2]) (rest := [.int 0, .ref v3]) ⟨hx, hb, hml, hown, hts⟩ (m_X11_group l hlt D cy tq _ Y _ _ _ _ _ _) (cwV 2 hts (good_V kw_1233 kw_1234 kw_1235 kw_1 kw_1236) rfl rfl rfl (by decide +kernel) ⟨Nat.le_of_ble_eq_true rfl, Nat.le_of_ble_eq_true rfl⟩) (gm_preV hK hW hC hS hA k1 (by decide) (q := (RX11, TX11, 13)) rfl rfl hf) rfl rfl hl.1 rfl (lv_room (Nat.le_of_ble_eq_true rfl)) dL_group_5 ⟨Nat.le_of_ble_eq_true rfl, Nat.le_of_ble_eq_true rfl⟩) hW hS hA (fun E M1 H locs ce q9 hW hS hf h1 h2 h3 => ?_) (fun r1 M1 H locs hW hS hf => ?_)
  · rcases hf with ⟨rfl, hf⟩ | ⟨rfl, hf⟩
    · refine gx_catch1 hown ⟨0, 10, 13, 19⟩ [⟨0, 10, 17, 13⟩] htab (by decide) (by decide) (hts _ kw_455) hC.2.2.2.2.2.2.2.2.2.2.2.2.2.2.2.2.1 h1 h2 h3 ?_
      refine lv_astore (lv' := [(4, .ref q9), (0, .ref v0), (1, .int v1), (2, .int v2), (3, .ref v3)]) hx hb dL_group_13 hl (by decide) rfl (fun ls hl => ?_)
      refine lv_iconst (v := 1) hx hb dL_group_15 (by decide) ?_
      exact vx_ret (gm_iret hx hb hr hlocks hW hS hf dL_group_16)
    · refine gx_catch2 hown ⟨0, 10, 13, 19⟩ ⟨0, 10, 17, 13⟩ [] htab (by decide) (by decide) (by decide) (by decide) (hts _ kw_455) hC.2.2.2.2.2.2.2.2.2.2.2.2.2.2.2.2.2.2.2.2.1 (hts _ kw_397) hC.2.2.2.2.2.2.2.2.2.2.2.2.2.2.2.1 h1 h2 h3 ?_
      refine lv_astore (lv' := [(4, .ref q9), (0, .ref v0), (1, .int v1), (2, .int v2), (3, .ref v3)]) hx hb dL_group_17 hl (by decide) rfl (fun ls hl => ?_)
      refine lv_iconst (v := 2) hx hb dL_group_19 (by decide) ?_
      exact vx_ret (gm_iret hx hb hr hlocks hW hS hf dL_group_20)
  · refine lv_i2l hx hb dL_group_8 rfl ?_
    obtain ⟨k2, h4, hf⟩ := hf
    refine gm_last hx hb hK hW hS k2 h4 dL_group_9 (fun H locs M2 eM2 hW hS => ?_)
    replace hf := hf M2 eM2
    refine lv_goto (tgt := 21) hx hb dL_group_10 (by decide) ?_
    refine lv_iconst (v := 0) hx hb dL_group_21 (by decide) ?_
    exact vx_ret (gm_iret hx hb hr hlocks hW hS hf dL_group_22)
abbrev rm_L_share : Room := { frames := 9, cells := 2, slots := 12, locals := 152 }
def f_L_share (Y : Ly) (v0 : Nat) (v1 : Int32) (v2 : Int32) (v3 : Nat) (M : Mm) (Kn : Int32 → Mm → Prop) : Prop :=
  yK Y v0 = 11 ∧ f_X11_share Y v0 v1 v2 M (fun r1 M1 => yK Y v3 = 102 ∧ (vp_in 0 (yN Y v3) ∧ (∀ M2 : Mm, M2 = sJ M1 v3 (m1 (mJ M1 v3) (0 : Int32).toNatClampNeg r1.toInt64) → Kn 0 M2))) (fun E M1 => (E = iAE ∧ Kn 1 M1) ∨ (E = iSE ∧ Kn 2 M1))
set_option maxHeartbeats 4000000 in
set_option maxRecDepth 100000 in
theorem m_L_share (l : Launch) (hlt : l.stackTraces = false) (D : va_G) (cy : Cy) (tq sz : Nat) (Y : Ly) (v0 : Nat) (v1 : Int32) (v2 : Int32) (v3 : Nat) (M : Mm) (Kn : Int32 → Mm → Prop) : Met l yL_share (Cond.codeWith yL_share cL_share 5 (some .int) [(0, 10, 13, 19), (0, 10, 17, 13)] :: TT) rm_L_share (PcG D cy tq [.ref v0, .int v1, .int v2, .ref v3] sz Y M (f_L_share Y v0 v1 v2 v3 M Kn)) (va_Qi Kn (BG D cy (Am Y sz) Y) (Am Y sz)) 2 12 (Am Y sz) := by
  refine Met_of_vx (vx_ofWH (cc := cL_share) (maxL := 5) (ret := (some .int)) (by decide) rfl ?_)
  intro p e s m args below meth c s₁ B hml hv
  obtain ⟨hargs, hsz, hW, hK, hC, hf⟩ := hv
  subst hsz
  have hx := B.exec
  have hb := B.bytes
  have hr := B.returns
  have hts0 := atoms_spec (ws := Cond.codeWith yL_share cL_share 5 (some .int) [(0, 10, 13, 19), (0, 10, 17, 13)] :: TT) B.pre
  have hts : ∀ w ∈ TT, w.before args s = true := fun w h => hts0 w (List.mem_cons_of_mem _ h)
  have htab := vx_table (x := x) B (hts0 _ List.mem_cons_self)
  have hown : s.vm.findClass RL = some m.cls := findClass_of_methodNamed B.named
  have hlocks := B.notSynchronized
  replace hW := Wd_self (sz := s.heap.size) hW
  generalize hAe : Am Y s.heap.size = A at hW hC ⊢
  have hA : ∀ q : Nat, s.heap.size ≤ q → A q := fun q h => by rw [← hAe]; exact Or.inr h
  clear hAe
  have hS : va_S A s.heap s.heap [] := va_S.rf
  obtain ⟨ls, hE, hl⟩ := gm_entry m [.ref v0, .int v1, .int v2, .ref v3] (n := 5) hargs (Nat.le_of_ble_eq_true rfl)
  rw [hE]
  have hl : lv_has ls 5 [(0, .ref v0), (1, .int v1), (2, .int v2), (3, .ref v3)] := hl
  show W p l e rm_L_share s m args below meth c s.heap [] 0 0 (vx_MQ below (va_Qi Kn (BG D cy A Y) A) (fun _ _ _ => False) args s 2 12 A) (F0 m 0 ls [])
  unfold f_L_share at hf
  obtain ⟨k1, hf⟩ := hf
  refine lv_aload_n hx hb dL_share_0 rfl (lv_at hl 3 rfl) ?_
  refine lv_iconst (v := 0) hx hb dL_share_1 (by decide) ?_
  refine lv_aload_n hx hb dL_share_2 rfl (lv_at hl 0 rfl) ?_
  refine lv_iload_n hx hb dL_share_3 rfl (lv_at hl 1 rfl) ?_
  refine lv_iload_n hx hb dL_share_4 rfl (lv_at hl 2 rfl) ?_
  refine gx_ci (vx_runV (As := [.int v1, .int v2]) (rest := [.int 0, .ref v3]) ⟨hx, hb, hml, hown, hts⟩ (m_X11_share l hlt D cy tq _ Y _ _ _ _ _ _) (cwV 2 hts (good_V kw_1246 kw_1247 kw_1248 kw_1 kw_1249) rfl rfl rfl (by decide +kernel) ⟨Nat.le_of_ble_eq_true rfl, Nat.le_of_ble_eq_true rfl⟩) (gm_preV hK hW hC hS hA k1 (by decide) (q := (RX11, TX11, 13)) rfl rfl hf) rfl rfl hl.1 rfl (lv_room (Nat.le_of_ble_eq_true rfl)) dL_share_5 ⟨Nat.le_of_ble_eq_true rfl, Nat.le_of_ble_eq_true rfl⟩) hW hS hA (fun E M1 H locs ce q9 hW hS hf h1 h2 h3 => ?_) (fun r1 M1 H locs hW hS hf => ?_)
  · rcases hf with ⟨rfl, hf⟩ | ⟨rfl, hf⟩
    · refine gx_catch1 hown ⟨0, 10, 13, 19⟩ [⟨0, 10, 17, 13⟩] htab (by decide) (by decide) (hts _ kw_455) hC.2.2.2.2.2.2.2.2.2.2.2.2.2.2.2.2.1 h1 h2 h3 ?_
      refine lv_astore (lv' := [(4, .ref q9), (0, .ref v0), (1, .int v1), (2, .int v2), (3, .ref v3)]) hx hb dL_share_13 hl (by decide) rfl (fun ls hl => ?_)
      refine lv_iconst (v := 1) hx hb dL_share_15 (by decide) ?_
      exact vx_ret (gm_iret hx hb hr hlocks hW hS hf dL_share_16)
    · refine gx_catch2 hown ⟨0, 10, 13, 19⟩ ⟨0, 10, 17, 13⟩ [] htab (by decide) (by decide) (by decide) (by decide) (hts _ kw_455) hC.2.2.2.2.2.2.2.2.2.2.2.2.2.2.2.2.2.2.2.2.1 (hts _ kw_397) hC.2.2.2.2.2.2.2.2.2.2.2.2.2.2.2.1 h1 h2 h3 ?_
      refine lv_astore (lv' := [(4, .ref q9), (0, .ref v0), (1, .int v1), (2, .int v2), (3, .ref v3)]) hx hb dL_share_17 hl (by decide) rfl (fun ls hl => ?_)
      refine lv_iconst (v := 2) hx hb dL_share_19 (by decide) ?_
      exact vx_ret (gm_iret hx hb hr hlocks hW hS hf dL_share_20)
  · refine lv_i2l hx hb dL_share_8 rfl ?_
    obtain ⟨k2, h4, hf⟩ := hf
    refine gm_last hx hb hK hW hS k2 h4 dL_share_9 (fun H locs M2 eM2 hW hS => ?_)
    replace hf := hf M2 eM2
    refine lv_goto (tgt := 21) hx hb dL_share_10 (by decide) ?_
    refine lv_iconst (v := 0) hx hb dL_share_21 (by decide) ?_
    exact vx_ret (gm_iret hx hb hr hlocks hW hS hf dL_share_22)
abbrev rm_L_ticks : Room := { frames := 9, cells := 3, slots := 18, locals := 246 }
def f_L_ticks (Y : Ly) (v0 : Nat) (v1 : Int32) (v2 : Nat) (M : Mm) (Kn : Int32 → Mm → Prop) : Prop :=
  yK Y v0 = 11 ∧ f_X11_ticks Y v0 v1 M (fun r1 M1 => yK Y v2 = 102 ∧ (vp_in 0 (yN Y v2) ∧ (∀ M2 : Mm, M2 = sJ M1 v2 (m1 (mJ M1 v2) (0 : Int32).toNatClampNeg r1.toInt64) → Kn 0 M2))) (fun E M1 => (E = iAE ∧ Kn 1 M1) ∨ (E = iSE ∧ Kn 2 M1))
set_option maxHeartbeats 4000000 in
set_option maxRecDepth 100000 in
theorem m_L_ticks (l : Launch) (hlt : l.stackTraces = false) (D : va_G) (cy : Cy) (tq sz : Nat) (Y : Ly) (v0 : Nat) (v1 : Int32) (v2 : Nat) (M : Mm) (Kn : Int32 → Mm → Prop) : Met l yL_ticks (Cond.codeWith yL_ticks cL_ticks 4 (some .int) [(0, 9, 12, 19), (0, 9, 15, 13)] :: TT) rm_L_ticks (PcG D cy tq [.ref v0, .int v1, .ref v2] sz Y M (f_L_ticks Y v0 v1 v2 M Kn)) (va_Qi Kn (BG D cy (Am Y sz) Y) (Am Y sz)) 3 18 (Am Y sz) := by
  refine Met_of_vx (vx_ofWH (cc := cL_ticks) (maxL := 4) (ret := (some .int)) (by decide) rfl ?_)
  intro p e s m args below meth c s₁ B hml hv
  obtain ⟨hargs, hsz, hW, hK, hC, hf⟩ := hv
  subst hsz
  have hx := B.exec
  have hb := B.bytes
  have hr := B.returns
  have hts0 := atoms_spec (ws := Cond.codeWith yL_ticks cL_ticks 4 (some .int) [(0, 9, 12, 19), (0, 9, 15, 13)] :: TT) B.pre
  have hts : ∀ w ∈ TT, w.before args s = true := fun w h => hts0 w (List.mem_cons_of_mem _ h)
  have htab := vx_table (x := x) B (hts0 _ List.mem_cons_self)
  have hown : s.vm.findClass RL = some m.cls := findClass_of_methodNamed B.named
  have hlocks := B.notSynchronized
  replace hW := Wd_self (sz := s.heap.size) hW
  generalize hAe : Am Y s.heap.size = A at hW hC ⊢
  have hA : ∀ q : Nat, s.heap.size ≤ q → A q := fun q h => by rw [← hAe]; exact Or.inr h
  clear hAe
  have hS : va_S A s.heap s.heap [] := va_S.rf
  obtain ⟨ls, hE, hl⟩ := gm_entry m [.ref v0, .int v1, .ref v2] (n := 4) hargs (Nat.le_of_ble_eq_true rfl)
  rw [hE]
  have hl : lv_has ls 4 [(0, .ref v0), (1, .int v1), (2, .ref v2)] := hl
  show W p l e rm_L_ticks s m args below meth c s.heap [] 0 0 (vx_MQ below (va_Qi Kn (BG D cy A Y) A) (fun _ _ _ => False) args s 3 18 A) (F0 m 0 ls [])
  unfold f_L_ticks at hf
  obtain ⟨k1, hf⟩ := hf
  refine lv_aload_n hx hb dL_ticks_0 rfl (lv_at hl 2 rfl) ?_
  refine lv_iconst (v := 0) hx hb dL_ticks_1 (by decide) ?_
  refine lv_aload_n hx hb dL_ticks_2 rfl (lv_at hl 0 rfl) ?_
  refine lv_iload_n hx hb dL_ticks_3 rfl (lv_at hl 1 rfl) ?_
  refine gx_ci (vx_runV (As := [.int v1]) (rest := [.int 0, .ref v2]) ⟨hx, hb, hml, hown, hts⟩ (m_X11_ticks l hlt D cy tq _ Y _ _ _ _ _) (cwV 1 hts (good_V kw_1254 kw_1255 kw_1256 kw_1 kw_1257) rfl rfl rfl (by decide +kernel) ⟨Nat.le_of_ble_eq_true rfl, Nat.le_of_ble_eq_true rfl⟩) (gm_preV hK hW hC hS hA k1 (by decide) (q := (RX11, TX11, 13)) rfl rfl hf) rfl rfl hl.1 rfl (lv_room (Nat.le_of_ble_eq_true rfl)) dL_ticks_4 ⟨Nat.le_of_ble_eq_true rfl, Nat.le_of_ble_eq_true rfl⟩) hW hS hA (fun E M1 H locs ce q9 hW hS hf h1 h2 h3 => ?_) (fun r1 M1 H locs hW hS hf => ?_)
  · rcases hf with ⟨rfl, hf⟩ | ⟨rfl, hf⟩
    · refine gx_catch1 hown ⟨0, 9, 12, 19⟩ [⟨0, 9, 15, 13⟩] htab (by decide) (by decide) (hts _ kw_455) hC.2.2.2.2.2.2.2.2.2.2.2.2.2.2.2.2.1 h1 h2 h3 ?_
      refine lv_astore_n (lv' := [(3, .ref q9), (0, .ref v0), (1, .int v1), (2, .ref v2)]) hx hb dL_ticks_12 rfl hl (by decide) rfl (fun ls hl => ?_)
      refine lv_iconst (v := 1) hx hb dL_ticks_13 (by decide) ?_
      exact vx_ret (gm_iret hx hb hr hlocks hW hS hf dL_ticks_14)
    · refine gx_catch2 hown ⟨0, 9, 12, 19⟩ ⟨0, 9, 15, 13⟩ [] htab (by decide) (by decide) (by decide) (by decide) (hts _ kw_455) hC.2.2.2.2.2.2.2.2.2.2.2.2.2.2.2.2.2.2.2.2.1 (hts _ kw_397) hC.2.2.2.2.2.2.2.2.2.2.2.2.2.2.2.1 h1 h2 h3 ?_
      refine lv_astore_n (lv' := [(3, .ref q9), (0, .ref v0), (1, .int v1), (2, .ref v2)]) hx hb dL_ticks_15 rfl hl (by decide) rfl (fun ls hl => ?_)
      refine lv_iconst (v := 2) hx hb dL_ticks_16 (by decide) ?_
      exact vx_ret (gm_iret hx hb hr hlocks hW hS hf dL_ticks_17)
  · refine lv_i2l hx hb dL_ticks_7 rfl ?_
    obtain ⟨k2, h4, hf⟩ := hf
    refine gm_last hx hb hK hW hS k2 h4 dL_ticks_8 (fun H locs M2 eM2 hW hS => ?_)
    replace hf := hf M2 eM2
    refine lv_goto (tgt := 18) hx hb dL_ticks_9 (by decide) ?_
    refine lv_iconst (v := 0) hx hb dL_ticks_18 (by decide) ?_
    exact vx_ret (gm_iret hx hb hr hlocks hW hS hf dL_ticks_19)
abbrev rm_L_crash : Room := { frames := 9, cells := 2, slots := 12, locals := 151 }
def f_L_crash (Y : Ly) (v0 : Nat) (v1 : Int32) (M : Mm) (Kn : Int32 → Mm → Prop) : Prop :=
  yK Y v0 = 11 ∧ f_X11_crash Y v0 v1 M (fun M1 => Kn 0 M1) (fun E M1 => (E = iAE ∧ Kn 1 M1) ∨ (E = iSE ∧ Kn 2 M1))
set_option maxHeartbeats 4000000 in
set_option maxRecDepth 100000 in
theorem m_L_crash (l : Launch) (hlt : l.stackTraces = false) (D : va_G) (cy : Cy) (tq sz : Nat) (Y : Ly) (v0 : Nat) (v1 : Int32) (M : Mm) (Kn : Int32 → Mm → Prop) : Met l yL_crash (Cond.codeWith yL_crash cL_crash 3 (some .int) [(0, 5, 8, 19), (0, 5, 11, 13)] :: TT) rm_L_crash (PcG D cy tq [.ref v0, .int v1] sz Y M (f_L_crash Y v0 v1 M Kn)) (va_Qi Kn (BG D cy (Am Y sz) Y) (Am Y sz)) 2 12 (Am Y sz) := by
  refine Met_of_vx (vx_ofWH (cc := cL_crash) (maxL := 3) (ret := (some .int)) (by decide) rfl ?_)
  intro p e s m args below meth c s₁ B hml hv
  obtain ⟨hargs, hsz, hW, hK, hC, hf⟩ := hv
  subst hsz
  have hx := B.exec
  have hb := B.bytes
  have hr := B.returns
  have hts0 := atoms_spec (ws := Cond.codeWith yL_crash cL_crash 3 (some .int) [(0, 5, 8, 19), (0, 5, 11, 13)] :: TT) B.pre
  have hts : ∀ w ∈ TT, w.before args s = true := fun w h => hts0 w (List.mem_cons_of_mem _ h)
  have htab := vx_table (x := x) B (hts0 _ List.mem_cons_self)
  have hown : s.vm.findClass RL = some m.cls := findClass_of_methodNamed B.named
  have hlocks := B.notSynchronized
  replace hW := Wd_self (sz := s.heap.size) hW
  generalize hAe : Am Y s.heap.size = A at hW hC ⊢
  have hA : ∀ q : Nat, s.heap.size ≤ q → A q := fun q h => by rw [← hAe]; exact Or.inr h
  clear hAe
  have hS : va_S A s.heap s.heap [] := va_S.rf
  obtain ⟨ls, hE, hl⟩ := gm_entry m [.ref v0, .int v1] (n := 3) hargs (Nat.le_of_ble_eq_true rfl)
  rw [hE]
  have hl : lv_has ls 3 [(0, .ref v0), (1, .int v1)] := hl
  show W p l e rm_L_crash s m args below meth c s.heap [] 0 0 (vx_MQ below (va_Qi Kn (BG D cy A Y) A) (fun _ _ _ => False) args s 2 12 A) (F0 m 0 ls [])
  unfold f_L_crash at hf
  obtain ⟨k1, hf⟩ := hf
  refine lv_aload_n hx hb dL_crash_0 rfl (lv_at hl 0 rfl) ?_
  refine lv_iload_n hx hb dL_crash_1 rfl (lv_at hl 1 rfl) ?_
  refine gx_cv (vx_runV (As := [.int v1]) (rest := []) ⟨hx, hb, hml, hown, hts⟩ (m_X11_crash l hlt D cy tq _ Y _ _ _ _ _) (cwV 1 hts (good_V kw_1270 kw_1271 kw_1272 kw_1 kw_1273) rfl rfl rfl (by decide +kernel) ⟨Nat.le_of_ble_eq_true rfl, Nat.le_of_ble_eq_true rfl⟩) (gm_preV hK hW hC hS hA k1 (by decide) (q := (RX11, TX11, 13)) rfl rfl hf) rfl rfl hl.1 rfl (lv_room (Nat.le_of_ble_eq_true rfl)) dL_crash_2 ⟨Nat.le_of_ble_eq_true rfl, Nat.le_of_ble_eq_true rfl⟩) hW hS hA (fun E M1 H locs ce q9 hW hS hf h1 h2 h3 => ?_) (fun M1 H locs hW hS hf => ?_)
  · rcases hf with ⟨rfl, hf⟩ | ⟨rfl, hf⟩
    · refine gx_catch1 hown ⟨0, 5, 8, 19⟩ [⟨0, 5, 11, 13⟩] htab (by decide) (by decide) (hts _ kw_455) hC.2.2.2.2.2.2.2.2.2.2.2.2.2.2.2.2.1 h1 h2 h3 ?_
      refine lv_astore_n (lv' := [(2, .ref q9), (0, .ref v0), (1, .int v1)]) hx hb dL_crash_8 rfl hl (by decide) rfl (fun ls hl => ?_)
      refine lv_iconst (v := 1) hx hb dL_crash_9 (by decide) ?_
      exact vx_ret (gm_iret hx hb hr hlocks hW hS hf dL_crash_10)
    · refine gx_catch2 hown ⟨0, 5, 8, 19⟩ ⟨0, 5, 11, 13⟩ [] htab (by decide) (by decide) (by decide) (by decide) (hts _ kw_455) hC.2.2.2.2.2.2.2.2.2.2.2.2.2.2.2.2.2.2.2.2.1 (hts _ kw_397) hC.2.2.2.2.2.2.2.2.2.2.2.2.2.2.2.1 h1 h2 h3 ?_
      refine lv_astore_n (lv' := [(2, .ref q9), (0, .ref v0), (1, .int v1)]) hx hb dL_crash_11 rfl hl (by decide) rfl (fun ls hl => ?_)
      refine lv_iconst (v := 2) hx hb dL_crash_12 (by decide) ?_
      exact vx_ret (gm_iret hx hb hr hlocks hW hS hf dL_crash_13)
  · refine lv_goto (tgt := 14) hx hb dL_crash_5 (by decide) ?_
    refine lv_iconst (v := 0) hx hb dL_crash_14 (by decide) ?_
    exact vx_ret (gm_iret hx hb hr hlocks hW hS hf dL_crash_15)
abbrev rm_L_free : Room := { frames := 9, cells := 1, slots := 6, locals := 170 }
def f_L_free (Y : Ly) (v0 : Nat) (v1 : Nat) (M : Mm) (Kn : Int32 → Mm → Prop) : Prop :=
  yK Y v0 = 11 ∧ f_X11_free Y v0 M (fun r1 M1 => yK Y v1 = 102 ∧ (vp_in 0 (yN Y v1) ∧ (∀ M2 : Mm, M2 = sJ M1 v1 (m1 (mJ M1 v1) (0 : Int32).toNatClampNeg r1.toInt64) → Kn 0 M2))) (fun E M1 => (E = iSE ∧ Kn 1 M1))
set_option maxHeartbeats 4000000 in
set_option maxRecDepth 100000 in
theorem m_L_free (l : Launch) (hlt : l.stackTraces = false) (D : va_G) (cy : Cy) (tq sz : Nat) (Y : Ly) (v0 : Nat) (v1 : Nat) (M : Mm) (Kn : Int32 → Mm → Prop) : Met l yL_free (Cond.codeWith yL_free cL_free 3 (some .int) [(0, 8, 11, 13)] :: TT) rm_L_free (PcG D cy tq [.ref v0, .ref v1] sz Y M (f_L_free Y v0 v1 M Kn)) (va_Qi Kn (BG D cy (Am Y sz) Y) (Am Y sz)) 1 6 (Am Y sz) := by
  refine Met_of_vx (vx_ofWH (cc := cL_free) (maxL := 3) (ret := (some .int)) (by decide) rfl ?_)
  intro p e s m args below meth c s₁ B hml hv
  obtain ⟨hargs, hsz, hW, hK, hC, hf⟩ := hv
  subst hsz
  have hx := B.exec
  have hb := B.bytes
  have hr := B.returns
  have hts0 := atoms_spec (ws := Cond.codeWith yL_free cL_free 3 (some .int) [(0, 8, 11, 13)] :: TT) B.pre
  have hts : ∀ w ∈ TT, w.before args s = true := fun w h => hts0 w (List.mem_cons_of_mem _ h)
  have htab := vx_table (x := x) B (hts0 _ List.mem_cons_self)
  have hown : s.vm.findClass RL = some m.cls := findClass_of_methodNamed B.named
  have hlocks := B.notSynchronized
  replace hW := Wd_self (sz := s.heap.size) hW
  generalize hAe : Am Y s.heap.size = A at hW hC ⊢
  have hA : ∀ q : Nat, s.heap.size ≤ q → A q := fun q h => by rw [← hAe]; exact Or.inr h
  clear hAe
  have hS : va_S A s.heap s.heap [] := va_S.rf
  obtain ⟨ls, hE, hl⟩ := gm_entry m [.ref v0, .ref v1] (n := 3) hargs (Nat.le_of_ble_eq_true rfl)
  rw [hE]
  have hl : lv_has ls 3 [(0, .ref v0), (1, .ref v1)] := hl
  show W p l e rm_L_free s m args below meth c s.heap [] 0 0 (vx_MQ below (va_Qi Kn (BG D cy A Y) A) (fun _ _ _ => False) args s 1 6 A) (F0 m 0 ls [])
  unfold f_L_free at hf
  obtain ⟨k1, hf⟩ := hf
  refine lv_aload_n hx hb dL_free_0 rfl (lv_at hl 1 rfl) ?_
  refine lv_iconst (v := 0) hx hb dL_free_1 (by decide) ?_
  refine lv_aload_n hx hb dL_free_2 rfl (lv_at hl 0 rfl) ?_
  refine gx_ci (vx_runV (As := []) (rest := [.int 0, .ref v1]) ⟨hx, hb, hml, hown, hts⟩ (m_X11_free l hlt D cy tq _ Y _ _ _ _) (cwV 0 hts (good_V kw_1278 kw_1279 kw_1280 kw_1 kw_1281) rfl rfl rfl (by decide +kernel) ⟨Nat.le_of_ble_eq_true rfl, Nat.le_of_ble_eq_true rfl⟩) (gm_preV hK hW hC hS hA k1 (by decide) (q := (RX11, TX11, 13)) rfl rfl hf) rfl rfl hl.1 rfl (lv_room (Nat.le_of_ble_eq_true rfl)) dL_free_3 ⟨Nat.le_of_ble_eq_true rfl, Nat.le_of_ble_eq_true rfl⟩) hW hS hA (fun E M1 H locs ce q9 hW hS hf h1 h2 h3 => ?_) (fun r1 M1 H locs hW hS hf => ?_)
  · obtain ⟨rfl, hf⟩ := hf
    refine gx_catch1 hown ⟨0, 8, 11, 13⟩ [] htab (by decide) (by decide) (hts _ kw_397) hC.2.2.2.2.2.2.2.2.2.2.2.2.2.2.2.1 h1 h2 h3 ?_
    refine lv_astore_n (lv' := [(2, .ref q9), (0, .ref v0), (1, .ref v1)]) hx hb dL_free_11 rfl hl (by decide) rfl (fun ls hl => ?_)
    refine lv_iconst (v := 1) hx hb dL_free_12 (by decide) ?_
    exact vx_ret (gm_iret hx hb hr hlocks hW hS hf dL_free_13)
  · refine lv_i2l hx hb dL_free_6 rfl ?_
    obtain ⟨k2, h4, hf⟩ := hf
    refine gm_last hx hb hK hW hS k2 h4 dL_free_7 (fun H locs M2 eM2 hW hS => ?_)
    replace hf := hf M2 eM2
    refine lv_goto (tgt := 14) hx hb dL_free_8 (by decide) ?_
    refine lv_iconst (v := 0) hx hb dL_free_14 (by decide) ?_
    exact vx_ret (gm_iret hx hb hr hlocks hW hS hf dL_free_15)
abbrev rm_L_audit : Room := { frames := 9, cells := 1, slots := 6, locals := 251 }
def f_L_audit (Y : Ly) (v0 : Nat) (v1 : Nat) (M : Mm) (Kn : Int32 → Mm → Prop) : Prop :=
  yK Y v0 = 11 ∧ f_X11_audit Y v0 M (fun r1 M1 => yK Y v1 = 102 ∧ (vp_in 0 (yN Y v1) ∧ (∀ M2 : Mm, M2 = sJ M1 v1 (m1 (mJ M1 v1) (0 : Int32).toNatClampNeg r1.toInt64) → Kn 0 M2))) (fun E M1 => (E = iSE ∧ Kn 1 M1))
set_option maxHeartbeats 4000000 in
set_option maxRecDepth 100000 in
theorem m_L_audit (l : Launch) (hlt : l.stackTraces = false) (D : va_G) (cy : Cy) (tq sz : Nat) (Y : Ly) (v0 : Nat) (v1 : Nat) (M : Mm) (Kn : Int32 → Mm → Prop) : Met l yL_audit (Cond.codeWith yL_audit cL_audit 3 (some .int) [(0, 8, 11, 13)] :: TT) rm_L_audit (PcG D cy tq [.ref v0, .ref v1] sz Y M (f_L_audit Y v0 v1 M Kn)) (va_Qi Kn (BG D cy (Am Y sz) Y) (Am Y sz)) 1 6 (Am Y sz) := by
  refine Met_of_vx (vx_ofWH (cc := cL_audit) (maxL := 3) (ret := (some .int)) (by decide) rfl ?_)
  intro p e s m args below meth c s₁ B hml hv
  obtain ⟨hargs, hsz, hW, hK, hC, hf⟩ := hv
  subst hsz
  have hx := B.exec
  have hb := B.bytes
  have hr := B.returns
  have hts0 := atoms_spec (ws := Cond.codeWith yL_audit cL_audit 3 (some .int) [(0, 8, 11, 13)] :: TT) B.pre
  have hts : ∀ w ∈ TT, w.before args s = true := fun w h => hts0 w (List.mem_cons_of_mem _ h)
  have htab := vx_table (x := x) B (hts0 _ List.mem_cons_self)
  have hown : s.vm.findClass RL = some m.cls := findClass_of_methodNamed B.named
  have hlocks := B.notSynchronized
  replace hW := Wd_self (sz := s.heap.size) hW
  generalize hAe : Am Y s.heap.size = A at hW hC ⊢
  have hA : ∀ q : Nat, s.heap.size ≤ q → A q := fun q h => by rw [← hAe]; exact Or.inr h
  clear hAe
  have hS : va_S A s.heap s.heap [] := va_S.rf
  obtain ⟨ls, hE, hl⟩ := gm_entry m [.ref v0, .ref v1] (n := 3) hargs (Nat.le_of_ble_eq_true rfl)
  rw [hE]
  have hl : lv_has ls 3 [(0, .ref v0), (1, .ref v1)] := hl
  show W p l e rm_L_audit s m args below meth c s.heap [] 0 0 (vx_MQ below (va_Qi Kn (BG D cy A Y) A) (fun _ _ _ => False) args s 1 6 A) (F0 m 0 ls [])
  unfold f_L_audit at hf
  obtain ⟨k1, hf⟩ := hf
  refine lv_aload_n hx hb dL_audit_0 rfl (lv_at hl 1 rfl) ?_
  refine lv_iconst (v := 0) hx hb dL_audit_1 (by decide) ?_
  refine lv_aload_n hx hb dL_audit_2 rfl (lv_at hl 0 rfl) ?_
  refine gx_ci (vx_runV (As := []) (rest := [.int 0, .ref v1]) ⟨hx, hb, hml, hown, hts⟩ (m_X11_audit l hlt D cy tq _ Y _ _ _ _) (cwV 0 hts (good_V kw_1289 kw_1290 kw_1291 kw_1 kw_1292) rfl rfl rfl (by decide +kernel) ⟨Nat.le_of_ble_eq_true rfl, Nat.le_of_ble_eq_true rfl⟩) (gm_preV hK hW hC hS hA k1 (by decide) (q := (RX11, TX11, 13)) rfl rfl hf) rfl rfl hl.1 rfl (lv_room (Nat.le_of_ble_eq_true rfl)) dL_audit_3 ⟨Nat.le_of_ble_eq_true rfl, Nat.le_of_ble_eq_true rfl⟩) hW hS hA (fun E M1 H locs ce q9 hW hS hf h1 h2 h3 => ?_) (fun r1 M1 H locs hW hS hf => ?_)
  · obtain ⟨rfl, hf⟩ := hf
    refine gx_catch1 hown ⟨0, 8, 11, 13⟩ [] htab (by decide) (by decide) (hts _ kw_397) hC.2.2.2.2.2.2.2.2.2.2.2.2.2.2.2.1 h1 h2 h3 ?_
    refine lv_astore_n (lv' := [(2, .ref q9), (0, .ref v0), (1, .ref v1)]) hx hb dL_audit_11 rfl hl (by decide) rfl (fun ls hl => ?_)
    refine lv_iconst (v := 1) hx hb dL_audit_12 (by decide) ?_
    exact vx_ret (gm_iret hx hb hr hlocks hW hS hf dL_audit_13)
  · refine lv_i2l hx hb dL_audit_6 rfl ?_
    obtain ⟨k2, h4, hf⟩ := hf
    refine gm_last hx hb hK hW hS k2 h4 dL_audit_7 (fun H locs M2 eM2 hW hS => ?_)
    replace hf := hf M2 eM2
    refine lv_goto (tgt := 14) hx hb dL_audit_8 (by decide) ?_
    refine lv_iconst (v := 0) hx hb dL_audit_14 (by decide) ?_
    exact vx_ret (gm_iret hx hb hr hlocks hW hS hf dL_audit_15)
