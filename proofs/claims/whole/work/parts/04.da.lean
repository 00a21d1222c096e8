theorem dX0_baseOf_0 : decode cX0_baseOf 0 = .ok (.aload_n 0, 1) := by decide +kernel
theorem dX0_baseOf_1 : decode cX0_baseOf 1 = .ok (.iload_n 1, 1) := by decide +kernel
theorem dX0_baseOf_2 : decode cX0_baseOf 2 = .ok (.bipush 8, 2) := by decide +kernel
theorem dX0_baseOf_4 : decode cX0_baseOf 4 = .ok (.invokestatic 9, 3) := by decide +kernel
theorem dX0_baseOf_7 : decode cX0_baseOf 7 = .ok (.lreturn, 1) := by decide +kernel
theorem dX0_sizeOf_0 : decode cX0_sizeOf 0 = .ok (.bipush 12, 2) := by decide +kernel
theorem dX0_sizeOf_2 : decode cX0_sizeOf 2 = .ok (.aload_n 0, 1) := by decide +kernel
theorem dX0_sizeOf_3 : decode cX0_sizeOf 3 = .ok (.iload_n 1, 1) := by decide +kernel
theorem dX0_sizeOf_4 : decode cX0_sizeOf 4 = .ok (.bipush 8, 2) := by decide +kernel
theorem dX0_sizeOf_6 : decode cX0_sizeOf 6 = .ok (.iadd, 1) := by decide +kernel
theorem dX0_sizeOf_7 : decode cX0_sizeOf 7 = .ok (.iconst 4, 1) := by decide +kernel
theorem dX0_sizeOf_8 : decode cX0_sizeOf 8 = .ok (.invokestatic 9, 3) := by decide +kernel
theorem dX0_sizeOf_11 : decode cX0_sizeOf 11 = .ok (.l2i, 1) := by decide +kernel
theorem dX0_sizeOf_12 : decode cX0_sizeOf 12 = .ok (.iadd, 1) := by decide +kernel
theorem dX0_sizeOf_13 : decode cX0_sizeOf 13 = .ok (.ireturn, 1) := by decide +kernel
theorem dX0_lastOf_0 : decode cX0_lastOf 0 = .ok (.aload_n 0, 1) := by decide +kernel
theorem dX0_lastOf_1 : decode cX0_lastOf 1 = .ok (.iload_n 1, 1) := by decide +kernel
theorem dX0_lastOf_2 : decode cX0_lastOf 2 = .ok (.bipush 23, 2) := by decide +kernel
theorem dX0_lastOf_4 : decode cX0_lastOf 4 = .ok (.iadd, 1) := by decide +kernel
theorem dX0_lastOf_5 : decode cX0_lastOf 5 = .ok (.iconst 4, 1) := by decide +kernel
theorem dX0_lastOf_6 : decode cX0_lastOf 6 = .ok (.invokestatic 9, 3) := by decide +kernel
theorem dX0_lastOf_9 : decode cX0_lastOf 9 = .ok (.l2i, 1) := by decide +kernel
theorem dX0_lastOf_10 : decode cX0_lastOf 10 = .ok (.ireturn, 1) := by decide +kernel
theorem dX0_firstTimeOf_0 : decode cX0_firstTimeOf 0 = .ok (.aload_n 0, 1) := by decide +kernel
theorem dX0_firstTimeOf_1 : decode cX0_firstTimeOf 1 = .ok (.iload_n 1, 1) := by decide +kernel
theorem dX0_firstTimeOf_2 : decode cX0_firstTimeOf 2 = .ok (.bipush 27, 2) := by decide +kernel
theorem dX0_firstTimeOf_4 : decode cX0_firstTimeOf 4 = .ok (.iadd, 1) := by decide +kernel
theorem dX0_firstTimeOf_5 : decode cX0_firstTimeOf 5 = .ok (.bipush 8, 2) := by decide +kernel
theorem dX0_firstTimeOf_7 : decode cX0_firstTimeOf 7 = .ok (.invokestatic 9, 3) := by decide +kernel
theorem dX0_firstTimeOf_10 : decode cX0_firstTimeOf 10 = .ok (.lreturn, 1) := by decide +kernel
theorem dX0_greatestTimeOf_0 : decode cX0_greatestTimeOf 0 = .ok (.aload_n 0, 1) := by decide +kernel
theorem dX0_greatestTimeOf_1 : decode cX0_greatestTimeOf 1 = .ok (.iload_n 1, 1) := by decide +kernel
theorem dX0_greatestTimeOf_2 : decode cX0_greatestTimeOf 2 = .ok (.bipush 35, 2) := by decide +kernel
theorem dX0_greatestTimeOf_4 : decode cX0_greatestTimeOf 4 = .ok (.iadd, 1) := by decide +kernel
theorem dX0_greatestTimeOf_5 : decode cX0_greatestTimeOf 5 = .ok (.bipush 8, 2) := by decide +kernel
theorem dX0_greatestTimeOf_7 : decode cX0_greatestTimeOf 7 = .ok (.invokestatic 9, 3) := by decide +kernel
theorem dX0_greatestTimeOf_10 : decode cX0_greatestTimeOf 10 = .ok (.lreturn, 1) := by decide +kernel
theorem dX0_producerOf_0 : decode cX0_producerOf 0 = .ok (.aload_n 0, 1) := by decide +kernel
theorem dX0_producerOf_1 : decode cX0_producerOf 1 = .ok (.iload_n 1, 1) := by decide +kernel
theorem dX0_producerOf_2 : decode cX0_producerOf 2 = .ok (.bipush 43, 2) := by decide +kernel
theorem dX0_producerOf_4 : decode cX0_producerOf 4 = .ok (.iadd, 1) := by decide +kernel
theorem dX0_producerOf_5 : decode cX0_producerOf 5 = .ok (.bipush 8, 2) := by decide +kernel
theorem dX0_producerOf_7 : decode cX0_producerOf 7 = .ok (.invokestatic 9, 3) := by decide +kernel
theorem dX0_producerOf_10 : decode cX0_producerOf 10 = .ok (.lreturn, 1) := by decide +kernel
theorem dX0_epochOf_0 : decode cX0_epochOf 0 = .ok (.aload_n 0, 1) := by decide +kernel
theorem dX0_epochOf_1 : decode cX0_epochOf 1 = .ok (.iload_n 1, 1) := by decide +kernel
theorem dX0_epochOf_2 : decode cX0_epochOf 2 = .ok (.bipush 51, 2) := by decide +kernel
theorem dX0_epochOf_4 : decode cX0_epochOf 4 = .ok (.iadd, 1) := by decide +kernel
theorem dX0_epochOf_5 : decode cX0_epochOf 5 = .ok (.iconst 2, 1) := by decide +kernel
theorem dX0_epochOf_6 : decode cX0_epochOf 6 = .ok (.invokestatic 9, 3) := by decide +kernel
theorem dX0_epochOf_9 : decode cX0_epochOf 9 = .ok (.l2i, 1) := by decide +kernel
theorem dX0_epochOf_10 : decode cX0_epochOf 10 = .ok (.ireturn, 1) := by decide +kernel
theorem dX0_sequenceOf_0 : decode cX0_sequenceOf 0 = .ok (.aload_n 0, 1) := by decide +kernel
theorem dX0_sequenceOf_1 : decode cX0_sequenceOf 1 = .ok (.iload_n 1, 1) := by decide +kernel
theorem dX0_sequenceOf_2 : decode cX0_sequenceOf 2 = .ok (.bipush 53, 2) := by decide +kernel
theorem dX0_sequenceOf_4 : decode cX0_sequenceOf 4 = .ok (.iadd, 1) := by decide +kernel
theorem dX0_sequenceOf_5 : decode cX0_sequenceOf 5 = .ok (.iconst 4, 1) := by decide +kernel
theorem dX0_sequenceOf_6 : decode cX0_sequenceOf 6 = .ok (.invokestatic 9, 3) := by decide +kernel
theorem dX0_sequenceOf_9 : decode cX0_sequenceOf 9 = .ok (.l2i, 1) := by decide +kernel
theorem dX0_sequenceOf_10 : decode cX0_sequenceOf 10 = .ok (.ireturn, 1) := by decide +kernel
theorem dX0_countOf_0 : decode cX0_countOf 0 = .ok (.aload_n 0, 1) := by decide +kernel
theorem dX0_countOf_1 : decode cX0_countOf 1 = .ok (.iload_n 1, 1) := by decide +kernel
theorem dX0_countOf_2 : decode cX0_countOf 2 = .ok (.bipush 57, 2) := by decide +kernel
theorem dX0_countOf_4 : decode cX0_countOf 4 = .ok (.iadd, 1) := by decide +kernel
theorem dX0_countOf_5 : decode cX0_countOf 5 = .ok (.iconst 4, 1) := by decide +kernel
theorem dX0_countOf_6 : decode cX0_countOf 6 = .ok (.invokestatic 9, 3) := by decide +kernel
theorem dX0_countOf_9 : decode cX0_countOf 9 = .ok (.l2i, 1) := by decide +kernel
theorem dX0_countOf_10 : decode cX0_countOf 10 = .ok (.ireturn, 1) := by decide +kernel
theorem dX0_nextSequenceOf_0 : decode cX0_nextSequenceOf 0 = .ok (.aload_n 0, 1) := by decide +kernel
theorem dX0_nextSequenceOf_1 : decode cX0_nextSequenceOf 1 = .ok (.iload_n 1, 1) := by decide +kernel
theorem dX0_nextSequenceOf_2 : decode cX0_nextSequenceOf 2 = .ok (.invokestatic 15, 3) := by decide +kernel
theorem dX0_nextSequenceOf_5 : decode cX0_nextSequenceOf 5 = .ok (.aload_n 0, 1) := by decide +kernel
theorem dX0_nextSequenceOf_6 : decode cX0_nextSequenceOf 6 = .ok (.iload_n 1, 1) := by decide +kernel
theorem dX0_nextSequenceOf_7 : decode cX0_nextSequenceOf 7 = .ok (.invokestatic 21, 3) := by decide +kernel
theorem dX0_nextSequenceOf_10 : decode cX0_nextSequenceOf 10 = .ok (.iadd, 1) := by decide +kernel
theorem dX0_nextSequenceOf_11 : decode cX0_nextSequenceOf 11 = .ok (.iconst 1, 1) := by decide +kernel
theorem dX0_nextSequenceOf_12 : decode cX0_nextSequenceOf 12 = .ok (.iadd, 1) := by decide +kernel
theorem dX0_nextSequenceOf_13 : decode cX0_nextSequenceOf 13 = .ok (.ldc 24, 2) := by decide +kernel
theorem dX0_nextSequenceOf_15 : decode cX0_nextSequenceOf 15 = .ok (.iand, 1) := by decide +kernel
theorem dX0_nextSequenceOf_16 : decode cX0_nextSequenceOf 16 = .ok (.ireturn, 1) := by decide +kernel
theorem dX0_hasTrueChecksum_0 : decode cX0_hasTrueChecksum 0 = .ok (.aload_n 0, 1) := by decide +kernel
theorem dX0_hasTrueChecksum_1 : decode cX0_hasTrueChecksum 1 = .ok (.iload_n 1, 1) := by decide +kernel
theorem dX0_hasTrueChecksum_2 : decode cX0_hasTrueChecksum 2 = .ok (.bipush 17, 2) := by decide +kernel
theorem dX0_hasTrueChecksum_4 : decode cX0_hasTrueChecksum 4 = .ok (.iadd, 1) := by decide +kernel
theorem dX0_hasTrueChecksum_5 : decode cX0_hasTrueChecksum 5 = .ok (.iconst 4, 1) := by decide +kernel
theorem dX0_hasTrueChecksum_6 : decode cX0_hasTrueChecksum 6 = .ok (.invokestatic 9, 3) := by decide +kernel
theorem dX0_hasTrueChecksum_9 : decode cX0_hasTrueChecksum 9 = .ok (.l2i, 1) := by decide +kernel
theorem dX0_hasTrueChecksum_10 : decode cX0_hasTrueChecksum 10 = .ok (.aload_n 0, 1) := by decide +kernel
theorem dX0_hasTrueChecksum_11 : decode cX0_hasTrueChecksum 11 = .ok (.iload_n 1, 1) := by decide +kernel
theorem dX0_hasTrueChecksum_12 : decode cX0_hasTrueChecksum 12 = .ok (.bipush 21, 2) := by decide +kernel
theorem dX0_hasTrueChecksum_14 : decode cX0_hasTrueChecksum 14 = .ok (.iadd, 1) := by decide +kernel
theorem dX0_hasTrueChecksum_15 : decode cX0_hasTrueChecksum 15 = .ok (.iload_n 1, 1) := by decide +kernel
theorem dX0_hasTrueChecksum_16 : decode cX0_hasTrueChecksum 16 = .ok (.iload_n 2, 1) := by decide +kernel
theorem dX0_hasTrueChecksum_17 : decode cX0_hasTrueChecksum 17 = .ok (.iadd, 1) := by decide +kernel
theorem dX0_hasTrueChecksum_18 : decode cX0_hasTrueChecksum 18 = .ok (.invokestatic 25, 3) := by decide +kernel
theorem dX0_hasTrueChecksum_21 : decode cX0_hasTrueChecksum 21 = .ok (.if_icmp .ne 7, 3) := by decide +kernel
theorem dX0_hasTrueChecksum_24 : decode cX0_hasTrueChecksum 24 = .ok (.iconst 1, 1) := by decide +kernel
theorem dX0_hasTrueChecksum_25 : decode cX0_hasTrueChecksum 25 = .ok (.goto 4, 3) := by decide +kernel
theorem dX0_hasTrueChecksum_28 : decode cX0_hasTrueChecksum 28 = .ok (.iconst 0, 1) := by decide +kernel
theorem dX0_hasTrueChecksum_29 : decode cX0_hasTrueChecksum 29 = .ok (.ireturn, 1) := by decide +kernel
theorem dX0_begin_0 : decode cX0_begin 0 = .ok (.aload_n 0, 1) := by decide +kernel
theorem dX0_begin_1 : decode cX0_begin 1 = .ok (.iload_n 1, 1) := by decide +kernel
theorem dX0_begin_2 : decode cX0_begin 2 = .ok (.iload_n 1, 1) := by decide +kernel
theorem dX0_begin_3 : decode cX0_begin 3 = .ok (.bipush 61, 2) := by decide +kernel
theorem dX0_begin_5 : decode cX0_begin 5 = .ok (.iadd, 1) := by decide +kernel
theorem dX0_begin_6 : decode cX0_begin 6 = .ok (.iconst 0, 1) := by decide +kernel
theorem dX0_begin_7 : decode cX0_begin 7 = .ok (.invokestatic 29, 3) := by decide +kernel
theorem dX0_begin_10 : decode cX0_begin 10 = .ok (.aload_n 0, 1) := by decide +kernel
theorem dX0_begin_11 : decode cX0_begin 11 = .ok (.iload_n 1, 1) := by decide +kernel
theorem dX0_begin_12 : decode cX0_begin 12 = .ok (.bipush 16, 2) := by decide +kernel
theorem dX0_begin_14 : decode cX0_begin 14 = .ok (.iadd, 1) := by decide +kernel
theorem dX0_begin_15 : decode cX0_begin 15 = .ok (.iconst 2, 1) := by decide +kernel
theorem dX0_begin_16 : decode cX0_begin 16 = .ok (.bastore, 1) := by decide +kernel
theorem dX0_begin_17 : decode cX0_begin 17 = .ok (.aload_n 0, 1) := by decide +kernel
theorem dX0_begin_18 : decode cX0_begin 18 = .ok (.iload_n 1, 1) := by decide +kernel
theorem dX0_begin_19 : decode cX0_begin 19 = .ok (.bipush 23, 2) := by decide +kernel
theorem dX0_begin_21 : decode cX0_begin 21 = .ok (.iadd, 1) := by decide +kernel
theorem dX0_begin_22 : decode cX0_begin 22 = .ok (.iconst 4, 1) := by decide +kernel
theorem dX0_begin_23 : decode cX0_begin 23 = .ok (.iload_n 2, 1) := by decide +kernel
theorem dX0_begin_24 : decode cX0_begin 24 = .ok (.iconst 1, 1) := by decide +kernel
theorem dX0_begin_25 : decode cX0_begin 25 = .ok (.isub, 1) := by decide +kernel
theorem dX0_begin_26 : decode cX0_begin 26 = .ok (.i2l, 1) := by decide +kernel
theorem dX0_begin_27 : decode cX0_begin 27 = .ok (.invokestatic 35, 3) := by decide +kernel
theorem dX0_begin_30 : decode cX0_begin 30 = .ok (.aload_n 0, 1) := by decide +kernel
theorem dX0_begin_31 : decode cX0_begin 31 = .ok (.iload_n 1, 1) := by decide +kernel
theorem dX0_begin_32 : decode cX0_begin 32 = .ok (.bipush 27, 2) := by decide +kernel
theorem dX0_begin_34 : decode cX0_begin 34 = .ok (.iadd, 1) := by decide +kernel
theorem dX0_begin_35 : decode cX0_begin 35 = .ok (.bipush 8, 2) := by decide +kernel
theorem dX0_begin_37 : decode cX0_begin 37 = .ok (.lload_n 3, 1) := by decide +kernel
theorem dX0_begin_38 : decode cX0_begin 38 = .ok (.invokestatic 35, 3) := by decide +kernel
theorem dX0_begin_41 : decode cX0_begin 41 = .ok (.aload_n 0, 1) := by decide +kernel
theorem dX0_begin_42 : decode cX0_begin 42 = .ok (.iload_n 1, 1) := by decide +kernel
theorem dX0_begin_43 : decode cX0_begin 43 = .ok (.bipush 35, 2) := by decide +kernel
theorem dX0_begin_45 : decode cX0_begin 45 = .ok (.iadd, 1) := by decide +kernel
theorem dX0_begin_46 : decode cX0_begin 46 = .ok (.bipush 8, 2) := by decide +kernel
theorem dX0_begin_48 : decode cX0_begin 48 = .ok (.lload 5, 2) := by decide +kernel
theorem dX0_begin_50 : decode cX0_begin 50 = .ok (.invokestatic 35, 3) := by decide +kernel
theorem dX0_begin_53 : decode cX0_begin 53 = .ok (.aload_n 0, 1) := by decide +kernel
theorem dX0_begin_54 : decode cX0_begin 54 = .ok (.iload_n 1, 1) := by decide +kernel
theorem dX0_begin_55 : decode cX0_begin 55 = .ok (.bipush 57, 2) := by decide +kernel
theorem dX0_begin_57 : decode cX0_begin 57 = .ok (.iadd, 1) := by decide +kernel
theorem dX0_begin_58 : decode cX0_begin 58 = .ok (.iconst 4, 1) := by decide +kernel
theorem dX0_begin_59 : decode cX0_begin 59 = .ok (.iload_n 2, 1) := by decide +kernel
theorem dX0_begin_60 : decode cX0_begin 60 = .ok (.i2l, 1) := by decide +kernel
theorem dX0_begin_61 : decode cX0_begin 61 = .ok (.invokestatic 35, 3) := by decide +kernel
theorem dX0_begin_64 : decode cX0_begin 64 = .ok (.return_, 1) := by decide +kernel
theorem dX0_sign_0 : decode cX0_sign 0 = .ok (.aload_n 0, 1) := by decide +kernel
theorem dX0_sign_1 : decode cX0_sign 1 = .ok (.iload_n 1, 1) := by decide +kernel
theorem dX0_sign_2 : decode cX0_sign 2 = .ok (.bipush 43, 2) := by decide +kernel
theorem dX0_sign_4 : decode cX0_sign 4 = .ok (.iadd, 1) := by decide +kernel
theorem dX0_sign_5 : decode cX0_sign 5 = .ok (.bipush 8, 2) := by decide +kernel
theorem dX0_sign_7 : decode cX0_sign 7 = .ok (.lload_n 2, 1) := by decide +kernel
theorem dX0_sign_8 : decode cX0_sign 8 = .ok (.invokestatic 35, 3) := by decide +kernel
theorem dX0_sign_11 : decode cX0_sign 11 = .ok (.aload_n 0, 1) := by decide +kernel
theorem dX0_sign_12 : decode cX0_sign 12 = .ok (.iload_n 1, 1) := by decide +kernel
theorem dX0_sign_13 : decode cX0_sign 13 = .ok (.bipush 51, 2) := by decide +kernel
theorem dX0_sign_15 : decode cX0_sign 15 = .ok (.iadd, 1) := by decide +kernel
theorem dX0_sign_16 : decode cX0_sign 16 = .ok (.iconst 2, 1) := by decide +kernel
theorem dX0_sign_17 : decode cX0_sign 17 = .ok (.iload 4, 2) := by decide +kernel
theorem dX0_sign_19 : decode cX0_sign 19 = .ok (.i2l, 1) := by decide +kernel
theorem dX0_sign_20 : decode cX0_sign 20 = .ok (.invokestatic 35, 3) := by decide +kernel
theorem dX0_sign_23 : decode cX0_sign 23 = .ok (.aload_n 0, 1) := by decide +kernel
theorem dX0_sign_24 : decode cX0_sign 24 = .ok (.iload_n 1, 1) := by decide +kernel
theorem dX0_sign_25 : decode cX0_sign 25 = .ok (.bipush 53, 2) := by decide +kernel
theorem dX0_sign_27 : decode cX0_sign 27 = .ok (.iadd, 1) := by decide +kernel
theorem dX0_sign_28 : decode cX0_sign 28 = .ok (.iconst 4, 1) := by decide +kernel
theorem dX0_sign_29 : decode cX0_sign 29 = .ok (.iload 5, 2) := by decide +kernel
theorem dX0_sign_31 : decode cX0_sign 31 = .ok (.i2l, 1) := by decide +kernel
theorem dX0_sign_32 : decode cX0_sign 32 = .ok (.invokestatic 35, 3) := by decide +kernel
theorem dX0_sign_35 : decode cX0_sign 35 = .ok (.return_, 1) := by decide +kernel
theorem dX0_recount_0 : decode cX0_recount 0 = .ok (.aload_n 0, 1) := by decide +kernel
theorem dX0_recount_1 : decode cX0_recount 1 = .ok (.iload_n 1, 1) := by decide +kernel
theorem dX0_recount_2 : decode cX0_recount 2 = .ok (.bipush 35, 2) := by decide +kernel
theorem dX0_recount_4 : decode cX0_recount 4 = .ok (.iadd, 1) := by decide +kernel
theorem dX0_recount_5 : decode cX0_recount 5 = .ok (.bipush 8, 2) := by decide +kernel
theorem dX0_recount_7 : decode cX0_recount 7 = .ok (.lload_n 3, 1) := by decide +kernel
theorem dX0_recount_8 : decode cX0_recount 8 = .ok (.invokestatic 35, 3) := by decide +kernel
theorem dX0_recount_11 : decode cX0_recount 11 = .ok (.aload_n 0, 1) := by decide +kernel
theorem dX0_recount_12 : decode cX0_recount 12 = .ok (.iload_n 1, 1) := by decide +kernel
theorem dX0_recount_13 : decode cX0_recount 13 = .ok (.bipush 57, 2) := by decide +kernel
theorem dX0_recount_15 : decode cX0_recount 15 = .ok (.iadd, 1) := by decide +kernel
theorem dX0_recount_16 : decode cX0_recount 16 = .ok (.iconst 4, 1) := by decide +kernel
theorem dX0_recount_17 : decode cX0_recount 17 = .ok (.iload_n 2, 1) := by decide +kernel
theorem dX0_recount_18 : decode cX0_recount 18 = .ok (.i2l, 1) := by decide +kernel
theorem dX0_recount_19 : decode cX0_recount 19 = .ok (.invokestatic 35, 3) := by decide +kernel
theorem dX0_recount_22 : decode cX0_recount 22 = .ok (.return_, 1) := by decide +kernel
theorem dX0_finish_0 : decode cX0_finish 0 = .ok (.aload_n 0, 1) := by decide +kernel
theorem dX0_finish_1 : decode cX0_finish 1 = .ok (.iload_n 1, 1) := by decide +kernel
theorem dX0_finish_2 : decode cX0_finish 2 = .ok (.bipush 8, 2) := by decide +kernel
theorem dX0_finish_4 : decode cX0_finish 4 = .ok (.iadd, 1) := by decide +kernel
theorem dX0_finish_5 : decode cX0_finish 5 = .ok (.iconst 4, 1) := by decide +kernel
theorem dX0_finish_6 : decode cX0_finish 6 = .ok (.iload_n 2, 1) := by decide +kernel
theorem dX0_finish_7 : decode cX0_finish 7 = .ok (.bipush 12, 2) := by decide +kernel
theorem dX0_finish_9 : decode cX0_finish 9 = .ok (.isub, 1) := by decide +kernel
theorem dX0_finish_10 : decode cX0_finish 10 = .ok (.i2l, 1) := by decide +kernel
theorem dX0_finish_11 : decode cX0_finish 11 = .ok (.invokestatic 35, 3) := by decide +kernel
theorem dX0_finish_14 : decode cX0_finish 14 = .ok (.aload_n 0, 1) := by decide +kernel
theorem dX0_finish_15 : decode cX0_finish 15 = .ok (.iload_n 1, 1) := by decide +kernel
theorem dX0_finish_16 : decode cX0_finish 16 = .ok (.bipush 17, 2) := by decide +kernel
theorem dX0_finish_18 : decode cX0_finish 18 = .ok (.iadd, 1) := by decide +kernel
theorem dX0_finish_19 : decode cX0_finish 19 = .ok (.iconst 4, 1) := by decide +kernel
theorem dX0_finish_20 : decode cX0_finish 20 = .ok (.aload_n 0, 1) := by decide +kernel
theorem dX0_finish_21 : decode cX0_finish 21 = .ok (.iload_n 1, 1) := by decide +kernel
theorem dX0_finish_22 : decode cX0_finish 22 = .ok (.bipush 21, 2) := by decide +kernel
theorem dX0_finish_24 : decode cX0_finish 24 = .ok (.iadd, 1) := by decide +kernel
theorem dX0_finish_25 : decode cX0_finish 25 = .ok (.iload_n 1, 1) := by decide +kernel
theorem dX0_finish_26 : decode cX0_finish 26 = .ok (.iload_n 2, 1) := by decide +kernel
theorem dX0_finish_27 : decode cX0_finish 27 = .ok (.iadd, 1) := by decide +kernel
theorem dX0_finish_28 : decode cX0_finish 28 = .ok (.invokestatic 25, 3) := by decide +kernel
theorem dX0_finish_31 : decode cX0_finish 31 = .ok (.i2l, 1) := by decide +kernel
theorem dX0_finish_32 : decode cX0_finish 32 = .ok (.invokestatic 35, 3) := by decide +kernel
theorem dX0_finish_35 : decode cX0_finish 35 = .ok (.return_, 1) := by decide +kernel
theorem dX1_unsigned_0 : decode cX1_unsigned 0 = .ok (.lconst 0, 1) := by decide +kernel
theorem dX1_unsigned_1 : decode cX1_unsigned 1 = .ok (.lstore_n 3, 1) := by decide +kernel
theorem dX1_unsigned_2 : decode cX1_unsigned 2 = .ok (.iconst 0, 1) := by decide +kernel
theorem dX1_unsigned_3 : decode cX1_unsigned 3 = .ok (.istore 5, 2) := by decide +kernel
theorem dX1_unsigned_5 : decode cX1_unsigned 5 = .ok (.iload 5, 2) := by decide +kernel
theorem dX1_unsigned_7 : decode cX1_unsigned 7 = .ok (.iload_n 2, 1) := by decide +kernel
theorem dX1_unsigned_8 : decode cX1_unsigned 8 = .ok (.if_icmp .ge 26, 3) := by decide +kernel
theorem dX1_unsigned_11 : decode cX1_unsigned 11 = .ok (.lload_n 3, 1) := by decide +kernel
theorem dX1_unsigned_12 : decode cX1_unsigned 12 = .ok (.bipush 8, 2) := by decide +kernel
theorem dX1_unsigned_14 : decode cX1_unsigned 14 = .ok (.lshl, 1) := by decide +kernel
theorem dX1_unsigned_15 : decode cX1_unsigned 15 = .ok (.aload_n 0, 1) := by decide +kernel
theorem dX1_unsigned_16 : decode cX1_unsigned 16 = .ok (.iload_n 1, 1) := by decide +kernel
theorem dX1_unsigned_17 : decode cX1_unsigned 17 = .ok (.iload 5, 2) := by decide +kernel
theorem dX1_unsigned_19 : decode cX1_unsigned 19 = .ok (.iadd, 1) := by decide +kernel
theorem dX1_unsigned_20 : decode cX1_unsigned 20 = .ok (.baload, 1) := by decide +kernel
theorem dX1_unsigned_21 : decode cX1_unsigned 21 = .ok (.sipush 255, 3) := by decide +kernel
theorem dX1_unsigned_24 : decode cX1_unsigned 24 = .ok (.iand, 1) := by decide +kernel
theorem dX1_unsigned_25 : decode cX1_unsigned 25 = .ok (.i2l, 1) := by decide +kernel
theorem dX1_unsigned_26 : decode cX1_unsigned 26 = .ok (.lor, 1) := by decide +kernel
theorem dX1_unsigned_27 : decode cX1_unsigned 27 = .ok (.lstore_n 3, 1) := by decide +kernel
theorem dX1_unsigned_28 : decode cX1_unsigned 28 = .ok (.iinc 5 1, 3) := by decide +kernel
theorem dX1_unsigned_31 : decode cX1_unsigned 31 = .ok (.goto (-26), 3) := by decide +kernel
theorem dX1_unsigned_34 : decode cX1_unsigned 34 = .ok (.lload_n 3, 1) := by decide +kernel
theorem dX1_unsigned_35 : decode cX1_unsigned 35 = .ok (.lreturn, 1) := by decide +kernel
theorem dX1_signed_0 : decode cX1_signed 0 = .ok (.bipush 64, 2) := by decide +kernel
theorem dX1_signed_2 : decode cX1_signed 2 = .ok (.bipush 8, 2) := by decide +kernel
theorem dX1_signed_4 : decode cX1_signed 4 = .ok (.iload_n 2, 1) := by decide +kernel
theorem dX1_signed_5 : decode cX1_signed 5 = .ok (.imul, 1) := by decide +kernel
theorem dX1_signed_6 : decode cX1_signed 6 = .ok (.isub, 1) := by decide +kernel
theorem dX1_signed_7 : decode cX1_signed 7 = .ok (.istore_n 3, 1) := by decide +kernel
theorem dX1_signed_8 : decode cX1_signed 8 = .ok (.aload_n 0, 1) := by decide +kernel
theorem dX1_signed_9 : decode cX1_signed 9 = .ok (.iload_n 1, 1) := by decide +kernel
theorem dX1_signed_10 : decode cX1_signed 10 = .ok (.iload_n 2, 1) := by decide +kernel
theorem dX1_signed_11 : decode cX1_signed 11 = .ok (.invokestatic 7, 3) := by decide +kernel
theorem dX1_signed_14 : decode cX1_signed 14 = .ok (.iload_n 3, 1) := by decide +kernel
theorem dX1_signed_15 : decode cX1_signed 15 = .ok (.lshl, 1) := by decide +kernel
theorem dX1_signed_16 : decode cX1_signed 16 = .ok (.iload_n 3, 1) := by decide +kernel
theorem dX1_signed_17 : decode cX1_signed 17 = .ok (.lshr, 1) := by decide +kernel
theorem dX1_signed_18 : decode cX1_signed 18 = .ok (.lreturn, 1) := by decide +kernel
theorem dX1_put_0 : decode cX1_put 0 = .ok (.iconst 0, 1) := by decide +kernel
theorem dX1_put_1 : decode cX1_put 1 = .ok (.istore 5, 2) := by decide +kernel
theorem dX1_put_3 : decode cX1_put 3 = .ok (.iload 5, 2) := by decide +kernel
theorem dX1_put_5 : decode cX1_put 5 = .ok (.iload_n 2, 1) := by decide +kernel
theorem dX1_put_6 : decode cX1_put 6 = .ok (.if_icmp .ge 28, 3) := by decide +kernel
theorem dX1_put_9 : decode cX1_put 9 = .ok (.aload_n 0, 1) := by decide +kernel
theorem dX1_put_10 : decode cX1_put 10 = .ok (.iload_n 1, 1) := by decide +kernel
theorem dX1_put_11 : decode cX1_put 11 = .ok (.iload 5, 2) := by decide +kernel
theorem dX1_put_13 : decode cX1_put 13 = .ok (.iadd, 1) := by decide +kernel
theorem dX1_put_14 : decode cX1_put 14 = .ok (.lload_n 3, 1) := by decide +kernel
theorem dX1_put_15 : decode cX1_put 15 = .ok (.bipush 8, 2) := by decide +kernel
theorem dX1_put_17 : decode cX1_put 17 = .ok (.iload_n 2, 1) := by decide +kernel
theorem dX1_put_18 : decode cX1_put 18 = .ok (.iconst 1, 1) := by decide +kernel
theorem dX1_put_19 : decode cX1_put 19 = .ok (.isub, 1) := by decide +kernel
theorem dX1_put_20 : decode cX1_put 20 = .ok (.iload 5, 2) := by decide +kernel
theorem dX1_put_22 : decode cX1_put 22 = .ok (.isub, 1) := by decide +kernel
theorem dX1_put_23 : decode cX1_put 23 = .ok (.imul, 1) := by decide +kernel
theorem dX1_put_24 : decode cX1_put 24 = .ok (.lshr, 1) := by decide +kernel
theorem dX1_put_25 : decode cX1_put 25 = .ok (.l2i, 1) := by decide +kernel
theorem dX1_put_26 : decode cX1_put 26 = .ok (.i2b, 1) := by decide +kernel
theorem dX1_put_27 : decode cX1_put 27 = .ok (.bastore, 1) := by decide +kernel
theorem dX1_put_28 : decode cX1_put 28 = .ok (.iinc 5 1, 3) := by decide +kernel
theorem dX1_put_31 : decode cX1_put 31 = .ok (.goto (-28), 3) := by decide +kernel
theorem dX1_put_34 : decode cX1_put 34 = .ok (.return_, 1) := by decide +kernel
theorem dX1_varintBytes_0 : decode cX1_varintBytes 0 = .ok (.lload_n 0, 1) := by decide +kernel
theorem dX1_varintBytes_1 : decode cX1_varintBytes 1 = .ok (.invokestatic 13, 3) := by decide +kernel
theorem dX1_varintBytes_4 : decode cX1_varintBytes 4 = .ok (.bipush 7, 2) := by decide +kernel
theorem dX1_varintBytes_6 : decode cX1_varintBytes 6 = .ok (.lushr, 1) := by decide +kernel
theorem dX1_varintBytes_7 : decode cX1_varintBytes 7 = .ok (.lstore_n 2, 1) := by decide +kernel
theorem dX1_varintBytes_8 : decode cX1_varintBytes 8 = .ok (.iconst 1, 1) := by decide +kernel
theorem dX1_varintBytes_9 : decode cX1_varintBytes 9 = .ok (.istore 4, 2) := by decide +kernel
theorem dX1_varintBytes_11 : decode cX1_varintBytes 11 = .ok (.iconst 0, 1) := by decide +kernel
theorem dX1_varintBytes_12 : decode cX1_varintBytes 12 = .ok (.istore 5, 2) := by decide +kernel
theorem dX1_varintBytes_14 : decode cX1_varintBytes 14 = .ok (.iload 5, 2) := by decide +kernel
theorem dX1_varintBytes_16 : decode cX1_varintBytes 16 = .ok (.bipush 9, 2) := by decide +kernel
theorem dX1_varintBytes_18 : decode cX1_varintBytes 18 = .ok (.if_icmp .ge 23, 3) := by decide +kernel
theorem dX1_varintBytes_21 : decode cX1_varintBytes 21 = .ok (.lload_n 2, 1) := by decide +kernel
theorem dX1_varintBytes_22 : decode cX1_varintBytes 22 = .ok (.lconst 0, 1) := by decide +kernel
theorem dX1_varintBytes_23 : decode cX1_varintBytes 23 = .ok (.lcmp, 1) := by decide +kernel
theorem dX1_varintBytes_24 : decode cX1_varintBytes 24 = .ok (.ifCond .eq 17, 3) := by decide +kernel
theorem dX1_varintBytes_27 : decode cX1_varintBytes 27 = .ok (.lload_n 2, 1) := by decide +kernel
theorem dX1_varintBytes_28 : decode cX1_varintBytes 28 = .ok (.bipush 7, 2) := by decide +kernel
theorem dX1_varintBytes_30 : decode cX1_varintBytes 30 = .ok (.lushr, 1) := by decide +kernel
theorem dX1_varintBytes_31 : decode cX1_varintBytes 31 = .ok (.lstore_n 2, 1) := by decide +kernel
theorem dX1_varintBytes_32 : decode cX1_varintBytes 32 = .ok (.iinc 4 1, 3) := by decide +kernel
theorem dX1_varintBytes_35 : decode cX1_varintBytes 35 = .ok (.iinc 5 1, 3) := by decide +kernel
theorem dX1_varintBytes_38 : decode cX1_varintBytes 38 = .ok (.goto (-24), 3) := by decide +kernel
theorem dX1_varintBytes_41 : decode cX1_varintBytes 41 = .ok (.iload 4, 2) := by decide +kernel
theorem dX1_varintBytes_43 : decode cX1_varintBytes 43 = .ok (.ireturn, 1) := by decide +kernel
theorem dX1_putVarint_0 : decode cX1_putVarint 0 = .ok (.lload_n 2, 1) := by decide +kernel
theorem dX1_putVarint_1 : decode cX1_putVarint 1 = .ok (.invokestatic 13, 3) := by decide +kernel
theorem dX1_putVarint_4 : decode cX1_putVarint 4 = .ok (.lstore 4, 2) := by decide +kernel
theorem dX1_putVarint_6 : decode cX1_putVarint 6 = .ok (.lload_n 2, 1) := by decide +kernel
theorem dX1_putVarint_7 : decode cX1_putVarint 7 = .ok (.invokestatic 17, 3) := by decide +kernel
theorem dX1_putVarint_10 : decode cX1_putVarint 10 = .ok (.istore 6, 2) := by decide +kernel
theorem dX1_putVarint_12 : decode cX1_putVarint 12 = .ok (.iconst 0, 1) := by decide +kernel
theorem dX1_putVarint_13 : decode cX1_putVarint 13 = .ok (.istore 7, 2) := by decide +kernel
theorem dX1_putVarint_15 : decode cX1_putVarint 15 = .ok (.iload 7, 2) := by decide +kernel
theorem dX1_putVarint_17 : decode cX1_putVarint 17 = .ok (.iload 6, 2) := by decide +kernel
theorem dX1_putVarint_19 : decode cX1_putVarint 19 = .ok (.if_icmp .ge 48, 3) := by decide +kernel
theorem dX1_putVarint_22 : decode cX1_putVarint 22 = .ok (.aload_n 0, 1) := by decide +kernel
theorem dX1_putVarint_23 : decode cX1_putVarint 23 = .ok (.iload_n 1, 1) := by decide +kernel
theorem dX1_putVarint_24 : decode cX1_putVarint 24 = .ok (.iload 7, 2) := by decide +kernel
theorem dX1_putVarint_26 : decode cX1_putVarint 26 = .ok (.iadd, 1) := by decide +kernel
theorem dX1_putVarint_27 : decode cX1_putVarint 27 = .ok (.iload 7, 2) := by decide +kernel
theorem dX1_putVarint_29 : decode cX1_putVarint 29 = .ok (.iload 6, 2) := by decide +kernel
theorem dX1_putVarint_31 : decode cX1_putVarint 31 = .ok (.iconst 1, 1) := by decide +kernel
theorem dX1_putVarint_32 : decode cX1_putVarint 32 = .ok (.isub, 1) := by decide +kernel
theorem dX1_putVarint_33 : decode cX1_putVarint 33 = .ok (.if_icmp .ge 16, 3) := by decide +kernel
theorem dX1_putVarint_36 : decode cX1_putVarint 36 = .ok (.lload 4, 2) := by decide +kernel
theorem dX1_putVarint_38 : decode cX1_putVarint 38 = .ok (.ldc2_w 21, 3) := by decide +kernel
theorem dX1_putVarint_41 : decode cX1_putVarint 41 = .ok (.land, 1) := by decide +kernel
theorem dX1_putVarint_42 : decode cX1_putVarint 42 = .ok (.ldc2_w 23, 3) := by decide +kernel
theorem dX1_putVarint_45 : decode cX1_putVarint 45 = .ok (.lor, 1) := by decide +kernel
theorem dX1_putVarint_46 : decode cX1_putVarint 46 = .ok (.goto 5, 3) := by decide +kernel
theorem dX1_putVarint_49 : decode cX1_putVarint 49 = .ok (.lload 4, 2) := by decide +kernel
theorem dX1_putVarint_51 : decode cX1_putVarint 51 = .ok (.l2i, 1) := by decide +kernel
theorem dX1_putVarint_52 : decode cX1_putVarint 52 = .ok (.i2b, 1) := by decide +kernel
theorem dX1_putVarint_53 : decode cX1_putVarint 53 = .ok (.bastore, 1) := by decide +kernel
theorem dX1_putVarint_54 : decode cX1_putVarint 54 = .ok (.lload 4, 2) := by decide +kernel
theorem dX1_putVarint_56 : decode cX1_putVarint 56 = .ok (.bipush 7, 2) := by decide +kernel
theorem dX1_putVarint_58 : decode cX1_putVarint 58 = .ok (.lushr, 1) := by decide +kernel
theorem dX1_putVarint_59 : decode cX1_putVarint 59 = .ok (.lstore 4, 2) := by decide +kernel
theorem dX1_putVarint_61 : decode cX1_putVarint 61 = .ok (.iinc 7 1, 3) := by decide +kernel
theorem dX1_putVarint_64 : decode cX1_putVarint 64 = .ok (.goto (-49), 3) := by decide +kernel
theorem dX1_putVarint_67 : decode cX1_putVarint 67 = .ok (.iload_n 1, 1) := by decide +kernel
theorem dX1_putVarint_68 : decode cX1_putVarint 68 = .ok (.iload 6, 2) := by decide +kernel
theorem dX1_putVarint_70 : decode cX1_putVarint 70 = .ok (.iadd, 1) := by decide +kernel
theorem dX1_putVarint_71 : decode cX1_putVarint 71 = .ok (.ireturn, 1) := by decide +kernel
theorem dX1_turned_0 : decode cX1_turned 0 = .ok (.lload_n 0, 1) := by decide +kernel
theorem dX1_turned_1 : decode cX1_turned 1 = .ok (.iconst 1, 1) := by decide +kernel
theorem dX1_turned_2 : decode cX1_turned 2 = .ok (.lshl, 1) := by decide +kernel
theorem dX1_turned_3 : decode cX1_turned 3 = .ok (.lload_n 0, 1) := by decide +kernel
theorem dX1_turned_4 : decode cX1_turned 4 = .ok (.bipush 63, 2) := by decide +kernel
theorem dX1_turned_6 : decode cX1_turned 6 = .ok (.lshr, 1) := by decide +kernel
theorem dX1_turned_7 : decode cX1_turned 7 = .ok (.lxor, 1) := by decide +kernel
theorem dX1_turned_8 : decode cX1_turned 8 = .ok (.lreturn, 1) := by decide +kernel
theorem dX1_checksum_0 : decode cX1_checksum 0 = .ok (.iconst (-1), 1) := by decide +kernel
theorem dX1_checksum_1 : decode cX1_checksum 1 = .ok (.istore_n 3, 1) := by decide +kernel
theorem dX1_checksum_2 : decode cX1_checksum 2 = .ok (.iload_n 1, 1) := by decide +kernel
theorem dX1_checksum_3 : decode cX1_checksum 3 = .ok (.istore 4, 2) := by decide +kernel
theorem dX1_checksum_5 : decode cX1_checksum 5 = .ok (.iload 4, 2) := by decide +kernel
theorem dX1_checksum_7 : decode cX1_checksum 7 = .ok (.iload_n 2, 1) := by decide +kernel
theorem dX1_checksum_8 : decode cX1_checksum 8 = .ok (.if_icmp .ge 46, 3) := by decide +kernel
theorem dX1_checksum_11 : decode cX1_checksum 11 = .ok (.iload_n 3, 1) := by decide +kernel
theorem dX1_checksum_12 : decode cX1_checksum 12 = .ok (.aload_n 0, 1) := by decide +kernel
theorem dX1_checksum_13 : decode cX1_checksum 13 = .ok (.iload 4, 2) := by decide +kernel
theorem dX1_checksum_15 : decode cX1_checksum 15 = .ok (.baload, 1) := by decide +kernel
theorem dX1_checksum_16 : decode cX1_checksum 16 = .ok (.sipush 255, 3) := by decide +kernel
theorem dX1_checksum_19 : decode cX1_checksum 19 = .ok (.iand, 1) := by decide +kernel
theorem dX1_checksum_20 : decode cX1_checksum 20 = .ok (.ixor, 1) := by decide +kernel
theorem dX1_checksum_21 : decode cX1_checksum 21 = .ok (.istore_n 3, 1) := by decide +kernel
theorem dX1_checksum_22 : decode cX1_checksum 22 = .ok (.iload_n 3, 1) := by decide +kernel
theorem dX1_checksum_23 : decode cX1_checksum 23 = .ok (.iconst 4, 1) := by decide +kernel
theorem dX1_checksum_24 : decode cX1_checksum 24 = .ok (.iushr, 1) := by decide +kernel
theorem dX1_checksum_25 : decode cX1_checksum 25 = .ok (.getstatic 25, 3) := by decide +kernel
theorem dX1_checksum_28 : decode cX1_checksum 28 = .ok (.iload_n 3, 1) := by decide +kernel
theorem dX1_checksum_29 : decode cX1_checksum 29 = .ok (.bipush 15, 2) := by decide +kernel
theorem dX1_checksum_31 : decode cX1_checksum 31 = .ok (.iand, 1) := by decide +kernel
theorem dX1_checksum_32 : decode cX1_checksum 32 = .ok (.iaload, 1) := by decide +kernel
theorem dX1_checksum_33 : decode cX1_checksum 33 = .ok (.ixor, 1) := by decide +kernel
theorem dX1_checksum_34 : decode cX1_checksum 34 = .ok (.istore_n 3, 1) := by decide +kernel
theorem dX1_checksum_35 : decode cX1_checksum 35 = .ok (.iload_n 3, 1) := by decide +kernel
theorem dX1_checksum_36 : decode cX1_checksum 36 = .ok (.iconst 4, 1) := by decide +kernel
theorem dX1_checksum_37 : decode cX1_checksum 37 = .ok (.iushr, 1) := by decide +kernel
theorem dX1_checksum_38 : decode cX1_checksum 38 = .ok (.getstatic 25, 3) := by decide +kernel
theorem dX1_checksum_41 : decode cX1_checksum 41 = .ok (.iload_n 3, 1) := by decide +kernel
theorem dX1_checksum_42 : decode cX1_checksum 42 = .ok (.bipush 15, 2) := by decide +kernel
theorem dX1_checksum_44 : decode cX1_checksum 44 = .ok (.iand, 1) := by decide +kernel
theorem dX1_checksum_45 : decode cX1_checksum 45 = .ok (.iaload, 1) := by decide +kernel
theorem dX1_checksum_46 : decode cX1_checksum 46 = .ok (.ixor, 1) := by decide +kernel
theorem dX1_checksum_47 : decode cX1_checksum 47 = .ok (.istore_n 3, 1) := by decide +kernel
theorem dX1_checksum_48 : decode cX1_checksum 48 = .ok (.iinc 4 1, 3) := by decide +kernel
theorem dX1_checksum_51 : decode cX1_checksum 51 = .ok (.goto (-46), 3) := by decide +kernel
theorem dX1_checksum_54 : decode cX1_checksum 54 = .ok (.iload_n 3, 1) := by decide +kernel
theorem dX1_checksum_55 : decode cX1_checksum 55 = .ok (.iconst (-1), 1) := by decide +kernel
theorem dX1_checksum_56 : decode cX1_checksum 56 = .ok (.ixor, 1) := by decide +kernel
theorem dX1_checksum_57 : decode cX1_checksum 57 = .ok (.ireturn, 1) := by decide +kernel
theorem dX2_init_0 : decode cX2_init 0 = .ok (.aload_n 0, 1) := by decide +kernel
theorem dX2_init_1 : decode cX2_init 1 = .ok (.invokespecial 3, 3) := by decide +kernel
theorem dX2_init_4 : decode cX2_init 4 = .ok (.aload_n 0, 1) := by decide +kernel
theorem dX2_init_5 : decode cX2_init 5 = .ok (.new 9, 3) := by decide +kernel
theorem dX2_init_8 : decode cX2_init 8 = .ok (.dup, 1) := by decide +kernel
theorem dX2_init_9 : decode cX2_init 9 = .ok (.invokespecial 11, 3) := by decide +kernel
theorem dX2_init_12 : decode cX2_init 12 = .ok (.putfield 12, 3) := by decide +kernel
theorem dX2_init_15 : decode cX2_init 15 = .ok (.aload_n 0, 1) := by decide +kernel
theorem dX2_init_16 : decode cX2_init 16 = .ok (.bipush 60, 2) := by decide +kernel
theorem dX2_init_18 : decode cX2_init 18 = .ok (.newarray .int, 2) := by decide +kernel
theorem dX2_init_20 : decode cX2_init 20 = .ok (.putfield 18, 3) := by decide +kernel
theorem dX2_init_23 : decode cX2_init 23 = .ok (.aload_n 0, 1) := by decide +kernel
theorem dX2_init_24 : decode cX2_init 24 = .ok (.bipush 60, 2) := by decide +kernel
theorem dX2_init_26 : decode cX2_init 26 = .ok (.newarray .int, 2) := by decide +kernel
theorem dX2_init_28 : decode cX2_init 28 = .ok (.putfield 22, 3) := by decide +kernel
theorem dX2_init_31 : decode cX2_init 31 = .ok (.aload_n 0, 1) := by decide +kernel
theorem dX2_init_32 : decode cX2_init 32 = .ok (.bipush 60, 2) := by decide +kernel
theorem dX2_init_34 : decode cX2_init 34 = .ok (.newarray .int, 2) := by decide +kernel
theorem dX2_init_36 : decode cX2_init 36 = .ok (.putfield 25, 3) := by decide +kernel
theorem dX2_init_39 : decode cX2_init 39 = .ok (.aload_n 0, 1) := by decide +kernel
theorem dX2_init_40 : decode cX2_init 40 = .ok (.aload_n 1, 1) := by decide +kernel
theorem dX2_init_41 : decode cX2_init 41 = .ok (.putfield 28, 3) := by decide +kernel
theorem dX2_init_44 : decode cX2_init 44 = .ok (.aload_n 0, 1) := by decide +kernel
theorem dX2_init_45 : decode cX2_init 45 = .ok (.aload_n 1, 1) := by decide +kernel
theorem dX2_init_46 : decode cX2_init 46 = .ok (.getfield 32, 3) := by decide +kernel
theorem dX2_init_49 : decode cX2_init 49 = .ok (.getfield 38, 3) := by decide +kernel
theorem dX2_init_52 : decode cX2_init 52 = .ok (.putfield 44, 3) := by decide +kernel
theorem dX2_init_55 : decode cX2_init 55 = .ok (.iconst 2, 1) := by decide +kernel
theorem dX2_init_56 : decode cX2_init 56 = .ok (.aload_n 0, 1) := by decide +kernel
theorem dX2_init_57 : decode cX2_init 57 = .ok (.getfield 44, 3) := by decide +kernel
theorem dX2_init_60 : decode cX2_init 60 = .ok (.arraylength, 1) := by decide +kernel
theorem dX2_init_61 : decode cX2_init 61 = .ok (.bipush 7, 2) := by decide +kernel
theorem dX2_init_63 : decode cX2_init 63 = .ok (.idiv, 1) := by decide +kernel
theorem dX2_init_64 : decode cX2_init 64 = .ok (.imul, 1) := by decide +kernel
theorem dX2_init_65 : decode cX2_init 65 = .ok (.iconst 1, 1) := by decide +kernel
theorem dX2_init_66 : decode cX2_init 66 = .ok (.iadd, 1) := by decide +kernel
theorem dX2_init_67 : decode cX2_init 67 = .ok (.istore_n 2, 1) := by decide +kernel
theorem dX2_init_68 : decode cX2_init 68 = .ok (.aload_n 0, 1) := by decide +kernel
theorem dX2_init_69 : decode cX2_init 69 = .ok (.iload_n 2, 1) := by decide +kernel
theorem dX2_init_70 : decode cX2_init 70 = .ok (.newarray .int, 2) := by decide +kernel
theorem dX2_init_72 : decode cX2_init 72 = .ok (.putfield 46, 3) := by decide +kernel
theorem dX2_init_75 : decode cX2_init 75 = .ok (.aload_n 0, 1) := by decide +kernel
theorem dX2_init_76 : decode cX2_init 76 = .ok (.iload_n 2, 1) := by decide +kernel
theorem dX2_init_77 : decode cX2_init 77 = .ok (.newarray .int, 2) := by decide +kernel
theorem dX2_init_79 : decode cX2_init 79 = .ok (.putfield 49, 3) := by decide +kernel
theorem dX2_init_82 : decode cX2_init 82 = .ok (.aload_n 0, 1) := by decide +kernel
theorem dX2_init_83 : decode cX2_init 83 = .ok (.aload_n 0, 1) := by decide +kernel
theorem dX2_init_84 : decode cX2_init 84 = .ok (.getfield 44, 3) := by decide +kernel
theorem dX2_init_87 : decode cX2_init 87 = .ok (.arraylength, 1) := by decide +kernel
theorem dX2_init_88 : decode cX2_init 88 = .ok (.newarray .byte, 2) := by decide +kernel
theorem dX2_init_90 : decode cX2_init 90 = .ok (.putfield 52, 3) := by decide +kernel
theorem dX2_init_93 : decode cX2_init 93 = .ok (.return_, 1) := by decide +kernel
theorem dX2_run_0 : decode cX2_run 0 = .ok (.aload_n 1, 1) := by decide +kernel
theorem dX2_run_1 : decode cX2_run 1 = .ok (.getfield 55, 3) := by decide +kernel
theorem dX2_run_4 : decode cX2_run 4 = .ok (.iconst 2, 1) := by decide +kernel
theorem dX2_run_5 : decode cX2_run 5 = .ok (.if_icmp .ge 7, 3) := by decide +kernel
theorem dX2_run_8 : decode cX2_run 8 = .ok (.iconst 0, 1) := by decide +kernel
theorem dX2_run_9 : decode cX2_run 9 = .ok (.goto 19, 3) := by decide +kernel
theorem dX2_run_12 : decode cX2_run 12 = .ok (.aload_n 1, 1) := by decide +kernel
theorem dX2_run_13 : decode cX2_run 13 = .ok (.getfield 61, 3) := by decide +kernel
theorem dX2_run_16 : decode cX2_run 16 = .ok (.aload_n 1, 1) := by decide +kernel
theorem dX2_run_17 : decode cX2_run 17 = .ok (.getfield 64, 3) := by decide +kernel
theorem dX2_run_20 : decode cX2_run 20 = .ok (.aload_n 1, 1) := by decide +kernel
theorem dX2_run_21 : decode cX2_run 21 = .ok (.getfield 55, 3) := by decide +kernel
theorem dX2_run_24 : decode cX2_run 24 = .ok (.iconst 1, 1) := by decide +kernel
theorem dX2_run_25 : decode cX2_run 25 = .ok (.isub, 1) := by decide +kernel
theorem dX2_run_26 : decode cX2_run 26 = .ok (.iaload, 1) := by decide +kernel
theorem dX2_run_27 : decode cX2_run 27 = .ok (.isub, 1) := by decide +kernel
theorem dX2_run_28 : decode cX2_run 28 = .ok (.istore_n 3, 1) := by decide +kernel
theorem dX2_run_29 : decode cX2_run 29 = .ok (.iload_n 3, 1) := by decide +kernel
theorem dX2_run_30 : decode cX2_run 30 = .ok (.ifCond .ne 5, 3) := by decide +kernel
theorem dX2_run_33 : decode cX2_run 33 = .ok (.iconst 0, 1) := by decide +kernel
theorem dX2_run_34 : decode cX2_run 34 = .ok (.ireturn, 1) := by decide +kernel
theorem dX2_run_35 : decode cX2_run 35 = .ok (.aload_n 0, 1) := by decide +kernel
theorem dX2_run_36 : decode cX2_run 36 = .ok (.aload_n 1, 1) := by decide +kernel
theorem dX2_run_37 : decode cX2_run 37 = .ok (.invokevirtual 65, 3) := by decide +kernel
theorem dX2_run_40 : decode cX2_run 40 = .ok (.aload_n 0, 1) := by decide +kernel
theorem dX2_run_41 : decode cX2_run 41 = .ok (.iconst 0, 1) := by decide +kernel
theorem dX2_run_42 : decode cX2_run 42 = .ok (.putfield 69, 3) := by decide +kernel
theorem dX2_run_45 : decode cX2_run 45 = .ok (.aload_n 0, 1) := by decide +kernel
theorem dX2_run_46 : decode cX2_run 46 = .ok (.iconst 0, 1) := by decide +kernel
theorem dX2_run_47 : decode cX2_run 47 = .ok (.putfield 72, 3) := by decide +kernel
theorem dX2_run_50 : decode cX2_run 50 = .ok (.iconst 0, 1) := by decide +kernel
theorem dX2_run_51 : decode cX2_run 51 = .ok (.istore 4, 2) := by decide +kernel
theorem dX2_run_53 : decode cX2_run 53 = .ok (.iconst 0, 1) := by decide +kernel
theorem dX2_run_54 : decode cX2_run 54 = .ok (.istore 5, 2) := by decide +kernel
theorem dX2_run_56 : decode cX2_run 56 = .ok (.iconst 0, 1) := by decide +kernel
theorem dX2_run_57 : decode cX2_run 57 = .ok (.istore 6, 2) := by decide +kernel
theorem dX2_run_59 : decode cX2_run 59 = .ok (.iload 6, 2) := by decide +kernel
theorem dX2_run_61 : decode cX2_run 61 = .ok (.iload_n 3, 1) := by decide +kernel
theorem dX2_run_62 : decode cX2_run 62 = .ok (.if_icmp .ge 84, 3) := by decide +kernel
theorem dX2_run_65 : decode cX2_run 65 = .ok (.aload_n 0, 1) := by decide +kernel
theorem dX2_run_66 : decode cX2_run 66 = .ok (.aload_n 1, 1) := by decide +kernel
theorem dX2_run_67 : decode cX2_run 67 = .ok (.getfield 73, 3) := by decide +kernel
theorem dX2_run_70 : decode cX2_run 70 = .ok (.iload 6, 2) := by decide +kernel
theorem dX2_run_72 : decode cX2_run 72 = .ok (.iaload, 1) := by decide +kernel
theorem dX2_run_73 : decode cX2_run 73 = .ok (.iload_n 2, 1) := by decide +kernel
theorem dX2_run_74 : decode cX2_run 74 = .ok (.invokevirtual 76, 3) := by decide +kernel
theorem dX2_run_77 : decode cX2_run 77 = .ok (.istore 7, 2) := by decide +kernel
theorem dX2_run_79 : decode cX2_run 79 = .ok (.iload 4, 2) := by decide +kernel
theorem dX2_run_81 : decode cX2_run 81 = .ok (.aload_n 0, 1) := by decide +kernel
theorem dX2_run_82 : decode cX2_run 82 = .ok (.getfield 44, 3) := by decide +kernel
theorem dX2_run_85 : decode cX2_run 85 = .ok (.aload_n 1, 1) := by decide +kernel
theorem dX2_run_86 : decode cX2_run 86 = .ok (.getfield 73, 3) := by decide +kernel
theorem dX2_run_89 : decode cX2_run 89 = .ok (.iload 6, 2) := by decide +kernel
theorem dX2_run_91 : decode cX2_run 91 = .ok (.iaload, 1) := by decide +kernel
theorem dX2_run_92 : decode cX2_run 92 = .ok (.invokestatic 80, 3) := by decide +kernel
theorem dX2_run_95 : decode cX2_run 95 = .ok (.aload_n 0, 1) := by decide +kernel
theorem dX2_run_96 : decode cX2_run 96 = .ok (.getfield 86, 3) := by decide +kernel
theorem dX2_run_99 : decode cX2_run 99 = .ok (.isub, 1) := by decide +kernel
theorem dX2_run_100 : decode cX2_run 100 = .ok (.iadd, 1) := by decide +kernel
theorem dX2_run_101 : decode cX2_run 101 = .ok (.istore 4, 2) := by decide +kernel
theorem dX2_run_103 : decode cX2_run 103 = .ok (.aload_n 0, 1) := by decide +kernel
theorem dX2_run_104 : decode cX2_run 104 = .ok (.getfield 86, 3) := by decide +kernel
theorem dX2_run_107 : decode cX2_run 107 = .ok (.ifCond .ne 27, 3) := by decide +kernel
theorem dX2_run_110 : decode cX2_run 110 = .ok (.aload_n 0, 1) := by decide +kernel
theorem dX2_run_111 : decode cX2_run 111 = .ok (.getfield 28, 3) := by decide +kernel
theorem dX2_run_114 : decode cX2_run 114 = .ok (.aload_n 1, 1) := by decide +kernel
theorem dX2_run_115 : decode cX2_run 115 = .ok (.aload_n 1, 1) := by decide +kernel
theorem dX2_run_116 : decode cX2_run 116 = .ok (.getfield 73, 3) := by decide +kernel
theorem dX2_run_119 : decode cX2_run 119 = .ok (.iload 6, 2) := by decide +kernel
theorem dX2_run_121 : decode cX2_run 121 = .ok (.iaload, 1) := by decide +kernel
theorem dX2_run_122 : decode cX2_run 122 = .ok (.invokevirtual 89, 3) := by decide +kernel
theorem dX2_run_125 : decode cX2_run 125 = .ok (.ifCond .ne 9, 3) := by decide +kernel
theorem dX2_run_128 : decode cX2_run 128 = .ok (.iinc 5 1, 3) := by decide +kernel
theorem dX2_run_131 : decode cX2_run 131 = .ok (.goto 9, 3) := by decide +kernel
theorem dX2_run_134 : decode cX2_run 134 = .ok (.aload_n 0, 1) := by decide +kernel
theorem dX2_run_135 : decode cX2_run 135 = .ok (.iload 7, 2) := by decide +kernel
theorem dX2_run_137 : decode cX2_run 137 = .ok (.invokevirtual 93, 3) := by decide +kernel
theorem dX2_run_140 : decode cX2_run 140 = .ok (.iinc 6 1, 3) := by decide +kernel
theorem dX2_run_143 : decode cX2_run 143 = .ok (.goto (-84), 3) := by decide +kernel
theorem dX2_run_146 : decode cX2_run 146 = .ok (.iload 4, 2) := by decide +kernel
theorem dX2_run_148 : decode cX2_run 148 = .ok (.ifCond .ne 10, 3) := by decide +kernel
theorem dX2_run_151 : decode cX2_run 151 = .ok (.iload 5, 2) := by decide +kernel
theorem dX2_run_153 : decode cX2_run 153 = .ok (.ifCond .ne 5, 3) := by decide +kernel
theorem dX2_run_156 : decode cX2_run 156 = .ok (.iconst 0, 1) := by decide +kernel
theorem dX2_run_157 : decode cX2_run 157 = .ok (.ireturn, 1) := by decide +kernel
theorem dX2_run_158 : decode cX2_run 158 = .ok (.aload_n 0, 1) := by decide +kernel
theorem dX2_run_159 : decode cX2_run 159 = .ok (.invokevirtual 97, 3) := by decide +kernel
theorem dX2_run_162 : decode cX2_run 162 = .ok (.ifCond .ne 6, 3) := by decide +kernel
theorem dX2_run_165 : decode cX2_run 165 = .ok (.bipush (-2), 2) := by decide +kernel
theorem dX2_run_167 : decode cX2_run 167 = .ok (.ireturn, 1) := by decide +kernel
theorem dX2_run_168 : decode cX2_run 168 = .ok (.aload_n 0, 1) := by decide +kernel
theorem dX2_run_169 : decode cX2_run 169 = .ok (.aload_n 1, 1) := by decide +kernel
theorem dX2_run_170 : decode cX2_run 170 = .ok (.invokevirtual 101, 3) := by decide +kernel
theorem dX2_run_173 : decode cX2_run 173 = .ok (.ifCond .eq 8, 3) := by decide +kernel
theorem dX2_run_176 : decode cX2_run 176 = .ok (.iload 4, 2) := by decide +kernel
theorem dX2_run_178 : decode cX2_run 178 = .ok (.goto 5, 3) := by decide +kernel
theorem dX2_run_181 : decode cX2_run 181 = .ok (.bipush (-3), 2) := by decide +kernel
theorem dX2_run_183 : decode cX2_run 183 = .ok (.ireturn, 1) := by decide +kernel
theorem dX2_noteLatestKeys_0 : decode cX2_noteLatestKeys 0 = .ok (.aload_n 0, 1) := by decide +kernel
theorem dX2_noteLatestKeys_1 : decode cX2_noteLatestKeys 1 = .ok (.ldc2_w 105, 3) := by decide +kernel
theorem dX2_noteLatestKeys_4 : decode cX2_noteLatestKeys 4 = .ok (.aload_n 0, 1) := by decide +kernel
theorem dX2_noteLatestKeys_5 : decode cX2_noteLatestKeys 5 = .ok (.getfield 28, 3) := by decide +kernel
theorem dX2_noteLatestKeys_8 : decode cX2_noteLatestKeys 8 = .ok (.aload_n 1, 1) := by decide +kernel
theorem dX2_noteLatestKeys_9 : decode cX2_noteLatestKeys 9 = .ok (.invokevirtual 107, 3) := by decide +kernel
theorem dX2_noteLatestKeys_12 : decode cX2_noteLatestKeys 12 = .ok (.lmul, 1) := by decide +kernel
theorem dX2_noteLatestKeys_13 : decode cX2_noteLatestKeys 13 = .ok (.lconst 1, 1) := by decide +kernel
theorem dX2_noteLatestKeys_14 : decode cX2_noteLatestKeys 14 = .ok (.ladd, 1) := by decide +kernel
theorem dX2_noteLatestKeys_15 : decode cX2_noteLatestKeys 15 = .ok (.aload_n 0, 1) := by decide +kernel
theorem dX2_noteLatestKeys_16 : decode cX2_noteLatestKeys 16 = .ok (.getfield 46, 3) := by decide +kernel
theorem dX2_noteLatestKeys_19 : decode cX2_noteLatestKeys 19 = .ok (.arraylength, 1) := by decide +kernel
theorem dX2_noteLatestKeys_20 : decode cX2_noteLatestKeys 20 = .ok (.i2l, 1) := by decide +kernel
theorem dX2_noteLatestKeys_21 : decode cX2_noteLatestKeys 21 = .ok (.invokestatic 111, 3) := by decide +kernel
theorem dX2_noteLatestKeys_24 : decode cX2_noteLatestKeys 24 = .ok (.l2i, 1) := by decide +kernel
theorem dX2_noteLatestKeys_25 : decode cX2_noteLatestKeys 25 = .ok (.putfield 117, 3) := by decide +kernel
theorem dX2_noteLatestKeys_28 : decode cX2_noteLatestKeys 28 = .ok (.aload_n 0, 1) := by decide +kernel
theorem dX2_noteLatestKeys_29 : decode cX2_noteLatestKeys 29 = .ok (.getfield 46, 3) := by decide +kernel
theorem dX2_noteLatestKeys_32 : decode cX2_noteLatestKeys 32 = .ok (.iconst 0, 1) := by decide +kernel
theorem dX2_noteLatestKeys_33 : decode cX2_noteLatestKeys 33 = .ok (.aload_n 0, 1) := by decide +kernel
theorem dX2_noteLatestKeys_34 : decode cX2_noteLatestKeys 34 = .ok (.getfield 117, 3) := by decide +kernel
theorem dX2_noteLatestKeys_37 : decode cX2_noteLatestKeys 37 = .ok (.iconst (-1), 1) := by decide +kernel
theorem dX2_noteLatestKeys_38 : decode cX2_noteLatestKeys 38 = .ok (.invokestatic 120, 3) := by decide +kernel
theorem dX2_noteLatestKeys_41 : decode cX2_noteLatestKeys 41 = .ok (.iconst 0, 1) := by decide +kernel
theorem dX2_noteLatestKeys_42 : decode cX2_noteLatestKeys 42 = .ok (.istore_n 2, 1) := by decide +kernel
theorem dX2_noteLatestKeys_43 : decode cX2_noteLatestKeys 43 = .ok (.iload_n 2, 1) := by decide +kernel
theorem dX2_noteLatestKeys_44 : decode cX2_noteLatestKeys 44 = .ok (.aload_n 1, 1) := by decide +kernel
theorem dX2_noteLatestKeys_45 : decode cX2_noteLatestKeys 45 = .ok (.getfield 61, 3) := by decide +kernel
theorem dX2_noteLatestKeys_48 : decode cX2_noteLatestKeys 48 = .ok (.if_icmp .ge 143, 3) := by decide +kernel
theorem dX2_noteLatestKeys_51 : decode cX2_noteLatestKeys 51 = .ok (.aload_n 0, 1) := by decide +kernel
theorem dX2_noteLatestKeys_52 : decode cX2_noteLatestKeys 52 = .ok (.getfield 44, 3) := by decide +kernel
theorem dX2_noteLatestKeys_55 : decode cX2_noteLatestKeys 55 = .ok (.aload_n 1, 1) := by decide +kernel
theorem dX2_noteLatestKeys_56 : decode cX2_noteLatestKeys 56 = .ok (.getfield 73, 3) := by decide +kernel
theorem dX2_noteLatestKeys_59 : decode cX2_noteLatestKeys 59 = .ok (.iload_n 2, 1) := by decide +kernel
theorem dX2_noteLatestKeys_60 : decode cX2_noteLatestKeys 60 = .ok (.iaload, 1) := by decide +kernel
theorem dX2_noteLatestKeys_61 : decode cX2_noteLatestKeys 61 = .ok (.invokestatic 80, 3) := by decide +kernel
theorem dX2_noteLatestKeys_64 : decode cX2_noteLatestKeys 64 = .ok (.istore_n 3, 1) := by decide +kernel
theorem dX2_noteLatestKeys_65 : decode cX2_noteLatestKeys 65 = .ok (.aload_n 1, 1) := by decide +kernel
theorem dX2_noteLatestKeys_66 : decode cX2_noteLatestKeys 66 = .ok (.getfield 73, 3) := by decide +kernel
theorem dX2_noteLatestKeys_69 : decode cX2_noteLatestKeys 69 = .ok (.iload_n 2, 1) := by decide +kernel
theorem dX2_noteLatestKeys_70 : decode cX2_noteLatestKeys 70 = .ok (.iaload, 1) := by decide +kernel
theorem dX2_noteLatestKeys_71 : decode cX2_noteLatestKeys 71 = .ok (.aload_n 0, 1) := by decide +kernel
theorem dX2_noteLatestKeys_72 : decode cX2_noteLatestKeys 72 = .ok (.getfield 44, 3) := by decide +kernel
theorem dX2_noteLatestKeys_75 : decode cX2_noteLatestKeys 75 = .ok (.aload_n 1, 1) := by decide +kernel
theorem dX2_noteLatestKeys_76 : decode cX2_noteLatestKeys 76 = .ok (.getfield 73, 3) := by decide +kernel
theorem dX2_noteLatestKeys_79 : decode cX2_noteLatestKeys 79 = .ok (.iload_n 2, 1) := by decide +kernel
theorem dX2_noteLatestKeys_80 : decode cX2_noteLatestKeys 80 = .ok (.iaload, 1) := by decide +kernel
theorem dX2_noteLatestKeys_81 : decode cX2_noteLatestKeys 81 = .ok (.invokestatic 126, 3) := by decide +kernel
theorem dX2_noteLatestKeys_84 : decode cX2_noteLatestKeys 84 = .ok (.iadd, 1) := by decide +kernel
theorem dX2_noteLatestKeys_85 : decode cX2_noteLatestKeys 85 = .ok (.istore 4, 2) := by decide +kernel
theorem dX2_noteLatestKeys_87 : decode cX2_noteLatestKeys 87 = .ok (.aload_n 1, 1) := by decide +kernel
theorem dX2_noteLatestKeys_88 : decode cX2_noteLatestKeys 88 = .ok (.getfield 73, 3) := by decide +kernel
theorem dX2_noteLatestKeys_91 : decode cX2_noteLatestKeys 91 = .ok (.iload_n 2, 1) := by decide +kernel
theorem dX2_noteLatestKeys_92 : decode cX2_noteLatestKeys 92 = .ok (.iaload, 1) := by decide +kernel
theorem dX2_noteLatestKeys_93 : decode cX2_noteLatestKeys 93 = .ok (.bipush 61, 2) := by decide +kernel
theorem dX2_noteLatestKeys_95 : decode cX2_noteLatestKeys 95 = .ok (.iadd, 1) := by decide +kernel
theorem dX2_noteLatestKeys_96 : decode cX2_noteLatestKeys 96 = .ok (.istore 5, 2) := by decide +kernel
theorem dX2_noteLatestKeys_98 : decode cX2_noteLatestKeys 98 = .ok (.iconst 0, 1) := by decide +kernel
theorem dX2_noteLatestKeys_99 : decode cX2_noteLatestKeys 99 = .ok (.istore 6, 2) := by decide +kernel
theorem dX2_noteLatestKeys_101 : decode cX2_noteLatestKeys 101 = .ok (.iload 6, 2) := by decide +kernel
theorem dX2_noteLatestKeys_103 : decode cX2_noteLatestKeys 103 = .ok (.iload_n 3, 1) := by decide +kernel
theorem dX2_noteLatestKeys_104 : decode cX2_noteLatestKeys 104 = .ok (.if_icmp .ge 81, 3) := by decide +kernel
theorem dX2_noteLatestKeys_107 : decode cX2_noteLatestKeys 107 = .ok (.aload_n 0, 1) := by decide +kernel
theorem dX2_noteLatestKeys_108 : decode cX2_noteLatestKeys 108 = .ok (.getfield 12, 3) := by decide +kernel
theorem dX2_noteLatestKeys_111 : decode cX2_noteLatestKeys 111 = .ok (.aload_n 0, 1) := by decide +kernel
theorem dX2_noteLatestKeys_112 : decode cX2_noteLatestKeys 112 = .ok (.getfield 44, 3) := by decide +kernel
theorem dX2_noteLatestKeys_115 : decode cX2_noteLatestKeys 115 = .ok (.iload 5, 2) := by decide +kernel
theorem dX2_noteLatestKeys_117 : decode cX2_noteLatestKeys 117 = .ok (.iload 4, 2) := by decide +kernel
theorem dX2_noteLatestKeys_119 : decode cX2_noteLatestKeys 119 = .ok (.invokevirtual 129, 3) := by decide +kernel
theorem dX2_noteLatestKeys_122 : decode cX2_noteLatestKeys 122 = .ok (.ifCond .eq 63, 3) := by decide +kernel
theorem dX2_noteLatestKeys_125 : decode cX2_noteLatestKeys 125 = .ok (.aload_n 0, 1) := by decide +kernel
theorem dX2_noteLatestKeys_126 : decode cX2_noteLatestKeys 126 = .ok (.getfield 12, 3) := by decide +kernel
theorem dX2_noteLatestKeys_129 : decode cX2_noteLatestKeys 129 = .ok (.getfield 133, 3) := by decide +kernel
theorem dX2_noteLatestKeys_132 : decode cX2_noteLatestKeys 132 = .ok (.iconst (-1), 1) := by decide +kernel
theorem dX2_noteLatestKeys_133 : decode cX2_noteLatestKeys 133 = .ok (.if_icmp .eq 37, 3) := by decide +kernel
theorem dX2_noteLatestKeys_136 : decode cX2_noteLatestKeys 136 = .ok (.aload_n 0, 1) := by decide +kernel
theorem dX2_noteLatestKeys_137 : decode cX2_noteLatestKeys 137 = .ok (.invokevirtual 135, 3) := by decide +kernel
theorem dX2_noteLatestKeys_140 : decode cX2_noteLatestKeys 140 = .ok (.istore 7, 2) := by decide +kernel
theorem dX2_noteLatestKeys_142 : decode cX2_noteLatestKeys 142 = .ok (.aload_n 0, 1) := by decide +kernel
theorem dX2_noteLatestKeys_143 : decode cX2_noteLatestKeys 143 = .ok (.getfield 46, 3) := by decide +kernel
theorem dX2_noteLatestKeys_146 : decode cX2_noteLatestKeys 146 = .ok (.iload 7, 2) := by decide +kernel
theorem dX2_noteLatestKeys_148 : decode cX2_noteLatestKeys 148 = .ok (.aload_n 0, 1) := by decide +kernel
theorem dX2_noteLatestKeys_149 : decode cX2_noteLatestKeys 149 = .ok (.getfield 12, 3) := by decide +kernel
theorem dX2_noteLatestKeys_152 : decode cX2_noteLatestKeys 152 = .ok (.getfield 139, 3) := by decide +kernel
theorem dX2_noteLatestKeys_155 : decode cX2_noteLatestKeys 155 = .ok (.iastore, 1) := by decide +kernel
theorem dX2_noteLatestKeys_156 : decode cX2_noteLatestKeys 156 = .ok (.aload_n 0, 1) := by decide +kernel
theorem dX2_noteLatestKeys_157 : decode cX2_noteLatestKeys 157 = .ok (.getfield 49, 3) := by decide +kernel
theorem dX2_noteLatestKeys_160 : decode cX2_noteLatestKeys 160 = .ok (.iload 7, 2) := by decide +kernel
theorem dX2_noteLatestKeys_162 : decode cX2_noteLatestKeys 162 = .ok (.aload_n 0, 1) := by decide +kernel
theorem dX2_noteLatestKeys_163 : decode cX2_noteLatestKeys 163 = .ok (.getfield 12, 3) := by decide +kernel
theorem dX2_noteLatestKeys_166 : decode cX2_noteLatestKeys 166 = .ok (.getfield 133, 3) := by decide +kernel
theorem dX2_noteLatestKeys_169 : decode cX2_noteLatestKeys 169 = .ok (.iastore, 1) := by decide +kernel
theorem dX2_noteLatestKeys_170 : decode cX2_noteLatestKeys 170 = .ok (.aload_n 0, 1) := by decide +kernel
theorem dX2_noteLatestKeys_171 : decode cX2_noteLatestKeys 171 = .ok (.getfield 12, 3) := by decide +kernel
theorem dX2_noteLatestKeys_174 : decode cX2_noteLatestKeys 174 = .ok (.getfield 141, 3) := by decide +kernel
theorem dX2_noteLatestKeys_177 : decode cX2_noteLatestKeys 177 = .ok (.istore 5, 2) := by decide +kernel
theorem dX2_noteLatestKeys_179 : decode cX2_noteLatestKeys 179 = .ok (.iinc 6 1, 3) := by decide +kernel
theorem dX2_noteLatestKeys_182 : decode cX2_noteLatestKeys 182 = .ok (.goto (-81), 3) := by decide +kernel
theorem dX2_noteLatestKeys_185 : decode cX2_noteLatestKeys 185 = .ok (.iinc 2 1, 3) := by decide +kernel
theorem dX2_noteLatestKeys_188 : decode cX2_noteLatestKeys 188 = .ok (.goto (-145), 3) := by decide +kernel
theorem dX2_noteLatestKeys_191 : decode cX2_noteLatestKeys 191 = .ok (.return_, 1) := by decide +kernel
theorem dX2_slotOfKey_0 : decode cX2_slotOfKey 0 = .ok (.aload_n 0, 1) := by decide +kernel
theorem dX2_slotOfKey_1 : decode cX2_slotOfKey 1 = .ok (.getfield 44, 3) := by decide +kernel
theorem dX2_slotOfKey_4 : decode cX2_slotOfKey 4 = .ok (.aload_n 0, 1) := by decide +kernel
theorem dX2_slotOfKey_5 : decode cX2_slotOfKey 5 = .ok (.getfield 12, 3) := by decide +kernel
theorem dX2_slotOfKey_8 : decode cX2_slotOfKey 8 = .ok (.getfield 139, 3) := by decide +kernel
theorem dX2_slotOfKey_11 : decode cX2_slotOfKey 11 = .ok (.aload_n 0, 1) := by decide +kernel
theorem dX2_slotOfKey_12 : decode cX2_slotOfKey 12 = .ok (.getfield 12, 3) := by decide +kernel
theorem dX2_slotOfKey_15 : decode cX2_slotOfKey 15 = .ok (.getfield 139, 3) := by decide +kernel
theorem dX2_slotOfKey_18 : decode cX2_slotOfKey 18 = .ok (.aload_n 0, 1) := by decide +kernel
theorem dX2_slotOfKey_19 : decode cX2_slotOfKey 19 = .ok (.getfield 12, 3) := by decide +kernel
theorem dX2_slotOfKey_22 : decode cX2_slotOfKey 22 = .ok (.getfield 133, 3) := by decide +kernel
theorem dX2_slotOfKey_25 : decode cX2_slotOfKey 25 = .ok (.iadd, 1) := by decide +kernel
theorem dX2_slotOfKey_26 : decode cX2_slotOfKey 26 = .ok (.invokestatic 144, 3) := by decide +kernel
theorem dX2_slotOfKey_29 : decode cX2_slotOfKey 29 = .ok (.aload_n 0, 1) := by decide +kernel
theorem dX2_slotOfKey_30 : decode cX2_slotOfKey 30 = .ok (.getfield 117, 3) := by decide +kernel
theorem dX2_slotOfKey_33 : decode cX2_slotOfKey 33 = .ok (.invokestatic 150, 3) := by decide +kernel
theorem dX2_slotOfKey_36 : decode cX2_slotOfKey 36 = .ok (.istore_n 1, 1) := by decide +kernel
theorem dX2_slotOfKey_37 : decode cX2_slotOfKey 37 = .ok (.iconst 0, 1) := by decide +kernel
theorem dX2_slotOfKey_38 : decode cX2_slotOfKey 38 = .ok (.istore_n 2, 1) := by decide +kernel
theorem dX2_slotOfKey_39 : decode cX2_slotOfKey 39 = .ok (.iload_n 2, 1) := by decide +kernel
theorem dX2_slotOfKey_40 : decode cX2_slotOfKey 40 = .ok (.aload_n 0, 1) := by decide +kernel
theorem dX2_slotOfKey_41 : decode cX2_slotOfKey 41 = .ok (.getfield 117, 3) := by decide +kernel
theorem dX2_slotOfKey_44 : decode cX2_slotOfKey 44 = .ok (.if_icmp .ge 45, 3) := by decide +kernel
theorem dX2_slotOfKey_47 : decode cX2_slotOfKey 47 = .ok (.aload_n 0, 1) := by decide +kernel
theorem dX2_slotOfKey_48 : decode cX2_slotOfKey 48 = .ok (.getfield 46, 3) := by decide +kernel
theorem dX2_slotOfKey_51 : decode cX2_slotOfKey 51 = .ok (.iload_n 1, 1) := by decide +kernel
theorem dX2_slotOfKey_52 : decode cX2_slotOfKey 52 = .ok (.iaload, 1) := by decide +kernel
theorem dX2_slotOfKey_53 : decode cX2_slotOfKey 53 = .ok (.iconst (-1), 1) := by decide +kernel
theorem dX2_slotOfKey_54 : decode cX2_slotOfKey 54 = .ok (.if_icmp .eq 35, 3) := by decide +kernel
theorem dX2_slotOfKey_57 : decode cX2_slotOfKey 57 = .ok (.aload_n 0, 1) := by decide +kernel
theorem dX2_slotOfKey_58 : decode cX2_slotOfKey 58 = .ok (.iload_n 1, 1) := by decide +kernel
theorem dX2_slotOfKey_59 : decode cX2_slotOfKey 59 = .ok (.invokevirtual 153, 3) := by decide +kernel
theorem dX2_slotOfKey_62 : decode cX2_slotOfKey 62 = .ok (.ifCond .ne 27, 3) := by decide +kernel
theorem dX2_slotOfKey_65 : decode cX2_slotOfKey 65 = .ok (.iload_n 1, 1) := by decide +kernel
theorem dX2_slotOfKey_66 : decode cX2_slotOfKey 66 = .ok (.iconst 1, 1) := by decide +kernel
theorem dX2_slotOfKey_67 : decode cX2_slotOfKey 67 = .ok (.iadd, 1) := by decide +kernel
theorem dX2_slotOfKey_68 : decode cX2_slotOfKey 68 = .ok (.aload_n 0, 1) := by decide +kernel
theorem dX2_slotOfKey_69 : decode cX2_slotOfKey 69 = .ok (.getfield 117, 3) := by decide +kernel
theorem dX2_slotOfKey_72 : decode cX2_slotOfKey 72 = .ok (.if_icmp .ge 9, 3) := by decide +kernel
theorem dX2_slotOfKey_75 : decode cX2_slotOfKey 75 = .ok (.iload_n 1, 1) := by decide +kernel
theorem dX2_slotOfKey_76 : decode cX2_slotOfKey 76 = .ok (.iconst 1, 1) := by decide +kernel
theorem dX2_slotOfKey_77 : decode cX2_slotOfKey 77 = .ok (.iadd, 1) := by decide +kernel
theorem dX2_slotOfKey_78 : decode cX2_slotOfKey 78 = .ok (.goto 4, 3) := by decide +kernel
theorem dX2_slotOfKey_81 : decode cX2_slotOfKey 81 = .ok (.iconst 0, 1) := by decide +kernel
theorem dX2_slotOfKey_82 : decode cX2_slotOfKey 82 = .ok (.istore_n 1, 1) := by decide +kernel
theorem dX2_slotOfKey_83 : decode cX2_slotOfKey 83 = .ok (.iinc 2 1, 3) := by decide +kernel
theorem dX2_slotOfKey_86 : decode cX2_slotOfKey 86 = .ok (.goto (-47), 3) := by decide +kernel
theorem dX2_slotOfKey_89 : decode cX2_slotOfKey 89 = .ok (.iload_n 1, 1) := by decide +kernel
theorem dX2_slotOfKey_90 : decode cX2_slotOfKey 90 = .ok (.ireturn, 1) := by decide +kernel
theorem dX2_isKeyOf_0 : decode cX2_isKeyOf 0 = .ok (.aload_n 0, 1) := by decide +kernel
theorem dX2_isKeyOf_1 : decode cX2_isKeyOf 1 = .ok (.getfield 49, 3) := by decide +kernel
theorem dX2_isKeyOf_4 : decode cX2_isKeyOf 4 = .ok (.iload_n 1, 1) := by decide +kernel
theorem dX2_isKeyOf_5 : decode cX2_isKeyOf 5 = .ok (.iaload, 1) := by decide +kernel
theorem dX2_isKeyOf_6 : decode cX2_isKeyOf 6 = .ok (.aload_n 0, 1) := by decide +kernel
theorem dX2_isKeyOf_7 : decode cX2_isKeyOf 7 = .ok (.getfield 12, 3) := by decide +kernel
theorem dX2_isKeyOf_10 : decode cX2_isKeyOf 10 = .ok (.getfield 133, 3) := by decide +kernel
theorem dX2_isKeyOf_13 : decode cX2_isKeyOf 13 = .ok (.if_icmp .eq 5, 3) := by decide +kernel
theorem dX2_isKeyOf_16 : decode cX2_isKeyOf 16 = .ok (.iconst 0, 1) := by decide +kernel
theorem dX2_isKeyOf_17 : decode cX2_isKeyOf 17 = .ok (.ireturn, 1) := by decide +kernel
theorem dX2_isKeyOf_18 : decode cX2_isKeyOf 18 = .ok (.iconst 0, 1) := by decide +kernel
theorem dX2_isKeyOf_19 : decode cX2_isKeyOf 19 = .ok (.istore_n 2, 1) := by decide +kernel
theorem dX2_isKeyOf_20 : decode cX2_isKeyOf 20 = .ok (.iload_n 2, 1) := by decide +kernel
theorem dX2_isKeyOf_21 : decode cX2_isKeyOf 21 = .ok (.aload_n 0, 1) := by decide +kernel
theorem dX2_isKeyOf_22 : decode cX2_isKeyOf 22 = .ok (.getfield 12, 3) := by decide +kernel
theorem dX2_isKeyOf_25 : decode cX2_isKeyOf 25 = .ok (.getfield 133, 3) := by decide +kernel
theorem dX2_isKeyOf_28 : decode cX2_isKeyOf 28 = .ok (.if_icmp .ge 41, 3) := by decide +kernel
theorem dX2_isKeyOf_31 : decode cX2_isKeyOf 31 = .ok (.aload_n 0, 1) := by decide +kernel
theorem dX2_isKeyOf_32 : decode cX2_isKeyOf 32 = .ok (.getfield 44, 3) := by decide +kernel
theorem dX2_isKeyOf_35 : decode cX2_isKeyOf 35 = .ok (.aload_n 0, 1) := by decide +kernel
theorem dX2_isKeyOf_36 : decode cX2_isKeyOf 36 = .ok (.getfield 46, 3) := by decide +kernel
theorem dX2_isKeyOf_39 : decode cX2_isKeyOf 39 = .ok (.iload_n 1, 1) := by decide +kernel
theorem dX2_isKeyOf_40 : decode cX2_isKeyOf 40 = .ok (.iaload, 1) := by decide +kernel
theorem dX2_isKeyOf_41 : decode cX2_isKeyOf 41 = .ok (.iload_n 2, 1) := by decide +kernel
theorem dX2_isKeyOf_42 : decode cX2_isKeyOf 42 = .ok (.iadd, 1) := by decide +kernel
theorem dX2_isKeyOf_43 : decode cX2_isKeyOf 43 = .ok (.baload, 1) := by decide +kernel
theorem dX2_isKeyOf_44 : decode cX2_isKeyOf 44 = .ok (.aload_n 0, 1) := by decide +kernel
theorem dX2_isKeyOf_45 : decode cX2_isKeyOf 45 = .ok (.getfield 44, 3) := by decide +kernel
theorem dX2_isKeyOf_48 : decode cX2_isKeyOf 48 = .ok (.aload_n 0, 1) := by decide +kernel
theorem dX2_isKeyOf_49 : decode cX2_isKeyOf 49 = .ok (.getfield 12, 3) := by decide +kernel
theorem dX2_isKeyOf_52 : decode cX2_isKeyOf 52 = .ok (.getfield 139, 3) := by decide +kernel
theorem dX2_isKeyOf_55 : decode cX2_isKeyOf 55 = .ok (.iload_n 2, 1) := by decide +kernel
theorem dX2_isKeyOf_56 : decode cX2_isKeyOf 56 = .ok (.iadd, 1) := by decide +kernel
theorem dX2_isKeyOf_57 : decode cX2_isKeyOf 57 = .ok (.baload, 1) := by decide +kernel
theorem dX2_isKeyOf_58 : decode cX2_isKeyOf 58 = .ok (.if_icmp .eq 5, 3) := by decide +kernel
theorem dX2_isKeyOf_61 : decode cX2_isKeyOf 61 = .ok (.iconst 0, 1) := by decide +kernel
theorem dX2_isKeyOf_62 : decode cX2_isKeyOf 62 = .ok (.ireturn, 1) := by decide +kernel
theorem dX2_isKeyOf_63 : decode cX2_isKeyOf 63 = .ok (.iinc 2 1, 3) := by decide +kernel
theorem dX2_isKeyOf_66 : decode cX2_isKeyOf 66 = .ok (.goto (-46), 3) := by decide +kernel
theorem dX2_isKeyOf_69 : decode cX2_isKeyOf 69 = .ok (.iconst 1, 1) := by decide +kernel
theorem dX2_isKeyOf_70 : decode cX2_isKeyOf 70 = .ok (.ireturn, 1) := by decide +kernel
theorem dX2_goes_0 : decode cX2_goes 0 = .ok (.aload_n 0, 1) := by decide +kernel
theorem dX2_goes_1 : decode cX2_goes 1 = .ok (.getfield 12, 3) := by decide +kernel
theorem dX2_goes_4 : decode cX2_goes 4 = .ok (.getfield 133, 3) := by decide +kernel
theorem dX2_goes_7 : decode cX2_goes 7 = .ok (.iconst (-1), 1) := by decide +kernel
theorem dX2_goes_8 : decode cX2_goes 8 = .ok (.if_icmp .ne 5, 3) := by decide +kernel
theorem dX2_goes_11 : decode cX2_goes 11 = .ok (.iconst 0, 1) := by decide +kernel
theorem dX2_goes_12 : decode cX2_goes 12 = .ok (.ireturn, 1) := by decide +kernel
theorem dX2_goes_13 : decode cX2_goes 13 = .ok (.lload_n 1, 1) := by decide +kernel
theorem dX2_goes_14 : decode cX2_goes 14 = .ok (.aload_n 0, 1) := by decide +kernel
theorem dX2_goes_15 : decode cX2_goes 15 = .ok (.getfield 12, 3) := by decide +kernel
theorem dX2_goes_18 : decode cX2_goes 18 = .ok (.getfield 157, 3) := by decide +kernel
theorem dX2_goes_21 : decode cX2_goes 21 = .ok (.ladd, 1) := by decide +kernel
theorem dX2_goes_22 : decode cX2_goes 22 = .ok (.iload_n 3, 1) := by decide +kernel
theorem dX2_goes_23 : decode cX2_goes 23 = .ok (.sipush 1000, 3) := by decide +kernel
theorem dX2_goes_26 : decode cX2_goes 26 = .ok (.isub, 1) := by decide +kernel
theorem dX2_goes_27 : decode cX2_goes 27 = .ok (.i2l, 1) := by decide +kernel
theorem dX2_goes_28 : decode cX2_goes 28 = .ok (.lcmp, 1) := by decide +kernel
theorem dX2_goes_29 : decode cX2_goes 29 = .ok (.ifCond .gt 7, 3) := by decide +kernel
theorem dX2_goes_32 : decode cX2_goes 32 = .ok (.iconst 1, 1) := by decide +kernel
theorem dX2_goes_33 : decode cX2_goes 33 = .ok (.goto 4, 3) := by decide +kernel
theorem dX2_goes_36 : decode cX2_goes 36 = .ok (.iconst 0, 1) := by decide +kernel
theorem dX2_goes_37 : decode cX2_goes 37 = .ok (.istore 4, 2) := by decide +kernel
theorem dX2_goes_39 : decode cX2_goes 39 = .ok (.aload_n 0, 1) := by decide +kernel
theorem dX2_goes_40 : decode cX2_goes 40 = .ok (.getfield 46, 3) := by decide +kernel
theorem dX2_goes_43 : decode cX2_goes 43 = .ok (.aload_n 0, 1) := by decide +kernel
theorem dX2_goes_44 : decode cX2_goes 44 = .ok (.invokevirtual 135, 3) := by decide +kernel
theorem dX2_goes_47 : decode cX2_goes 47 = .ok (.iaload, 1) := by decide +kernel
theorem dX2_goes_48 : decode cX2_goes 48 = .ok (.aload_n 0, 1) := by decide +kernel
theorem dX2_goes_49 : decode cX2_goes 49 = .ok (.getfield 12, 3) := by decide +kernel
theorem dX2_goes_52 : decode cX2_goes 52 = .ok (.getfield 139, 3) := by decide +kernel
theorem dX2_goes_55 : decode cX2_goes 55 = .ok (.if_icmp .ne 19, 3) := by decide +kernel
theorem dX2_goes_58 : decode cX2_goes 58 = .ok (.aload_n 0, 1) := by decide +kernel
theorem dX2_goes_59 : decode cX2_goes 59 = .ok (.getfield 12, 3) := by decide +kernel
theorem dX2_goes_62 : decode cX2_goes 62 = .ok (.getfield 161, 3) := by decide +kernel
theorem dX2_goes_65 : decode cX2_goes 65 = .ok (.iconst (-1), 1) := by decide +kernel
theorem dX2_goes_66 : decode cX2_goes 66 = .ok (.if_icmp .ne 12, 3) := by decide +kernel
theorem dX2_goes_69 : decode cX2_goes 69 = .ok (.iload 4, 2) := by decide +kernel
theorem dX2_goes_71 : decode cX2_goes 71 = .ok (.ifCond .eq 7, 3) := by decide +kernel
theorem dX2_goes_74 : decode cX2_goes 74 = .ok (.iconst 1, 1) := by decide +kernel
theorem dX2_goes_75 : decode cX2_goes 75 = .ok (.goto 4, 3) := by decide +kernel
theorem dX2_goes_78 : decode cX2_goes 78 = .ok (.iconst 0, 1) := by decide +kernel
theorem dX2_goes_79 : decode cX2_goes 79 = .ok (.ireturn, 1) := by decide +kernel
theorem dX2_stageKept_0 : decode cX2_stageKept 0 = .ok (.aload_n 0, 1) := by decide +kernel
theorem dX2_stageKept_1 : decode cX2_stageKept 1 = .ok (.getfield 44, 3) := by decide +kernel
theorem dX2_stageKept_4 : decode cX2_stageKept 4 = .ok (.iload_n 1, 1) := by decide +kernel
theorem dX2_stageKept_5 : decode cX2_stageKept 5 = .ok (.invokestatic 80, 3) := by decide +kernel
theorem dX2_stageKept_8 : decode cX2_stageKept 8 = .ok (.istore_n 3, 1) := by decide +kernel
theorem dX2_stageKept_9 : decode cX2_stageKept 9 = .ok (.iload_n 1, 1) := by decide +kernel
theorem dX2_stageKept_10 : decode cX2_stageKept 10 = .ok (.aload_n 0, 1) := by decide +kernel
theorem dX2_stageKept_11 : decode cX2_stageKept 11 = .ok (.getfield 44, 3) := by decide +kernel
theorem dX2_stageKept_14 : decode cX2_stageKept 14 = .ok (.iload_n 1, 1) := by decide +kernel
theorem dX2_stageKept_15 : decode cX2_stageKept 15 = .ok (.invokestatic 126, 3) := by decide +kernel
theorem dX2_stageKept_18 : decode cX2_stageKept 18 = .ok (.iadd, 1) := by decide +kernel
theorem dX2_stageKept_19 : decode cX2_stageKept 19 = .ok (.istore 4, 2) := by decide +kernel
theorem dX2_stageKept_21 : decode cX2_stageKept 21 = .ok (.aload_n 0, 1) := by decide +kernel
theorem dX2_stageKept_22 : decode cX2_stageKept 22 = .ok (.getfield 44, 3) := by decide +kernel
theorem dX2_stageKept_25 : decode cX2_stageKept 25 = .ok (.iload_n 1, 1) := by decide +kernel
theorem dX2_stageKept_26 : decode cX2_stageKept 26 = .ok (.invokestatic 164, 3) := by decide +kernel
theorem dX2_stageKept_29 : decode cX2_stageKept 29 = .ok (.lstore 5, 2) := by decide +kernel
theorem dX2_stageKept_31 : decode cX2_stageKept 31 = .ok (.lconst 0, 1) := by decide +kernel
theorem dX2_stageKept_32 : decode cX2_stageKept 32 = .ok (.lstore 7, 2) := by decide +kernel
theorem dX2_stageKept_34 : decode cX2_stageKept 34 = .ok (.bipush 61, 2) := by decide +kernel
theorem dX2_stageKept_36 : decode cX2_stageKept 36 = .ok (.istore 9, 2) := by decide +kernel
theorem dX2_stageKept_38 : decode cX2_stageKept 38 = .ok (.iload_n 1, 1) := by decide +kernel
theorem dX2_stageKept_39 : decode cX2_stageKept 39 = .ok (.bipush 61, 2) := by decide +kernel
theorem dX2_stageKept_41 : decode cX2_stageKept 41 = .ok (.iadd, 1) := by decide +kernel
theorem dX2_stageKept_42 : decode cX2_stageKept 42 = .ok (.istore 10, 2) := by decide +kernel
theorem dX2_stageKept_44 : decode cX2_stageKept 44 = .ok (.aload_n 0, 1) := by decide +kernel
theorem dX2_stageKept_45 : decode cX2_stageKept 45 = .ok (.iconst 0, 1) := by decide +kernel
theorem dX2_stageKept_46 : decode cX2_stageKept 46 = .ok (.putfield 86, 3) := by decide +kernel
theorem dX2_stageKept_49 : decode cX2_stageKept 49 = .ok (.aload_n 0, 1) := by decide +kernel
theorem dX2_stageKept_50 : decode cX2_stageKept 50 = .ok (.getfield 44, 3) := by decide +kernel
theorem dX2_stageKept_53 : decode cX2_stageKept 53 = .ok (.iload_n 1, 1) := by decide +kernel
theorem dX2_stageKept_54 : decode cX2_stageKept 54 = .ok (.aload_n 0, 1) := by decide +kernel
theorem dX2_stageKept_55 : decode cX2_stageKept 55 = .ok (.getfield 52, 3) := by decide +kernel
theorem dX2_stageKept_58 : decode cX2_stageKept 58 = .ok (.aload_n 0, 1) := by decide +kernel
theorem dX2_stageKept_59 : decode cX2_stageKept 59 = .ok (.getfield 69, 3) := by decide +kernel
theorem dX2_stageKept_62 : decode cX2_stageKept 62 = .ok (.bipush 61, 2) := by decide +kernel
theorem dX2_stageKept_64 : decode cX2_stageKept 64 = .ok (.invokestatic 168, 3) := by decide +kernel
theorem dX2_stageKept_67 : decode cX2_stageKept 67 = .ok (.iconst 0, 1) := by decide +kernel
theorem dX2_stageKept_68 : decode cX2_stageKept 68 = .ok (.istore 11, 2) := by decide +kernel
theorem dX2_stageKept_70 : decode cX2_stageKept 70 = .ok (.iload 11, 2) := by decide +kernel
theorem dX2_stageKept_72 : decode cX2_stageKept 72 = .ok (.iload_n 3, 1) := by decide +kernel
theorem dX2_stageKept_73 : decode cX2_stageKept 73 = .ok (.if_icmp .ge 118, 3) := by decide +kernel
theorem dX2_stageKept_76 : decode cX2_stageKept 76 = .ok (.aload_n 0, 1) := by decide +kernel
theorem dX2_stageKept_77 : decode cX2_stageKept 77 = .ok (.getfield 12, 3) := by decide +kernel
theorem dX2_stageKept_80 : decode cX2_stageKept 80 = .ok (.aload_n 0, 1) := by decide +kernel
theorem dX2_stageKept_81 : decode cX2_stageKept 81 = .ok (.getfield 44, 3) := by decide +kernel
theorem dX2_stageKept_84 : decode cX2_stageKept 84 = .ok (.iload 10, 2) := by decide +kernel
theorem dX2_stageKept_86 : decode cX2_stageKept 86 = .ok (.iload 4, 2) := by decide +kernel
theorem dX2_stageKept_88 : decode cX2_stageKept 88 = .ok (.invokevirtual 129, 3) := by decide +kernel
theorem dX2_stageKept_91 : decode cX2_stageKept 91 = .ok (.ifCond .eq 100, 3) := by decide +kernel
theorem dX2_stageKept_94 : decode cX2_stageKept 94 = .ok (.aload_n 0, 1) := by decide +kernel
theorem dX2_stageKept_95 : decode cX2_stageKept 95 = .ok (.lload 5, 2) := by decide +kernel
theorem dX2_stageKept_97 : decode cX2_stageKept 97 = .ok (.iload_n 2, 1) := by decide +kernel
theorem dX2_stageKept_98 : decode cX2_stageKept 98 = .ok (.invokevirtual 174, 3) := by decide +kernel
theorem dX2_stageKept_101 : decode cX2_stageKept 101 = .ok (.ifCond .ne 75, 3) := by decide +kernel
theorem dX2_stageKept_104 : decode cX2_stageKept 104 = .ok (.aload_n 0, 1) := by decide +kernel
theorem dX2_stageKept_105 : decode cX2_stageKept 105 = .ok (.getfield 44, 3) := by decide +kernel
theorem dX2_stageKept_108 : decode cX2_stageKept 108 = .ok (.iload 10, 2) := by decide +kernel
theorem dX2_stageKept_110 : decode cX2_stageKept 110 = .ok (.aload_n 0, 1) := by decide +kernel
theorem dX2_stageKept_111 : decode cX2_stageKept 111 = .ok (.getfield 52, 3) := by decide +kernel
theorem dX2_stageKept_114 : decode cX2_stageKept 114 = .ok (.aload_n 0, 1) := by decide +kernel
theorem dX2_stageKept_115 : decode cX2_stageKept 115 = .ok (.getfield 69, 3) := by decide +kernel
theorem dX2_stageKept_118 : decode cX2_stageKept 118 = .ok (.iload 9, 2) := by decide +kernel
theorem dX2_stageKept_120 : decode cX2_stageKept 120 = .ok (.iadd, 1) := by decide +kernel
theorem dX2_stageKept_121 : decode cX2_stageKept 121 = .ok (.aload_n 0, 1) := by decide +kernel
theorem dX2_stageKept_122 : decode cX2_stageKept 122 = .ok (.getfield 12, 3) := by decide +kernel
theorem dX2_stageKept_125 : decode cX2_stageKept 125 = .ok (.getfield 141, 3) := by decide +kernel
theorem dX2_stageKept_128 : decode cX2_stageKept 128 = .ok (.iload 10, 2) := by decide +kernel
theorem dX2_stageKept_130 : decode cX2_stageKept 130 = .ok (.isub, 1) := by decide +kernel
theorem dX2_stageKept_131 : decode cX2_stageKept 131 = .ok (.invokestatic 168, 3) := by decide +kernel
theorem dX2_stageKept_134 : decode cX2_stageKept 134 = .ok (.iload 9, 2) := by decide +kernel
theorem dX2_stageKept_136 : decode cX2_stageKept 136 = .ok (.aload_n 0, 1) := by decide +kernel
theorem dX2_stageKept_137 : decode cX2_stageKept 137 = .ok (.getfield 12, 3) := by decide +kernel
theorem dX2_stageKept_140 : decode cX2_stageKept 140 = .ok (.getfield 141, 3) := by decide +kernel
theorem dX2_stageKept_143 : decode cX2_stageKept 143 = .ok (.iload 10, 2) := by decide +kernel
theorem dX2_stageKept_145 : decode cX2_stageKept 145 = .ok (.isub, 1) := by decide +kernel
theorem dX2_stageKept_146 : decode cX2_stageKept 146 = .ok (.iadd, 1) := by decide +kernel
theorem dX2_stageKept_147 : decode cX2_stageKept 147 = .ok (.istore 9, 2) := by decide +kernel
theorem dX2_stageKept_149 : decode cX2_stageKept 149 = .ok (.lload 7, 2) := by decide +kernel
theorem dX2_stageKept_151 : decode cX2_stageKept 151 = .ok (.lload 5, 2) := by decide +kernel
theorem dX2_stageKept_153 : decode cX2_stageKept 153 = .ok (.aload_n 0, 1) := by decide +kernel
theorem dX2_stageKept_154 : decode cX2_stageKept 154 = .ok (.getfield 12, 3) := by decide +kernel
theorem dX2_stageKept_157 : decode cX2_stageKept 157 = .ok (.getfield 157, 3) := by decide +kernel
theorem dX2_stageKept_160 : decode cX2_stageKept 160 = .ok (.ladd, 1) := by decide +kernel
theorem dX2_stageKept_161 : decode cX2_stageKept 161 = .ok (.invokestatic 178, 3) := by decide +kernel
theorem dX2_stageKept_164 : decode cX2_stageKept 164 = .ok (.lstore 7, 2) := by decide +kernel
theorem dX2_stageKept_166 : decode cX2_stageKept 166 = .ok (.aload_n 0, 1) := by decide +kernel
theorem dX2_stageKept_167 : decode cX2_stageKept 167 = .ok (.dup, 1) := by decide +kernel
theorem dX2_stageKept_168 : decode cX2_stageKept 168 = .ok (.getfield 86, 3) := by decide +kernel
theorem dX2_stageKept_171 : decode cX2_stageKept 171 = .ok (.iconst 1, 1) := by decide +kernel
theorem dX2_stageKept_172 : decode cX2_stageKept 172 = .ok (.iadd, 1) := by decide +kernel
theorem dX2_stageKept_173 : decode cX2_stageKept 173 = .ok (.putfield 86, 3) := by decide +kernel
theorem dX2_stageKept_176 : decode cX2_stageKept 176 = .ok (.aload_n 0, 1) := by decide +kernel
theorem dX2_stageKept_177 : decode cX2_stageKept 177 = .ok (.getfield 12, 3) := by decide +kernel
theorem dX2_stageKept_180 : decode cX2_stageKept 180 = .ok (.getfield 141, 3) := by decide +kernel
theorem dX2_stageKept_183 : decode cX2_stageKept 183 = .ok (.istore 10, 2) := by decide +kernel
theorem dX2_stageKept_185 : decode cX2_stageKept 185 = .ok (.iinc 11 1, 3) := by decide +kernel
theorem dX2_stageKept_188 : decode cX2_stageKept 188 = .ok (.goto (-118), 3) := by decide +kernel
theorem dX2_stageKept_191 : decode cX2_stageKept 191 = .ok (.aload_n 0, 1) := by decide +kernel
theorem dX2_stageKept_192 : decode cX2_stageKept 192 = .ok (.getfield 52, 3) := by decide +kernel
theorem dX2_stageKept_195 : decode cX2_stageKept 195 = .ok (.aload_n 0, 1) := by decide +kernel
theorem dX2_stageKept_196 : decode cX2_stageKept 196 = .ok (.getfield 69, 3) := by decide +kernel
theorem dX2_stageKept_199 : decode cX2_stageKept 199 = .ok (.aload_n 0, 1) := by decide +kernel
theorem dX2_stageKept_200 : decode cX2_stageKept 200 = .ok (.getfield 86, 3) := by decide +kernel
theorem dX2_stageKept_203 : decode cX2_stageKept 203 = .ok (.aload_n 0, 1) := by decide +kernel
theorem dX2_stageKept_204 : decode cX2_stageKept 204 = .ok (.getfield 86, 3) := by decide +kernel
theorem dX2_stageKept_207 : decode cX2_stageKept 207 = .ok (.ifCond .ne 14, 3) := by decide +kernel
theorem dX2_stageKept_210 : decode cX2_stageKept 210 = .ok (.aload_n 0, 1) := by decide +kernel
theorem dX2_stageKept_211 : decode cX2_stageKept 211 = .ok (.getfield 44, 3) := by decide +kernel
theorem dX2_stageKept_214 : decode cX2_stageKept 214 = .ok (.iload_n 1, 1) := by decide +kernel
theorem dX2_stageKept_215 : decode cX2_stageKept 215 = .ok (.invokestatic 181, 3) := by decide +kernel
theorem dX2_stageKept_218 : decode cX2_stageKept 218 = .ok (.goto 5, 3) := by decide +kernel
theorem dX2_stageKept_221 : decode cX2_stageKept 221 = .ok (.lload 7, 2) := by decide +kernel
theorem dX2_stageKept_223 : decode cX2_stageKept 223 = .ok (.invokestatic 184, 3) := by decide +kernel
theorem dX2_stageKept_226 : decode cX2_stageKept 226 = .ok (.aload_n 0, 1) := by decide +kernel
theorem dX2_stageKept_227 : decode cX2_stageKept 227 = .ok (.getfield 52, 3) := by decide +kernel
theorem dX2_stageKept_230 : decode cX2_stageKept 230 = .ok (.aload_n 0, 1) := by decide +kernel
theorem dX2_stageKept_231 : decode cX2_stageKept 231 = .ok (.getfield 69, 3) := by decide +kernel
theorem dX2_stageKept_234 : decode cX2_stageKept 234 = .ok (.iload 9, 2) := by decide +kernel
theorem dX2_stageKept_236 : decode cX2_stageKept 236 = .ok (.invokestatic 188, 3) := by decide +kernel
theorem dX2_stageKept_239 : decode cX2_stageKept 239 = .ok (.iload 9, 2) := by decide +kernel
theorem dX2_stageKept_241 : decode cX2_stageKept 241 = .ok (.ireturn, 1) := by decide +kernel
theorem dX2_keepStaged_0 : decode cX2_keepStaged 0 = .ok (.aload_n 0, 1) := by decide +kernel
theorem dX2_keepStaged_1 : decode cX2_keepStaged 1 = .ok (.getfield 72, 3) := by decide +kernel
theorem dX2_keepStaged_4 : decode cX2_keepStaged 4 = .ok (.ifCond .eq 30, 3) := by decide +kernel
theorem dX2_keepStaged_7 : decode cX2_keepStaged 7 = .ok (.aload_n 0, 1) := by decide +kernel
theorem dX2_keepStaged_8 : decode cX2_keepStaged 8 = .ok (.getfield 22, 3) := by decide +kernel
theorem dX2_keepStaged_11 : decode cX2_keepStaged 11 = .ok (.aload_n 0, 1) := by decide +kernel
theorem dX2_keepStaged_12 : decode cX2_keepStaged 12 = .ok (.getfield 72, 3) := by decide +kernel
theorem dX2_keepStaged_15 : decode cX2_keepStaged 15 = .ok (.iconst 1, 1) := by decide +kernel
theorem dX2_keepStaged_16 : decode cX2_keepStaged 16 = .ok (.isub, 1) := by decide +kernel
theorem dX2_keepStaged_17 : decode cX2_keepStaged 17 = .ok (.iaload, 1) := by decide +kernel
theorem dX2_keepStaged_18 : decode cX2_keepStaged 18 = .ok (.iload_n 1, 1) := by decide +kernel
theorem dX2_keepStaged_19 : decode cX2_keepStaged 19 = .ok (.iadd, 1) := by decide +kernel
theorem dX2_keepStaged_20 : decode cX2_keepStaged 20 = .ok (.aload_n 0, 1) := by decide +kernel
theorem dX2_keepStaged_21 : decode cX2_keepStaged 21 = .ok (.getfield 28, 3) := by decide +kernel
theorem dX2_keepStaged_24 : decode cX2_keepStaged 24 = .ok (.getfield 192, 3) := by decide +kernel
theorem dX2_keepStaged_27 : decode cX2_keepStaged 27 = .ok (.sipush 1024, 3) := by decide +kernel
theorem dX2_keepStaged_30 : decode cX2_keepStaged 30 = .ok (.imul, 1) := by decide +kernel
theorem dX2_keepStaged_31 : decode cX2_keepStaged 31 = .ok (.if_icmp .le 33, 3) := by decide +kernel
theorem dX2_keepStaged_34 : decode cX2_keepStaged 34 = .ok (.aload_n 0, 1) := by decide +kernel
theorem dX2_keepStaged_35 : decode cX2_keepStaged 35 = .ok (.getfield 22, 3) := by decide +kernel
theorem dX2_keepStaged_38 : decode cX2_keepStaged 38 = .ok (.aload_n 0, 1) := by decide +kernel
theorem dX2_keepStaged_39 : decode cX2_keepStaged 39 = .ok (.getfield 72, 3) := by decide +kernel
theorem dX2_keepStaged_42 : decode cX2_keepStaged 42 = .ok (.iconst 0, 1) := by decide +kernel
theorem dX2_keepStaged_43 : decode cX2_keepStaged 43 = .ok (.iastore, 1) := by decide +kernel
theorem dX2_keepStaged_44 : decode cX2_keepStaged 44 = .ok (.aload_n 0, 1) := by decide +kernel
theorem dX2_keepStaged_45 : decode cX2_keepStaged 45 = .ok (.getfield 25, 3) := by decide +kernel
theorem dX2_keepStaged_48 : decode cX2_keepStaged 48 = .ok (.aload_n 0, 1) := by decide +kernel
theorem dX2_keepStaged_49 : decode cX2_keepStaged 49 = .ok (.getfield 72, 3) := by decide +kernel
theorem dX2_keepStaged_52 : decode cX2_keepStaged 52 = .ok (.iconst 0, 1) := by decide +kernel
theorem dX2_keepStaged_53 : decode cX2_keepStaged 53 = .ok (.iastore, 1) := by decide +kernel
theorem dX2_keepStaged_54 : decode cX2_keepStaged 54 = .ok (.aload_n 0, 1) := by decide +kernel
theorem dX2_keepStaged_55 : decode cX2_keepStaged 55 = .ok (.dup, 1) := by decide +kernel
theorem dX2_keepStaged_56 : decode cX2_keepStaged 56 = .ok (.getfield 72, 3) := by decide +kernel
theorem dX2_keepStaged_59 : decode cX2_keepStaged 59 = .ok (.iconst 1, 1) := by decide +kernel
theorem dX2_keepStaged_60 : decode cX2_keepStaged 60 = .ok (.iadd, 1) := by decide +kernel
theorem dX2_keepStaged_61 : decode cX2_keepStaged 61 = .ok (.putfield 72, 3) := by decide +kernel
theorem dX2_keepStaged_64 : decode cX2_keepStaged 64 = .ok (.aload_n 0, 1) := by decide +kernel
theorem dX2_keepStaged_65 : decode cX2_keepStaged 65 = .ok (.getfield 22, 3) := by decide +kernel
theorem dX2_keepStaged_68 : decode cX2_keepStaged 68 = .ok (.aload_n 0, 1) := by decide +kernel
theorem dX2_keepStaged_69 : decode cX2_keepStaged 69 = .ok (.getfield 72, 3) := by decide +kernel
theorem dX2_keepStaged_72 : decode cX2_keepStaged 72 = .ok (.iconst 1, 1) := by decide +kernel
theorem dX2_keepStaged_73 : decode cX2_keepStaged 73 = .ok (.isub, 1) := by decide +kernel
theorem dX2_keepStaged_74 : decode cX2_keepStaged 74 = .ok (.dup2, 1) := by decide +kernel
theorem dX2_keepStaged_75 : decode cX2_keepStaged 75 = .ok (.iaload, 1) := by decide +kernel
theorem dX2_keepStaged_76 : decode cX2_keepStaged 76 = .ok (.iload_n 1, 1) := by decide +kernel
theorem dX2_keepStaged_77 : decode cX2_keepStaged 77 = .ok (.iadd, 1) := by decide +kernel
theorem dX2_keepStaged_78 : decode cX2_keepStaged 78 = .ok (.iastore, 1) := by decide +kernel
theorem dX2_keepStaged_79 : decode cX2_keepStaged 79 = .ok (.aload_n 0, 1) := by decide +kernel
theorem dX2_keepStaged_80 : decode cX2_keepStaged 80 = .ok (.getfield 25, 3) := by decide +kernel
theorem dX2_keepStaged_83 : decode cX2_keepStaged 83 = .ok (.aload_n 0, 1) := by decide +kernel
theorem dX2_keepStaged_84 : decode cX2_keepStaged 84 = .ok (.getfield 72, 3) := by decide +kernel
theorem dX2_keepStaged_87 : decode cX2_keepStaged 87 = .ok (.iconst 1, 1) := by decide +kernel
theorem dX2_keepStaged_88 : decode cX2_keepStaged 88 = .ok (.isub, 1) := by decide +kernel
theorem dX2_keepStaged_89 : decode cX2_keepStaged 89 = .ok (.dup2, 1) := by decide +kernel
theorem dX2_keepStaged_90 : decode cX2_keepStaged 90 = .ok (.iaload, 1) := by decide +kernel
theorem dX2_keepStaged_91 : decode cX2_keepStaged 91 = .ok (.iconst 1, 1) := by decide +kernel
theorem dX2_keepStaged_92 : decode cX2_keepStaged 92 = .ok (.iadd, 1) := by decide +kernel
theorem dX2_keepStaged_93 : decode cX2_keepStaged 93 = .ok (.iastore, 1) := by decide +kernel
theorem dX2_keepStaged_94 : decode cX2_keepStaged 94 = .ok (.aload_n 0, 1) := by decide +kernel
theorem dX2_keepStaged_95 : decode cX2_keepStaged 95 = .ok (.dup, 1) := by decide +kernel
theorem dX2_keepStaged_96 : decode cX2_keepStaged 96 = .ok (.getfield 69, 3) := by decide +kernel
theorem dX2_keepStaged_99 : decode cX2_keepStaged 99 = .ok (.iload_n 1, 1) := by decide +kernel
theorem dX2_keepStaged_100 : decode cX2_keepStaged 100 = .ok (.iadd, 1) := by decide +kernel
theorem dX2_keepStaged_101 : decode cX2_keepStaged 101 = .ok (.putfield 69, 3) := by decide +kernel
theorem dX2_keepStaged_104 : decode cX2_keepStaged 104 = .ok (.return_, 1) := by decide +kernel
theorem dX2_findRoom_0 : decode cX2_findRoom 0 = .ok (.aload_n 0, 1) := by decide +kernel
theorem dX2_findRoom_1 : decode cX2_findRoom 1 = .ok (.getfield 28, 3) := by decide +kernel
theorem dX2_findRoom_4 : decode cX2_findRoom 4 = .ok (.invokevirtual 195, 3) := by decide +kernel
theorem dX2_findRoom_7 : decode cX2_findRoom 7 = .ok (.iconst 0, 1) := by decide +kernel
theorem dX2_findRoom_8 : decode cX2_findRoom 8 = .ok (.istore_n 1, 1) := by decide +kernel
theorem dX2_findRoom_9 : decode cX2_findRoom 9 = .ok (.iload_n 1, 1) := by decide +kernel
theorem dX2_findRoom_10 : decode cX2_findRoom 10 = .ok (.aload_n 0, 1) := by decide +kernel
theorem dX2_findRoom_11 : decode cX2_findRoom 11 = .ok (.getfield 72, 3) := by decide +kernel
theorem dX2_findRoom_14 : decode cX2_findRoom 14 = .ok (.if_icmp .ge 34, 3) := by decide +kernel
theorem dX2_findRoom_17 : decode cX2_findRoom 17 = .ok (.aload_n 0, 1) := by decide +kernel
theorem dX2_findRoom_18 : decode cX2_findRoom 18 = .ok (.getfield 18, 3) := by decide +kernel
theorem dX2_findRoom_21 : decode cX2_findRoom 21 = .ok (.iload_n 1, 1) := by decide +kernel
theorem dX2_findRoom_22 : decode cX2_findRoom 22 = .ok (.aload_n 0, 1) := by decide +kernel
theorem dX2_findRoom_23 : decode cX2_findRoom 23 = .ok (.getfield 28, 3) := by decide +kernel
theorem dX2_findRoom_26 : decode cX2_findRoom 26 = .ok (.invokevirtual 198, 3) := by decide +kernel
theorem dX2_findRoom_29 : decode cX2_findRoom 29 = .ok (.iastore, 1) := by decide +kernel
theorem dX2_findRoom_30 : decode cX2_findRoom 30 = .ok (.aload_n 0, 1) := by decide +kernel
theorem dX2_findRoom_31 : decode cX2_findRoom 31 = .ok (.getfield 18, 3) := by decide +kernel
theorem dX2_findRoom_34 : decode cX2_findRoom 34 = .ok (.iload_n 1, 1) := by decide +kernel
theorem dX2_findRoom_35 : decode cX2_findRoom 35 = .ok (.iaload, 1) := by decide +kernel
theorem dX2_findRoom_36 : decode cX2_findRoom 36 = .ok (.iconst (-1), 1) := by decide +kernel
theorem dX2_findRoom_37 : decode cX2_findRoom 37 = .ok (.if_icmp .ne 5, 3) := by decide +kernel
theorem dX2_findRoom_40 : decode cX2_findRoom 40 = .ok (.iconst 0, 1) := by decide +kernel
theorem dX2_findRoom_41 : decode cX2_findRoom 41 = .ok (.ireturn, 1) := by decide +kernel
theorem dX2_findRoom_42 : decode cX2_findRoom 42 = .ok (.iinc 1 1, 3) := by decide +kernel
theorem dX2_findRoom_45 : decode cX2_findRoom 45 = .ok (.goto (-36), 3) := by decide +kernel
theorem dX2_findRoom_48 : decode cX2_findRoom 48 = .ok (.iconst 1, 1) := by decide +kernel
theorem dX2_findRoom_49 : decode cX2_findRoom 49 = .ok (.ireturn, 1) := by decide +kernel
theorem dX2_write_0 : decode cX2_write 0 = .ok (.iconst 0, 1) := by decide +kernel
theorem dX2_write_1 : decode cX2_write 1 = .ok (.istore_n 2, 1) := by decide +kernel
theorem dX2_write_2 : decode cX2_write 2 = .ok (.iconst 0, 1) := by decide +kernel
theorem dX2_write_3 : decode cX2_write 3 = .ok (.istore_n 3, 1) := by decide +kernel
theorem dX2_write_4 : decode cX2_write 4 = .ok (.iload_n 3, 1) := by decide +kernel
theorem dX2_write_5 : decode cX2_write 5 = .ok (.aload_n 0, 1) := by decide +kernel
theorem dX2_write_6 : decode cX2_write 6 = .ok (.getfield 72, 3) := by decide +kernel
theorem dX2_write_9 : decode cX2_write 9 = .ok (.if_icmp .ge 54, 3) := by decide +kernel
theorem dX2_write_12 : decode cX2_write 12 = .ok (.aload_n 0, 1) := by decide +kernel
theorem dX2_write_13 : decode cX2_write 13 = .ok (.getfield 28, 3) := by decide +kernel
theorem dX2_write_16 : decode cX2_write 16 = .ok (.getfield 32, 3) := by decide +kernel
theorem dX2_write_19 : decode cX2_write 19 = .ok (.aload_n 0, 1) := by decide +kernel
theorem dX2_write_20 : decode cX2_write 20 = .ok (.getfield 18, 3) := by decide +kernel
theorem dX2_write_23 : decode cX2_write 23 = .ok (.iload_n 3, 1) := by decide +kernel
theorem dX2_write_24 : decode cX2_write 24 = .ok (.iaload, 1) := by decide +kernel
theorem dX2_write_25 : decode cX2_write 25 = .ok (.sipush 1024, 3) := by decide +kernel
theorem dX2_write_28 : decode cX2_write 28 = .ok (.imul, 1) := by decide +kernel
theorem dX2_write_29 : decode cX2_write 29 = .ok (.aload_n 0, 1) := by decide +kernel
theorem dX2_write_30 : decode cX2_write 30 = .ok (.getfield 52, 3) := by decide +kernel
theorem dX2_write_33 : decode cX2_write 33 = .ok (.iload_n 2, 1) := by decide +kernel
theorem dX2_write_34 : decode cX2_write 34 = .ok (.aload_n 0, 1) := by decide +kernel
theorem dX2_write_35 : decode cX2_write 35 = .ok (.getfield 22, 3) := by decide +kernel
theorem dX2_write_38 : decode cX2_write 38 = .ok (.iload_n 3, 1) := by decide +kernel
theorem dX2_write_39 : decode cX2_write 39 = .ok (.iaload, 1) := by decide +kernel
theorem dX2_write_40 : decode cX2_write 40 = .ok (.invokevirtual 201, 3) := by decide +kernel
theorem dX2_write_43 : decode cX2_write 43 = .ok (.ifCond .ne 5, 3) := by decide +kernel
theorem dX2_write_46 : decode cX2_write 46 = .ok (.iconst 0, 1) := by decide +kernel
theorem dX2_write_47 : decode cX2_write 47 = .ok (.ireturn, 1) := by decide +kernel
theorem dX2_write_48 : decode cX2_write 48 = .ok (.iload_n 2, 1) := by decide +kernel
theorem dX2_write_49 : decode cX2_write 49 = .ok (.aload_n 0, 1) := by decide +kernel
theorem dX2_write_50 : decode cX2_write 50 = .ok (.getfield 22, 3) := by decide +kernel
theorem dX2_write_53 : decode cX2_write 53 = .ok (.iload_n 3, 1) := by decide +kernel
theorem dX2_write_54 : decode cX2_write 54 = .ok (.iaload, 1) := by decide +kernel
theorem dX2_write_55 : decode cX2_write 55 = .ok (.iadd, 1) := by decide +kernel
theorem dX2_write_56 : decode cX2_write 56 = .ok (.istore_n 2, 1) := by decide +kernel
theorem dX2_write_57 : decode cX2_write 57 = .ok (.iinc 3 1, 3) := by decide +kernel
theorem dX2_write_60 : decode cX2_write 60 = .ok (.goto (-56), 3) := by decide +kernel
theorem dX2_write_63 : decode cX2_write 63 = .ok (.aload_n 0, 1) := by decide +kernel
theorem dX2_write_64 : decode cX2_write 64 = .ok (.aload_n 1, 1) := by decide +kernel
theorem dX2_write_65 : decode cX2_write 65 = .ok (.invokevirtual 204, 3) := by decide +kernel
theorem dX2_write_68 : decode cX2_write 68 = .ok (.aload_n 0, 1) := by decide +kernel
theorem dX2_write_69 : decode cX2_write 69 = .ok (.getfield 28, 3) := by decide +kernel
theorem dX2_write_72 : decode cX2_write 72 = .ok (.aload_n 1, 1) := by decide +kernel
theorem dX2_write_73 : decode cX2_write 73 = .ok (.invokevirtual 207, 3) := by decide +kernel
theorem dX2_write_76 : decode cX2_write 76 = .ok (.ireturn, 1) := by decide +kernel
theorem dX2_replaceClosed_0 : decode cX2_replaceClosed 0 = .ok (.aload_n 1, 1) := by decide +kernel
theorem dX2_replaceClosed_1 : decode cX2_replaceClosed 1 = .ok (.getfield 55, 3) := by decide +kernel
theorem dX2_replaceClosed_4 : decode cX2_replaceClosed 4 = .ok (.iconst 1, 1) := by decide +kernel
theorem dX2_replaceClosed_5 : decode cX2_replaceClosed 5 = .ok (.isub, 1) := by decide +kernel
theorem dX2_replaceClosed_6 : decode cX2_replaceClosed 6 = .ok (.istore_n 2, 1) := by decide +kernel
theorem dX2_replaceClosed_7 : decode cX2_replaceClosed 7 = .ok (.aload_n 1, 1) := by decide +kernel
theorem dX2_replaceClosed_8 : decode cX2_replaceClosed 8 = .ok (.getfield 210, 3) := by decide +kernel
theorem dX2_replaceClosed_11 : decode cX2_replaceClosed 11 = .ok (.iload_n 2, 1) := by decide +kernel
theorem dX2_replaceClosed_12 : decode cX2_replaceClosed 12 = .ok (.iaload, 1) := by decide +kernel
theorem dX2_replaceClosed_13 : decode cX2_replaceClosed 13 = .ok (.istore_n 3, 1) := by decide +kernel
theorem dX2_replaceClosed_14 : decode cX2_replaceClosed 14 = .ok (.aload_n 1, 1) := by decide +kernel
theorem dX2_replaceClosed_15 : decode cX2_replaceClosed 15 = .ok (.getfield 64, 3) := by decide +kernel
theorem dX2_replaceClosed_18 : decode cX2_replaceClosed 18 = .ok (.iload_n 2, 1) := by decide +kernel
theorem dX2_replaceClosed_19 : decode cX2_replaceClosed 19 = .ok (.iaload, 1) := by decide +kernel
theorem dX2_replaceClosed_20 : decode cX2_replaceClosed 20 = .ok (.istore 4, 2) := by decide +kernel
theorem dX2_replaceClosed_22 : decode cX2_replaceClosed 22 = .ok (.aload_n 1, 1) := by decide +kernel
theorem dX2_replaceClosed_23 : decode cX2_replaceClosed 23 = .ok (.getfield 61, 3) := by decide +kernel
theorem dX2_replaceClosed_26 : decode cX2_replaceClosed 26 = .ok (.iload 4, 2) := by decide +kernel
theorem dX2_replaceClosed_28 : decode cX2_replaceClosed 28 = .ok (.isub, 1) := by decide +kernel
theorem dX2_replaceClosed_29 : decode cX2_replaceClosed 29 = .ok (.istore 5, 2) := by decide +kernel
theorem dX2_replaceClosed_31 : decode cX2_replaceClosed 31 = .ok (.aload_n 1, 1) := by decide +kernel
theorem dX2_replaceClosed_32 : decode cX2_replaceClosed 32 = .ok (.invokevirtual 211, 3) := by decide +kernel
theorem dX2_replaceClosed_35 : decode cX2_replaceClosed 35 = .ok (.iconst 0, 1) := by decide +kernel
theorem dX2_replaceClosed_36 : decode cX2_replaceClosed 36 = .ok (.istore 6, 2) := by decide +kernel
theorem dX2_replaceClosed_38 : decode cX2_replaceClosed 38 = .ok (.iconst 0, 1) := by decide +kernel
theorem dX2_replaceClosed_39 : decode cX2_replaceClosed 39 = .ok (.istore 7, 2) := by decide +kernel
theorem dX2_replaceClosed_41 : decode cX2_replaceClosed 41 = .ok (.iload 7, 2) := by decide +kernel
theorem dX2_replaceClosed_43 : decode cX2_replaceClosed 43 = .ok (.aload_n 0, 1) := by decide +kernel
theorem dX2_replaceClosed_44 : decode cX2_replaceClosed 44 = .ok (.getfield 72, 3) := by decide +kernel
theorem dX2_replaceClosed_47 : decode cX2_replaceClosed 47 = .ok (.if_icmp .ge 66, 3) := by decide +kernel
theorem dX2_replaceClosed_50 : decode cX2_replaceClosed 50 = .ok (.aload_n 1, 1) := by decide +kernel
theorem dX2_replaceClosed_51 : decode cX2_replaceClosed 51 = .ok (.aload_n 0, 1) := by decide +kernel
theorem dX2_replaceClosed_52 : decode cX2_replaceClosed 52 = .ok (.getfield 18, 3) := by decide +kernel
theorem dX2_replaceClosed_55 : decode cX2_replaceClosed 55 = .ok (.iload 7, 2) := by decide +kernel
theorem dX2_replaceClosed_57 : decode cX2_replaceClosed 57 = .ok (.iaload, 1) := by decide +kernel
theorem dX2_replaceClosed_58 : decode cX2_replaceClosed 58 = .ok (.invokevirtual 214, 3) := by decide +kernel
theorem dX2_replaceClosed_61 : decode cX2_replaceClosed 61 = .ok (.iconst 0, 1) := by decide +kernel
theorem dX2_replaceClosed_62 : decode cX2_replaceClosed 62 = .ok (.istore 8, 2) := by decide +kernel
theorem dX2_replaceClosed_64 : decode cX2_replaceClosed 64 = .ok (.iload 8, 2) := by decide +kernel
theorem dX2_replaceClosed_66 : decode cX2_replaceClosed 66 = .ok (.aload_n 0, 1) := by decide +kernel
theorem dX2_replaceClosed_67 : decode cX2_replaceClosed 67 = .ok (.getfield 25, 3) := by decide +kernel
theorem dX2_replaceClosed_70 : decode cX2_replaceClosed 70 = .ok (.iload 7, 2) := by decide +kernel
theorem dX2_replaceClosed_72 : decode cX2_replaceClosed 72 = .ok (.iaload, 1) := by decide +kernel
theorem dX2_replaceClosed_73 : decode cX2_replaceClosed 73 = .ok (.if_icmp .ge 34, 3) := by decide +kernel
theorem dX2_replaceClosed_76 : decode cX2_replaceClosed 76 = .ok (.aload_n 0, 1) := by decide +kernel
theorem dX2_replaceClosed_77 : decode cX2_replaceClosed 77 = .ok (.getfield 52, 3) := by decide +kernel
theorem dX2_replaceClosed_80 : decode cX2_replaceClosed 80 = .ok (.iload 6, 2) := by decide +kernel
theorem dX2_replaceClosed_82 : decode cX2_replaceClosed 82 = .ok (.invokestatic 126, 3) := by decide +kernel
theorem dX2_replaceClosed_85 : decode cX2_replaceClosed 85 = .ok (.istore 9, 2) := by decide +kernel
theorem dX2_replaceClosed_87 : decode cX2_replaceClosed 87 = .ok (.aload_n 1, 1) := by decide +kernel
theorem dX2_replaceClosed_88 : decode cX2_replaceClosed 88 = .ok (.iload 9, 2) := by decide +kernel
theorem dX2_replaceClosed_90 : decode cX2_replaceClosed 90 = .ok (.invokevirtual 217, 3) := by decide +kernel
theorem dX2_replaceClosed_93 : decode cX2_replaceClosed 93 = .ok (.pop, 1) := by decide +kernel
theorem dX2_replaceClosed_94 : decode cX2_replaceClosed 94 = .ok (.iload 6, 2) := by decide +kernel
theorem dX2_replaceClosed_96 : decode cX2_replaceClosed 96 = .ok (.iload 9, 2) := by decide +kernel
theorem dX2_replaceClosed_98 : decode cX2_replaceClosed 98 = .ok (.iadd, 1) := by decide +kernel
theorem dX2_replaceClosed_99 : decode cX2_replaceClosed 99 = .ok (.istore 6, 2) := by decide +kernel
theorem dX2_replaceClosed_101 : decode cX2_replaceClosed 101 = .ok (.iinc 8 1, 3) := by decide +kernel
theorem dX2_replaceClosed_104 : decode cX2_replaceClosed 104 = .ok (.goto (-40), 3) := by decide +kernel
theorem dX2_replaceClosed_107 : decode cX2_replaceClosed 107 = .ok (.iinc 7 1, 3) := by decide +kernel
theorem dX2_replaceClosed_110 : decode cX2_replaceClosed 110 = .ok (.goto (-69), 3) := by decide +kernel
theorem dX2_replaceClosed_113 : decode cX2_replaceClosed 113 = .ok (.aload_n 1, 1) := by decide +kernel
theorem dX2_replaceClosed_114 : decode cX2_replaceClosed 114 = .ok (.iload_n 3, 1) := by decide +kernel
theorem dX2_replaceClosed_115 : decode cX2_replaceClosed 115 = .ok (.invokevirtual 214, 3) := by decide +kernel
theorem dX2_replaceClosed_118 : decode cX2_replaceClosed 118 = .ok (.iconst 0, 1) := by decide +kernel
theorem dX2_replaceClosed_119 : decode cX2_replaceClosed 119 = .ok (.istore 7, 2) := by decide +kernel
theorem dX2_replaceClosed_121 : decode cX2_replaceClosed 121 = .ok (.iload 7, 2) := by decide +kernel
theorem dX2_replaceClosed_123 : decode cX2_replaceClosed 123 = .ok (.iload 4, 2) := by decide +kernel
theorem dX2_replaceClosed_125 : decode cX2_replaceClosed 125 = .ok (.if_icmp .ge 31, 3) := by decide +kernel
theorem dX2_replaceClosed_128 : decode cX2_replaceClosed 128 = .ok (.aload_n 1, 1) := by decide +kernel
theorem dX2_replaceClosed_129 : decode cX2_replaceClosed 129 = .ok (.aload_n 0, 1) := by decide +kernel
theorem dX2_replaceClosed_130 : decode cX2_replaceClosed 130 = .ok (.getfield 44, 3) := by decide +kernel
theorem dX2_replaceClosed_133 : decode cX2_replaceClosed 133 = .ok (.aload_n 1, 1) := by decide +kernel
theorem dX2_replaceClosed_134 : decode cX2_replaceClosed 134 = .ok (.getfield 73, 3) := by decide +kernel
theorem dX2_replaceClosed_137 : decode cX2_replaceClosed 137 = .ok (.iload 5, 2) := by decide +kernel
theorem dX2_replaceClosed_139 : decode cX2_replaceClosed 139 = .ok (.iload 7, 2) := by decide +kernel
theorem dX2_replaceClosed_141 : decode cX2_replaceClosed 141 = .ok (.iadd, 1) := by decide +kernel
theorem dX2_replaceClosed_142 : decode cX2_replaceClosed 142 = .ok (.iaload, 1) := by decide +kernel
theorem dX2_replaceClosed_143 : decode cX2_replaceClosed 143 = .ok (.invokestatic 126, 3) := by decide +kernel
theorem dX2_replaceClosed_146 : decode cX2_replaceClosed 146 = .ok (.invokevirtual 217, 3) := by decide +kernel
theorem dX2_replaceClosed_149 : decode cX2_replaceClosed 149 = .ok (.pop, 1) := by decide +kernel
theorem dX2_replaceClosed_150 : decode cX2_replaceClosed 150 = .ok (.iinc 7 1, 3) := by decide +kernel
theorem dX2_replaceClosed_153 : decode cX2_replaceClosed 153 = .ok (.goto (-32), 3) := by decide +kernel
theorem dX2_replaceClosed_156 : decode cX2_replaceClosed 156 = .ok (.return_, 1) := by decide +kernel
theorem dX3_init_0 : decode cX3_init 0 = .ok (.aload_n 0, 1) := by decide +kernel
theorem dX3_init_1 : decode cX3_init 1 = .ok (.invokespecial 3, 3) := by decide +kernel
theorem dX3_init_4 : decode cX3_init 4 = .ok (.aload_n 0, 1) := by decide +kernel
theorem dX3_init_5 : decode cX3_init 5 = .ok (.iconst (-1), 1) := by decide +kernel
theorem dX3_init_6 : decode cX3_init 6 = .ok (.putfield 9, 3) := by decide +kernel
theorem dX3_init_9 : decode cX3_init 9 = .ok (.aload_n 0, 1) := by decide +kernel
theorem dX3_init_10 : decode cX3_init 10 = .ok (.iload_n 1, 1) := by decide +kernel
theorem dX3_init_11 : decode cX3_init 11 = .ok (.sipush 1024, 3) := by decide +kernel
theorem dX3_init_14 : decode cX3_init 14 = .ok (.imul, 1) := by decide +kernel
theorem dX3_init_15 : decode cX3_init 15 = .ok (.newarray .byte, 2) := by decide +kernel
theorem dX3_init_17 : decode cX3_init 17 = .ok (.putfield 15, 3) := by decide +kernel
theorem dX3_init_20 : decode cX3_init 20 = .ok (.return_, 1) := by decide +kernel
theorem dX3_blocks_0 : decode cX3_blocks 0 = .ok (.aload_n 0, 1) := by decide +kernel
theorem dX3_blocks_1 : decode cX3_blocks 1 = .ok (.getfield 15, 3) := by decide +kernel
theorem dX3_blocks_4 : decode cX3_blocks 4 = .ok (.arraylength, 1) := by decide +kernel
theorem dX3_blocks_5 : decode cX3_blocks 5 = .ok (.sipush 1024, 3) := by decide +kernel
theorem dX3_blocks_8 : decode cX3_blocks 8 = .ok (.idiv, 1) := by decide +kernel
theorem dX3_blocks_9 : decode cX3_blocks 9 = .ok (.ireturn, 1) := by decide +kernel
theorem dX3_write_0 : decode cX3_write 0 = .ok (.iconst 0, 1) := by decide +kernel
theorem dX3_write_1 : decode cX3_write 1 = .ok (.istore 5, 2) := by decide +kernel
theorem dX3_write_3 : decode cX3_write 3 = .ok (.iload 5, 2) := by decide +kernel
theorem dX3_write_5 : decode cX3_write 5 = .ok (.iload 4, 2) := by decide +kernel
theorem dX3_write_7 : decode cX3_write 7 = .ok (.if_icmp .ge 103, 3) := by decide +kernel
theorem dX3_write_10 : decode cX3_write 10 = .ok (.aload_n 0, 1) := by decide +kernel
theorem dX3_write_11 : decode cX3_write 11 = .ok (.getfield 19, 3) := by decide +kernel
theorem dX3_write_14 : decode cX3_write 14 = .ok (.ifCond .ne 96, 3) := by decide +kernel
theorem dX3_write_17 : decode cX3_write 17 = .ok (.iload 4, 2) := by decide +kernel
theorem dX3_write_19 : decode cX3_write 19 = .ok (.iload 5, 2) := by decide +kernel
theorem dX3_write_21 : decode cX3_write 21 = .ok (.isub, 1) := by decide +kernel
theorem dX3_write_22 : decode cX3_write 22 = .ok (.sipush 1024, 3) := by decide +kernel
theorem dX3_write_25 : decode cX3_write 25 = .ok (.iload_n 1, 1) := by decide +kernel
theorem dX3_write_26 : decode cX3_write 26 = .ok (.iload 5, 2) := by decide +kernel
theorem dX3_write_28 : decode cX3_write 28 = .ok (.iadd, 1) := by decide +kernel
theorem dX3_write_29 : decode cX3_write 29 = .ok (.sipush 1024, 3) := by decide +kernel
theorem dX3_write_32 : decode cX3_write 32 = .ok (.irem, 1) := by decide +kernel
theorem dX3_write_33 : decode cX3_write 33 = .ok (.isub, 1) := by decide +kernel
theorem dX3_write_34 : decode cX3_write 34 = .ok (.invokestatic 23, 3) := by decide +kernel
theorem dX3_write_37 : decode cX3_write 37 = .ok (.istore 6, 2) := by decide +kernel
theorem dX3_write_39 : decode cX3_write 39 = .ok (.aload_n 2, 1) := by decide +kernel
theorem dX3_write_40 : decode cX3_write 40 = .ok (.iload_n 3, 1) := by decide +kernel
theorem dX3_write_41 : decode cX3_write 41 = .ok (.iload 5, 2) := by decide +kernel
theorem dX3_write_43 : decode cX3_write 43 = .ok (.iadd, 1) := by decide +kernel
theorem dX3_write_44 : decode cX3_write 44 = .ok (.aload_n 0, 1) := by decide +kernel
theorem dX3_write_45 : decode cX3_write 45 = .ok (.getfield 15, 3) := by decide +kernel
theorem dX3_write_48 : decode cX3_write 48 = .ok (.iload_n 1, 1) := by decide +kernel
theorem dX3_write_49 : decode cX3_write 49 = .ok (.iload 5, 2) := by decide +kernel
theorem dX3_write_51 : decode cX3_write 51 = .ok (.iadd, 1) := by decide +kernel
theorem dX3_write_52 : decode cX3_write 52 = .ok (.iload 6, 2) := by decide +kernel
theorem dX3_write_54 : decode cX3_write 54 = .ok (.invokestatic 29, 3) := by decide +kernel
theorem dX3_write_57 : decode cX3_write 57 = .ok (.iload 5, 2) := by decide +kernel
theorem dX3_write_59 : decode cX3_write 59 = .ok (.iload 6, 2) := by decide +kernel
theorem dX3_write_61 : decode cX3_write 61 = .ok (.iadd, 1) := by decide +kernel
theorem dX3_write_62 : decode cX3_write 62 = .ok (.istore 5, 2) := by decide +kernel
theorem dX3_write_64 : decode cX3_write 64 = .ok (.aload_n 0, 1) := by decide +kernel
theorem dX3_write_65 : decode cX3_write 65 = .ok (.dup, 1) := by decide +kernel
theorem dX3_write_66 : decode cX3_write 66 = .ok (.getfield 35, 3) := by decide +kernel
theorem dX3_write_69 : decode cX3_write 69 = .ok (.iconst 1, 1) := by decide +kernel
theorem dX3_write_70 : decode cX3_write 70 = .ok (.iadd, 1) := by decide +kernel
theorem dX3_write_71 : decode cX3_write 71 = .ok (.putfield 35, 3) := by decide +kernel
theorem dX3_write_74 : decode cX3_write 74 = .ok (.aload_n 0, 1) := by decide +kernel
theorem dX3_write_75 : decode cX3_write 75 = .ok (.getfield 9, 3) := by decide +kernel
theorem dX3_write_78 : decode cX3_write 78 = .ok (.ifCond .le 29, 3) := by decide +kernel
theorem dX3_write_81 : decode cX3_write 81 = .ok (.aload_n 0, 1) := by decide +kernel
theorem dX3_write_82 : decode cX3_write 82 = .ok (.dup, 1) := by decide +kernel
theorem dX3_write_83 : decode cX3_write 83 = .ok (.getfield 9, 3) := by decide +kernel
theorem dX3_write_86 : decode cX3_write 86 = .ok (.iconst 1, 1) := by decide +kernel
theorem dX3_write_87 : decode cX3_write 87 = .ok (.isub, 1) := by decide +kernel
theorem dX3_write_88 : decode cX3_write 88 = .ok (.putfield 9, 3) := by decide +kernel
theorem dX3_write_91 : decode cX3_write 91 = .ok (.aload_n 0, 1) := by decide +kernel
theorem dX3_write_92 : decode cX3_write 92 = .ok (.aload_n 0, 1) := by decide +kernel
theorem dX3_write_93 : decode cX3_write 93 = .ok (.getfield 9, 3) := by decide +kernel
theorem dX3_write_96 : decode cX3_write 96 = .ok (.ifCond .ne 7, 3) := by decide +kernel
theorem dX3_write_99 : decode cX3_write 99 = .ok (.iconst 1, 1) := by decide +kernel
theorem dX3_write_100 : decode cX3_write 100 = .ok (.goto 4, 3) := by decide +kernel
theorem dX3_write_103 : decode cX3_write 103 = .ok (.iconst 0, 1) := by decide +kernel
theorem dX3_write_104 : decode cX3_write 104 = .ok (.putfield 19, 3) := by decide +kernel
theorem dX3_write_107 : decode cX3_write 107 = .ok (.goto (-104), 3) := by decide +kernel
theorem dX3_write_110 : decode cX3_write 110 = .ok (.aload_n 0, 1) := by decide +kernel
theorem dX3_write_111 : decode cX3_write 111 = .ok (.getfield 19, 3) := by decide +kernel
theorem dX3_write_114 : decode cX3_write 114 = .ok (.ifCond .ne 7, 3) := by decide +kernel
theorem dX3_write_117 : decode cX3_write 117 = .ok (.iconst 1, 1) := by decide +kernel
theorem dX3_write_118 : decode cX3_write 118 = .ok (.goto 4, 3) := by decide +kernel
theorem dX3_write_121 : decode cX3_write 121 = .ok (.iconst 0, 1) := by decide +kernel
theorem dX3_write_122 : decode cX3_write 122 = .ok (.ireturn, 1) := by decide +kernel
theorem dX4_init_0 : decode cX4_init 0 = .ok (.aload_n 0, 1) := by decide +kernel
theorem dX4_init_1 : decode cX4_init 1 = .ok (.invokespecial 3, 3) := by decide +kernel
theorem dX4_init_4 : decode cX4_init 4 = .ok (.aload_n 0, 1) := by decide +kernel
theorem dX4_init_5 : decode cX4_init 5 = .ok (.sipush 16000, 3) := by decide +kernel
theorem dX4_init_8 : decode cX4_init 8 = .ok (.newarray .byte, 2) := by decide +kernel
theorem dX4_init_10 : decode cX4_init 10 = .ok (.putfield 9, 3) := by decide +kernel
theorem dX4_init_13 : decode cX4_init 13 = .ok (.return_, 1) := by decide +kernel
theorem dX4_hasRoom_0 : decode cX4_hasRoom 0 = .ok (.aload_n 0, 1) := by decide +kernel
theorem dX4_hasRoom_1 : decode cX4_hasRoom 1 = .ok (.getfield 15, 3) := by decide +kernel
theorem dX4_hasRoom_4 : decode cX4_hasRoom 4 = .ok (.iload_n 1, 1) := by decide +kernel
theorem dX4_hasRoom_5 : decode cX4_hasRoom 5 = .ok (.iadd, 1) := by decide +kernel
theorem dX4_hasRoom_6 : decode cX4_hasRoom 6 = .ok (.sipush 1000, 3) := by decide +kernel
theorem dX4_hasRoom_9 : decode cX4_hasRoom 9 = .ok (.if_icmp .le 5, 3) := by decide +kernel
theorem dX4_hasRoom_12 : decode cX4_hasRoom 12 = .ok (.iconst 0, 1) := by decide +kernel
theorem dX4_hasRoom_13 : decode cX4_hasRoom 13 = .ok (.ireturn, 1) := by decide +kernel
theorem dX4_hasRoom_14 : decode cX4_hasRoom 14 = .ok (.aload_n 0, 1) := by decide +kernel
theorem dX4_hasRoom_15 : decode cX4_hasRoom 15 = .ok (.getfield 19, 3) := by decide +kernel
theorem dX4_hasRoom_18 : decode cX4_hasRoom 18 = .ok (.istore 5, 2) := by decide +kernel
theorem dX4_hasRoom_20 : decode cX4_hasRoom 20 = .ok (.iconst 0, 1) := by decide +kernel
theorem dX4_hasRoom_21 : decode cX4_hasRoom 21 = .ok (.istore 6, 2) := by decide +kernel
theorem dX4_hasRoom_23 : decode cX4_hasRoom 23 = .ok (.iload 6, 2) := by decide +kernel
theorem dX4_hasRoom_25 : decode cX4_hasRoom 25 = .ok (.iload_n 1, 1) := by decide +kernel
theorem dX4_hasRoom_26 : decode cX4_hasRoom 26 = .ok (.if_icmp .ge 42, 3) := by decide +kernel
theorem dX4_hasRoom_29 : decode cX4_hasRoom 29 = .ok (.iload 4, 2) := by decide +kernel
theorem dX4_hasRoom_31 : decode cX4_hasRoom 31 = .ok (.iload 6, 2) := by decide +kernel
theorem dX4_hasRoom_33 : decode cX4_hasRoom 33 = .ok (.iadd, 1) := by decide +kernel
theorem dX4_hasRoom_34 : decode cX4_hasRoom 34 = .ok (.aload_n 0, 1) := by decide +kernel
theorem dX4_hasRoom_35 : decode cX4_hasRoom 35 = .ok (.getfield 15, 3) := by decide +kernel
theorem dX4_hasRoom_38 : decode cX4_hasRoom 38 = .ok (.iload 6, 2) := by decide +kernel
theorem dX4_hasRoom_40 : decode cX4_hasRoom 40 = .ok (.iadd, 1) := by decide +kernel
theorem dX4_hasRoom_41 : decode cX4_hasRoom 41 = .ok (.iload_n 2, 1) := by decide +kernel
theorem dX4_hasRoom_42 : decode cX4_hasRoom 42 = .ok (.iload_n 3, 1) := by decide +kernel
theorem dX4_hasRoom_43 : decode cX4_hasRoom 43 = .ok (.invokestatic 22, 3) := by decide +kernel
theorem dX4_hasRoom_46 : decode cX4_hasRoom 46 = .ok (.istore 7, 2) := by decide +kernel
theorem dX4_hasRoom_48 : decode cX4_hasRoom 48 = .ok (.iload 5, 2) := by decide +kernel
theorem dX4_hasRoom_50 : decode cX4_hasRoom 50 = .ok (.iload 7, 2) := by decide +kernel
theorem dX4_hasRoom_52 : decode cX4_hasRoom 52 = .ok (.i2l, 1) := by decide +kernel
theorem dX4_hasRoom_53 : decode cX4_hasRoom 53 = .ok (.invokestatic 26, 3) := by decide +kernel
theorem dX4_hasRoom_56 : decode cX4_hasRoom 56 = .ok (.iload 7, 2) := by decide +kernel
theorem dX4_hasRoom_58 : decode cX4_hasRoom 58 = .ok (.iadd, 1) := by decide +kernel
theorem dX4_hasRoom_59 : decode cX4_hasRoom 59 = .ok (.iadd, 1) := by decide +kernel
theorem dX4_hasRoom_60 : decode cX4_hasRoom 60 = .ok (.istore 5, 2) := by decide +kernel
theorem dX4_hasRoom_62 : decode cX4_hasRoom 62 = .ok (.iinc 6 1, 3) := by decide +kernel
theorem dX4_hasRoom_65 : decode cX4_hasRoom 65 = .ok (.goto (-42), 3) := by decide +kernel
theorem dX4_hasRoom_68 : decode cX4_hasRoom 68 = .ok (.iload 5, 2) := by decide +kernel
theorem dX4_hasRoom_70 : decode cX4_hasRoom 70 = .ok (.sipush 16000, 3) := by decide +kernel
theorem dX4_hasRoom_73 : decode cX4_hasRoom 73 = .ok (.if_icmp .gt 7, 3) := by decide +kernel
theorem dX4_hasRoom_76 : decode cX4_hasRoom 76 = .ok (.iconst 1, 1) := by decide +kernel
theorem dX4_hasRoom_77 : decode cX4_hasRoom 77 = .ok (.goto 4, 3) := by decide +kernel
theorem dX4_hasRoom_80 : decode cX4_hasRoom 80 = .ok (.iconst 0, 1) := by decide +kernel
theorem dX4_hasRoom_81 : decode cX4_hasRoom 81 = .ok (.ireturn, 1) := by decide +kernel
theorem dX4_add_0 : decode cX4_add 0 = .ok (.aload_n 0, 1) := by decide +kernel
theorem dX4_add_1 : decode cX4_add 1 = .ok (.getfield 9, 3) := by decide +kernel
theorem dX4_add_4 : decode cX4_add 4 = .ok (.aload_n 0, 1) := by decide +kernel
theorem dX4_add_5 : decode cX4_add 5 = .ok (.getfield 19, 3) := by decide +kernel
theorem dX4_add_8 : decode cX4_add 8 = .ok (.iload 7, 2) := by decide +kernel
theorem dX4_add_10 : decode cX4_add 10 = .ok (.aload_n 0, 1) := by decide +kernel
theorem dX4_add_11 : decode cX4_add 11 = .ok (.getfield 15, 3) := by decide +kernel
theorem dX4_add_14 : decode cX4_add 14 = .ok (.iload_n 3, 1) := by decide +kernel
theorem dX4_add_15 : decode cX4_add 15 = .ok (.iload 6, 2) := by decide +kernel
theorem dX4_add_17 : decode cX4_add 17 = .ok (.invokestatic 22, 3) := by decide +kernel
theorem dX4_add_20 : decode cX4_add 20 = .ok (.i2l, 1) := by decide +kernel
theorem dX4_add_21 : decode cX4_add 21 = .ok (.invokestatic 32, 3) := by decide +kernel
theorem dX4_add_24 : decode cX4_add 24 = .ok (.istore 8, 2) := by decide +kernel
theorem dX4_add_26 : decode cX4_add 26 = .ok (.aload_n 0, 1) := by decide +kernel
theorem dX4_add_27 : decode cX4_add 27 = .ok (.getfield 9, 3) := by decide +kernel
theorem dX4_add_30 : decode cX4_add 30 = .ok (.iload 8, 2) := by decide +kernel
theorem dX4_add_32 : decode cX4_add 32 = .ok (.iconst 0, 1) := by decide +kernel
theorem dX4_add_33 : decode cX4_add 33 = .ok (.bastore, 1) := by decide +kernel
theorem dX4_add_34 : decode cX4_add 34 = .ok (.aload_n 0, 1) := by decide +kernel
theorem dX4_add_35 : decode cX4_add 35 = .ok (.getfield 9, 3) := by decide +kernel
theorem dX4_add_38 : decode cX4_add 38 = .ok (.iload 8, 2) := by decide +kernel
theorem dX4_add_40 : decode cX4_add 40 = .ok (.iconst 1, 1) := by decide +kernel
theorem dX4_add_41 : decode cX4_add 41 = .ok (.iadd, 1) := by decide +kernel
theorem dX4_add_42 : decode cX4_add 42 = .ok (.iload 7, 2) := by decide +kernel
theorem dX4_add_44 : decode cX4_add 44 = .ok (.i2l, 1) := by decide +kernel
theorem dX4_add_45 : decode cX4_add 45 = .ok (.invokestatic 32, 3) := by decide +kernel
theorem dX4_add_48 : decode cX4_add 48 = .ok (.istore 8, 2) := by decide +kernel
theorem dX4_add_50 : decode cX4_add 50 = .ok (.aload_n 0, 1) := by decide +kernel
theorem dX4_add_51 : decode cX4_add 51 = .ok (.getfield 9, 3) := by decide +kernel
theorem dX4_add_54 : decode cX4_add 54 = .ok (.iload 8, 2) := by decide +kernel
theorem dX4_add_56 : decode cX4_add 56 = .ok (.aload_n 0, 1) := by decide +kernel
theorem dX4_add_57 : decode cX4_add 57 = .ok (.getfield 15, 3) := by decide +kernel
theorem dX4_add_60 : decode cX4_add 60 = .ok (.i2l, 1) := by decide +kernel
theorem dX4_add_61 : decode cX4_add 61 = .ok (.invokestatic 32, 3) := by decide +kernel
theorem dX4_add_64 : decode cX4_add 64 = .ok (.istore 8, 2) := by decide +kernel
theorem dX4_add_66 : decode cX4_add 66 = .ok (.aload_n 0, 1) := by decide +kernel
theorem dX4_add_67 : decode cX4_add 67 = .ok (.getfield 9, 3) := by decide +kernel
theorem dX4_add_70 : decode cX4_add 70 = .ok (.iload 8, 2) := by decide +kernel
theorem dX4_add_72 : decode cX4_add 72 = .ok (.iload_n 3, 1) := by decide +kernel
theorem dX4_add_73 : decode cX4_add 73 = .ok (.i2l, 1) := by decide +kernel
theorem dX4_add_74 : decode cX4_add 74 = .ok (.invokestatic 32, 3) := by decide +kernel
theorem dX4_add_77 : decode cX4_add 77 = .ok (.istore 8, 2) := by decide +kernel
theorem dX4_add_79 : decode cX4_add 79 = .ok (.aload_n 0, 1) := by decide +kernel
theorem dX4_add_80 : decode cX4_add 80 = .ok (.getfield 9, 3) := by decide +kernel
theorem dX4_add_83 : decode cX4_add 83 = .ok (.iload 8, 2) := by decide +kernel
theorem dX4_add_85 : decode cX4_add 85 = .ok (.iload_n 3, 1) := by decide +kernel
theorem dX4_add_86 : decode cX4_add 86 = .ok (.lload_n 1, 1) := by decide +kernel
theorem dX4_add_87 : decode cX4_add 87 = .ok (.invokestatic 36, 3) := by decide +kernel
theorem dX4_add_90 : decode cX4_add 90 = .ok (.aload_n 0, 1) := by decide +kernel
theorem dX4_add_91 : decode cX4_add 91 = .ok (.getfield 9, 3) := by decide +kernel
theorem dX4_add_94 : decode cX4_add 94 = .ok (.iload 8, 2) := by decide +kernel
theorem dX4_add_96 : decode cX4_add 96 = .ok (.iload_n 3, 1) := by decide +kernel
theorem dX4_add_97 : decode cX4_add 97 = .ok (.iconst 0, 1) := by decide +kernel
theorem dX4_add_98 : decode cX4_add 98 = .ok (.invokestatic 40, 3) := by decide +kernel
theorem dX4_add_101 : decode cX4_add 101 = .ok (.iadd, 1) := by decide +kernel
theorem dX4_add_102 : decode cX4_add 102 = .ok (.iload 6, 2) := by decide +kernel
theorem dX4_add_104 : decode cX4_add 104 = .ok (.i2l, 1) := by decide +kernel
theorem dX4_add_105 : decode cX4_add 105 = .ok (.invokestatic 32, 3) := by decide +kernel
theorem dX4_add_108 : decode cX4_add 108 = .ok (.istore 8, 2) := by decide +kernel
theorem dX4_add_110 : decode cX4_add 110 = .ok (.iconst 0, 1) := by decide +kernel
theorem dX4_add_111 : decode cX4_add 111 = .ok (.istore 9, 2) := by decide +kernel
theorem dX4_add_113 : decode cX4_add 113 = .ok (.iload 9, 2) := by decide +kernel
theorem dX4_add_115 : decode cX4_add 115 = .ok (.iload 6, 2) := by decide +kernel
theorem dX4_add_117 : decode cX4_add 117 = .ok (.if_icmp .ge 32, 3) := by decide +kernel
theorem dX4_add_120 : decode cX4_add 120 = .ok (.aload_n 0, 1) := by decide +kernel
theorem dX4_add_121 : decode cX4_add 121 = .ok (.getfield 9, 3) := by decide +kernel
theorem dX4_add_124 : decode cX4_add 124 = .ok (.iload 8, 2) := by decide +kernel
theorem dX4_add_126 : decode cX4_add 126 = .ok (.iload 9, 2) := by decide +kernel
theorem dX4_add_128 : decode cX4_add 128 = .ok (.iadd, 1) := by decide +kernel
theorem dX4_add_129 : decode cX4_add 129 = .ok (.lload 4, 2) := by decide +kernel
theorem dX4_add_131 : decode cX4_add 131 = .ok (.bipush 8, 2) := by decide +kernel
theorem dX4_add_133 : decode cX4_add 133 = .ok (.iload 9, 2) := by decide +kernel
theorem dX4_add_135 : decode cX4_add 135 = .ok (.bipush 8, 2) := by decide +kernel
theorem dX4_add_137 : decode cX4_add 137 = .ok (.irem, 1) := by decide +kernel
theorem dX4_add_138 : decode cX4_add 138 = .ok (.imul, 1) := by decide +kernel
theorem dX4_add_139 : decode cX4_add 139 = .ok (.lshr, 1) := by decide +kernel
theorem dX4_add_140 : decode cX4_add 140 = .ok (.l2i, 1) := by decide +kernel
theorem dX4_add_141 : decode cX4_add 141 = .ok (.i2b, 1) := by decide +kernel
theorem dX4_add_142 : decode cX4_add 142 = .ok (.bastore, 1) := by decide +kernel
theorem dX4_add_143 : decode cX4_add 143 = .ok (.iinc 9 1, 3) := by decide +kernel
theorem dX4_add_146 : decode cX4_add 146 = .ok (.goto (-33), 3) := by decide +kernel
theorem dX4_add_149 : decode cX4_add 149 = .ok (.iload 8, 2) := by decide +kernel
theorem dX4_add_151 : decode cX4_add 151 = .ok (.iload 6, 2) := by decide +kernel
theorem dX4_add_153 : decode cX4_add 153 = .ok (.iconst 0, 1) := by decide +kernel
theorem dX4_add_154 : decode cX4_add 154 = .ok (.invokestatic 40, 3) := by decide +kernel
theorem dX4_add_157 : decode cX4_add 157 = .ok (.iadd, 1) := by decide +kernel
theorem dX4_add_158 : decode cX4_add 158 = .ok (.istore 8, 2) := by decide +kernel
theorem dX4_add_160 : decode cX4_add 160 = .ok (.aload_n 0, 1) := by decide +kernel
theorem dX4_add_161 : decode cX4_add 161 = .ok (.getfield 9, 3) := by decide +kernel
theorem dX4_add_164 : decode cX4_add 164 = .ok (.iload 8, 2) := by decide +kernel
theorem dX4_add_166 : decode cX4_add 166 = .ok (.iconst 0, 1) := by decide +kernel
theorem dX4_add_167 : decode cX4_add 167 = .ok (.bastore, 1) := by decide +kernel
theorem dX4_add_168 : decode cX4_add 168 = .ok (.aload_n 0, 1) := by decide +kernel
theorem dX4_add_169 : decode cX4_add 169 = .ok (.iload 8, 2) := by decide +kernel
theorem dX4_add_171 : decode cX4_add 171 = .ok (.iconst 1, 1) := by decide +kernel
theorem dX4_add_172 : decode cX4_add 172 = .ok (.iadd, 1) := by decide +kernel
theorem dX4_add_173 : decode cX4_add 173 = .ok (.putfield 19, 3) := by decide +kernel
theorem dX4_add_176 : decode cX4_add 176 = .ok (.aload_n 0, 1) := by decide +kernel
theorem dX4_add_177 : decode cX4_add 177 = .ok (.dup, 1) := by decide +kernel
theorem dX4_add_178 : decode cX4_add 178 = .ok (.getfield 15, 3) := by decide +kernel
theorem dX4_add_181 : decode cX4_add 181 = .ok (.iconst 1, 1) := by decide +kernel
theorem dX4_add_182 : decode cX4_add 182 = .ok (.iadd, 1) := by decide +kernel
theorem dX4_add_183 : decode cX4_add 183 = .ok (.putfield 15, 3) := by decide +kernel
theorem dX4_add_186 : decode cX4_add 186 = .ok (.aload_n 0, 1) := by decide +kernel
theorem dX4_add_187 : decode cX4_add 187 = .ok (.aload_n 0, 1) := by decide +kernel
theorem dX4_add_188 : decode cX4_add 188 = .ok (.getfield 46, 3) := by decide +kernel
theorem dX4_add_191 : decode cX4_add 191 = .ok (.iload 7, 2) := by decide +kernel
theorem dX4_add_193 : decode cX4_add 193 = .ok (.invokestatic 40, 3) := by decide +kernel
theorem dX4_add_196 : decode cX4_add 196 = .ok (.putfield 46, 3) := by decide +kernel
theorem dX4_add_199 : decode cX4_add 199 = .ok (.return_, 1) := by decide +kernel
theorem dX4_clear_0 : decode cX4_clear 0 = .ok (.aload_n 0, 1) := by decide +kernel
theorem dX4_clear_1 : decode cX4_clear 1 = .ok (.iconst 0, 1) := by decide +kernel
theorem dX4_clear_2 : decode cX4_clear 2 = .ok (.putfield 19, 3) := by decide +kernel
theorem dX4_clear_5 : decode cX4_clear 5 = .ok (.aload_n 0, 1) := by decide +kernel
theorem dX4_clear_6 : decode cX4_clear 6 = .ok (.iconst 0, 1) := by decide +kernel
theorem dX4_clear_7 : decode cX4_clear 7 = .ok (.putfield 15, 3) := by decide +kernel
theorem dX4_clear_10 : decode cX4_clear 10 = .ok (.aload_n 0, 1) := by decide +kernel
theorem dX4_clear_11 : decode cX4_clear 11 = .ok (.iconst 0, 1) := by decide +kernel
theorem dX4_clear_12 : decode cX4_clear 12 = .ok (.putfield 46, 3) := by decide +kernel
theorem dX4_clear_15 : decode cX4_clear 15 = .ok (.return_, 1) := by decide +kernel
theorem dX4_bodyBytes_0 : decode cX4_bodyBytes 0 = .ok (.iload_n 0, 1) := by decide +kernel
theorem dX4_bodyBytes_1 : decode cX4_bodyBytes 1 = .ok (.i2l, 1) := by decide +kernel
theorem dX4_bodyBytes_2 : decode cX4_bodyBytes 2 = .ok (.invokestatic 26, 3) := by decide +kernel
theorem dX4_bodyBytes_5 : decode cX4_bodyBytes 5 = .ok (.iload_n 1, 1) := by decide +kernel
theorem dX4_bodyBytes_6 : decode cX4_bodyBytes 6 = .ok (.i2l, 1) := by decide +kernel
theorem dX4_bodyBytes_7 : decode cX4_bodyBytes 7 = .ok (.invokestatic 26, 3) := by decide +kernel
theorem dX4_bodyBytes_10 : decode cX4_bodyBytes 10 = .ok (.iadd, 1) := by decide +kernel
theorem dX4_bodyBytes_11 : decode cX4_bodyBytes 11 = .ok (.istore 4, 2) := by decide +kernel
theorem dX4_bodyBytes_13 : decode cX4_bodyBytes 13 = .ok (.iload_n 2, 1) := by decide +kernel
theorem dX4_bodyBytes_14 : decode cX4_bodyBytes 14 = .ok (.i2l, 1) := by decide +kernel
theorem dX4_bodyBytes_15 : decode cX4_bodyBytes 15 = .ok (.invokestatic 26, 3) := by decide +kernel
theorem dX4_bodyBytes_18 : decode cX4_bodyBytes 18 = .ok (.iload_n 2, 1) := by decide +kernel
theorem dX4_bodyBytes_19 : decode cX4_bodyBytes 19 = .ok (.iconst 0, 1) := by decide +kernel
theorem dX4_bodyBytes_20 : decode cX4_bodyBytes 20 = .ok (.invokestatic 40, 3) := by decide +kernel
theorem dX4_bodyBytes_23 : decode cX4_bodyBytes 23 = .ok (.iadd, 1) := by decide +kernel
theorem dX4_bodyBytes_24 : decode cX4_bodyBytes 24 = .ok (.istore 5, 2) := by decide +kernel
theorem dX4_bodyBytes_26 : decode cX4_bodyBytes 26 = .ok (.iload_n 3, 1) := by decide +kernel
theorem dX4_bodyBytes_27 : decode cX4_bodyBytes 27 = .ok (.i2l, 1) := by decide +kernel
theorem dX4_bodyBytes_28 : decode cX4_bodyBytes 28 = .ok (.invokestatic 26, 3) := by decide +kernel
theorem dX4_bodyBytes_31 : decode cX4_bodyBytes 31 = .ok (.iload_n 3, 1) := by decide +kernel
theorem dX4_bodyBytes_32 : decode cX4_bodyBytes 32 = .ok (.iconst 0, 1) := by decide +kernel
theorem dX4_bodyBytes_33 : decode cX4_bodyBytes 33 = .ok (.invokestatic 40, 3) := by decide +kernel
theorem dX4_bodyBytes_36 : decode cX4_bodyBytes 36 = .ok (.iadd, 1) := by decide +kernel
theorem dX4_bodyBytes_37 : decode cX4_bodyBytes 37 = .ok (.istore 6, 2) := by decide +kernel
theorem dX4_bodyBytes_39 : decode cX4_bodyBytes 39 = .ok (.iconst 1, 1) := by decide +kernel
theorem dX4_bodyBytes_40 : decode cX4_bodyBytes 40 = .ok (.iload 4, 2) := by decide +kernel
theorem dX4_bodyBytes_42 : decode cX4_bodyBytes 42 = .ok (.iadd, 1) := by decide +kernel
theorem dX4_bodyBytes_43 : decode cX4_bodyBytes 43 = .ok (.iload 5, 2) := by decide +kernel
theorem dX4_bodyBytes_45 : decode cX4_bodyBytes 45 = .ok (.iadd, 1) := by decide +kernel
theorem dX4_bodyBytes_46 : decode cX4_bodyBytes 46 = .ok (.iload 6, 2) := by decide +kernel
theorem dX4_bodyBytes_48 : decode cX4_bodyBytes 48 = .ok (.iadd, 1) := by decide +kernel
theorem dX4_bodyBytes_49 : decode cX4_bodyBytes 49 = .ok (.iconst 1, 1) := by decide +kernel
theorem dX4_bodyBytes_50 : decode cX4_bodyBytes 50 = .ok (.iadd, 1) := by decide +kernel
theorem dX4_bodyBytes_51 : decode cX4_bodyBytes 51 = .ok (.ireturn, 1) := by decide +kernel
theorem dX5_init_0 : decode cX5_init 0 = .ok (.aload_n 0, 1) := by decide +kernel
theorem dX5_init_1 : decode cX5_init 1 = .ok (.invokespecial 3, 3) := by decide +kernel
theorem dX5_init_4 : decode cX5_init 4 = .ok (.aload_n 0, 1) := by decide +kernel
theorem dX5_init_5 : decode cX5_init 5 = .ok (.new 9, 3) := by decide +kernel
theorem dX5_init_8 : decode cX5_init 8 = .ok (.dup, 1) := by decide +kernel
theorem dX5_init_9 : decode cX5_init 9 = .ok (.invokespecial 11, 3) := by decide +kernel
theorem dX5_init_12 : decode cX5_init 12 = .ok (.putfield 12, 3) := by decide +kernel
theorem dX5_init_15 : decode cX5_init 15 = .ok (.return_, 1) := by decide +kernel
theorem dX5_examine_0 : decode cX5_examine 0 = .ok (.aload_n 0, 1) := by decide +kernel
theorem dX5_examine_1 : decode cX5_examine 1 = .ok (.iconst 0, 1) := by decide +kernel
theorem dX5_examine_2 : decode cX5_examine 2 = .ok (.iconst (-1), 1) := by decide +kernel
theorem dX5_examine_3 : decode cX5_examine 3 = .ok (.invokevirtual 18, 3) := by decide +kernel
theorem dX5_examine_6 : decode cX5_examine 6 = .ok (.iload_n 2, 1) := by decide +kernel
theorem dX5_examine_7 : decode cX5_examine 7 = .ok (.bipush 61, 2) := by decide +kernel
theorem dX5_examine_9 : decode cX5_examine 9 = .ok (.if_icmp .lt 12, 3) := by decide +kernel
theorem dX5_examine_12 : decode cX5_examine 12 = .ok (.aload_n 1, 1) := by decide +kernel
theorem dX5_examine_13 : decode cX5_examine 13 = .ok (.iconst 0, 1) := by decide +kernel
theorem dX5_examine_14 : decode cX5_examine 14 = .ok (.invokestatic 22, 3) := by decide +kernel
theorem dX5_examine_17 : decode cX5_examine 17 = .ok (.iload_n 2, 1) := by decide +kernel
theorem dX5_examine_18 : decode cX5_examine 18 = .ok (.if_icmp .eq 11, 3) := by decide +kernel
theorem dX5_examine_21 : decode cX5_examine 21 = .ok (.aload_n 0, 1) := by decide +kernel
theorem dX5_examine_22 : decode cX5_examine 22 = .ok (.iconst 1, 1) := by decide +kernel
theorem dX5_examine_23 : decode cX5_examine 23 = .ok (.bipush 8, 2) := by decide +kernel
theorem dX5_examine_25 : decode cX5_examine 25 = .ok (.invokevirtual 18, 3) := by decide +kernel
theorem dX5_examine_28 : decode cX5_examine 28 = .ok (.return_, 1) := by decide +kernel
theorem dX5_examine_29 : decode cX5_examine 29 = .ok (.aload_n 1, 1) := by decide +kernel
theorem dX5_examine_30 : decode cX5_examine 30 = .ok (.invokestatic 28, 3) := by decide +kernel
theorem dX5_examine_33 : decode cX5_examine 33 = .ok (.istore_n 3, 1) := by decide +kernel
theorem dX5_examine_34 : decode cX5_examine 34 = .ok (.iload_n 3, 1) := by decide +kernel
theorem dX5_examine_35 : decode cX5_examine 35 = .ok (.iconst (-1), 1) := by decide +kernel
theorem dX5_examine_36 : decode cX5_examine 36 = .ok (.if_icmp .eq 12, 3) := by decide +kernel
theorem dX5_examine_39 : decode cX5_examine 39 = .ok (.aload_n 0, 1) := by decide +kernel
theorem dX5_examine_40 : decode cX5_examine 40 = .ok (.iconst 2, 1) := by decide +kernel
theorem dX5_examine_41 : decode cX5_examine 41 = .ok (.iload_n 3, 1) := by decide +kernel
theorem dX5_examine_42 : decode cX5_examine 42 = .ok (.invokevirtual 18, 3) := by decide +kernel
theorem dX5_examine_45 : decode cX5_examine 45 = .ok (.goto 28, 3) := by decide +kernel
theorem dX5_examine_48 : decode cX5_examine 48 = .ok (.aload_n 1, 1) := by decide +kernel
theorem dX5_examine_49 : decode cX5_examine 49 = .ok (.iconst 0, 1) := by decide +kernel
theorem dX5_examine_50 : decode cX5_examine 50 = .ok (.iload_n 2, 1) := by decide +kernel
theorem dX5_examine_51 : decode cX5_examine 51 = .ok (.invokestatic 32, 3) := by decide +kernel
theorem dX5_examine_54 : decode cX5_examine 54 = .ok (.ifCond .ne 13, 3) := by decide +kernel
theorem dX5_examine_57 : decode cX5_examine 57 = .ok (.aload_n 0, 1) := by decide +kernel
theorem dX5_examine_58 : decode cX5_examine 58 = .ok (.iconst 3, 1) := by decide +kernel
theorem dX5_examine_59 : decode cX5_examine 59 = .ok (.bipush 17, 2) := by decide +kernel
theorem dX5_examine_61 : decode cX5_examine 61 = .ok (.invokevirtual 18, 3) := by decide +kernel
theorem dX5_examine_64 : decode cX5_examine 64 = .ok (.goto 9, 3) := by decide +kernel
theorem dX5_examine_67 : decode cX5_examine 67 = .ok (.aload_n 0, 1) := by decide +kernel
theorem dX5_examine_68 : decode cX5_examine 68 = .ok (.aload_n 1, 1) := by decide +kernel
theorem dX5_examine_69 : decode cX5_examine 69 = .ok (.iload_n 2, 1) := by decide +kernel
theorem dX5_examine_70 : decode cX5_examine 70 = .ok (.invokevirtual 36, 3) := by decide +kernel
theorem dX5_examine_73 : decode cX5_examine 73 = .ok (.return_, 1) := by decide +kernel
theorem dX5_tell_0 : decode cX5_tell 0 = .ok (.aload_n 0, 1) := by decide +kernel
theorem dX5_tell_1 : decode cX5_tell 1 = .ok (.iload_n 1, 1) := by decide +kernel
theorem dX5_tell_2 : decode cX5_tell 2 = .ok (.putfield 40, 3) := by decide +kernel
theorem dX5_tell_5 : decode cX5_tell 5 = .ok (.aload_n 0, 1) := by decide +kernel
theorem dX5_tell_6 : decode cX5_tell 6 = .ok (.iload_n 2, 1) := by decide +kernel
theorem dX5_tell_7 : decode cX5_tell 7 = .ok (.putfield 44, 3) := by decide +kernel
theorem dX5_tell_10 : decode cX5_tell 10 = .ok (.return_, 1) := by decide +kernel
theorem dX5_wrongField_0 : decode cX5_wrongField 0 = .ok (.aload_n 0, 1) := by decide +kernel
theorem dX5_wrongField_1 : decode cX5_wrongField 1 = .ok (.iconst 0, 1) := by decide +kernel
theorem dX5_wrongField_2 : decode cX5_wrongField 2 = .ok (.invokestatic 47, 3) := by decide +kernel
theorem dX5_wrongField_5 : decode cX5_wrongField 5 = .ok (.i2l, 1) := by decide +kernel
theorem dX5_wrongField_6 : decode cX5_wrongField 6 = .ok (.lstore_n 1, 1) := by decide +kernel
theorem dX5_wrongField_7 : decode cX5_wrongField 7 = .ok (.aload_n 0, 1) := by decide +kernel
theorem dX5_wrongField_8 : decode cX5_wrongField 8 = .ok (.iconst 0, 1) := by decide +kernel
theorem dX5_wrongField_9 : decode cX5_wrongField 9 = .ok (.invokestatic 50, 3) := by decide +kernel
theorem dX5_wrongField_12 : decode cX5_wrongField 12 = .ok (.lstore_n 3, 1) := by decide +kernel
theorem dX5_wrongField_13 : decode cX5_wrongField 13 = .ok (.aload_n 0, 1) := by decide +kernel
theorem dX5_wrongField_14 : decode cX5_wrongField 14 = .ok (.iconst 0, 1) := by decide +kernel
theorem dX5_wrongField_15 : decode cX5_wrongField 15 = .ok (.invokestatic 54, 3) := by decide +kernel
theorem dX5_wrongField_18 : decode cX5_wrongField 18 = .ok (.lconst 0, 1) := by decide +kernel
theorem dX5_wrongField_19 : decode cX5_wrongField 19 = .ok (.lcmp, 1) := by decide +kernel
theorem dX5_wrongField_20 : decode cX5_wrongField 20 = .ok (.ifCond .eq 5, 3) := by decide +kernel
theorem dX5_wrongField_23 : decode cX5_wrongField 23 = .ok (.iconst 0, 1) := by decide +kernel
theorem dX5_wrongField_24 : decode cX5_wrongField 24 = .ok (.ireturn, 1) := by decide +kernel
theorem dX5_wrongField_25 : decode cX5_wrongField 25 = .ok (.aload_n 0, 1) := by decide +kernel
theorem dX5_wrongField_26 : decode cX5_wrongField 26 = .ok (.bipush 12, 2) := by decide +kernel
theorem dX5_wrongField_28 : decode cX5_wrongField 28 = .ok (.iconst 4, 1) := by decide +kernel
theorem dX5_wrongField_29 : decode cX5_wrongField 29 = .ok (.invokestatic 57, 3) := by decide +kernel
theorem dX5_wrongField_32 : decode cX5_wrongField 32 = .ok (.lconst 0, 1) := by decide +kernel
theorem dX5_wrongField_33 : decode cX5_wrongField 33 = .ok (.lcmp, 1) := by decide +kernel
theorem dX5_wrongField_34 : decode cX5_wrongField 34 = .ok (.ifCond .eq 6, 3) := by decide +kernel
theorem dX5_wrongField_37 : decode cX5_wrongField 37 = .ok (.bipush 12, 2) := by decide +kernel
theorem dX5_wrongField_39 : decode cX5_wrongField 39 = .ok (.ireturn, 1) := by decide +kernel
theorem dX5_wrongField_40 : decode cX5_wrongField 40 = .ok (.aload_n 0, 1) := by decide +kernel
theorem dX5_wrongField_41 : decode cX5_wrongField 41 = .ok (.bipush 16, 2) := by decide +kernel
theorem dX5_wrongField_43 : decode cX5_wrongField 43 = .ok (.baload, 1) := by decide +kernel
theorem dX5_wrongField_44 : decode cX5_wrongField 44 = .ok (.iconst 2, 1) := by decide +kernel
theorem dX5_wrongField_45 : decode cX5_wrongField 45 = .ok (.if_icmp .eq 6, 3) := by decide +kernel
theorem dX5_wrongField_48 : decode cX5_wrongField 48 = .ok (.bipush 16, 2) := by decide +kernel
theorem dX5_wrongField_50 : decode cX5_wrongField 50 = .ok (.ireturn, 1) := by decide +kernel
theorem dX5_wrongField_51 : decode cX5_wrongField 51 = .ok (.aload_n 0, 1) := by decide +kernel
theorem dX5_wrongField_52 : decode cX5_wrongField 52 = .ok (.bipush 21, 2) := by decide +kernel
theorem dX5_wrongField_54 : decode cX5_wrongField 54 = .ok (.iconst 2, 1) := by decide +kernel
theorem dX5_wrongField_55 : decode cX5_wrongField 55 = .ok (.invokestatic 57, 3) := by decide +kernel
theorem dX5_wrongField_58 : decode cX5_wrongField 58 = .ok (.lconst 0, 1) := by decide +kernel
theorem dX5_wrongField_59 : decode cX5_wrongField 59 = .ok (.lcmp, 1) := by decide +kernel
theorem dX5_wrongField_60 : decode cX5_wrongField 60 = .ok (.ifCond .eq 6, 3) := by decide +kernel
theorem dX5_wrongField_63 : decode cX5_wrongField 63 = .ok (.bipush 21, 2) := by decide +kernel
theorem dX5_wrongField_65 : decode cX5_wrongField 65 = .ok (.ireturn, 1) := by decide +kernel
theorem dX5_wrongField_66 : decode cX5_wrongField 66 = .ok (.aload_n 0, 1) := by decide +kernel
theorem dX5_wrongField_67 : decode cX5_wrongField 67 = .ok (.iconst 0, 1) := by decide +kernel
theorem dX5_wrongField_68 : decode cX5_wrongField 68 = .ok (.invokestatic 63, 3) := by decide +kernel
theorem dX5_wrongField_71 : decode cX5_wrongField 71 = .ok (.i2l, 1) := by decide +kernel
theorem dX5_wrongField_72 : decode cX5_wrongField 72 = .ok (.lload_n 1, 1) := by decide +kernel
theorem dX5_wrongField_73 : decode cX5_wrongField 73 = .ok (.lconst 1, 1) := by decide +kernel
theorem dX5_wrongField_74 : decode cX5_wrongField 74 = .ok (.lsub, 1) := by decide +kernel
theorem dX5_wrongField_75 : decode cX5_wrongField 75 = .ok (.lcmp, 1) := by decide +kernel
theorem dX5_wrongField_76 : decode cX5_wrongField 76 = .ok (.ifCond .eq 6, 3) := by decide +kernel
theorem dX5_wrongField_79 : decode cX5_wrongField 79 = .ok (.bipush 23, 2) := by decide +kernel
theorem dX5_wrongField_81 : decode cX5_wrongField 81 = .ok (.ireturn, 1) := by decide +kernel
theorem dX5_wrongField_82 : decode cX5_wrongField 82 = .ok (.aload_n 0, 1) := by decide +kernel
theorem dX5_wrongField_83 : decode cX5_wrongField 83 = .ok (.iconst 0, 1) := by decide +kernel
theorem dX5_wrongField_84 : decode cX5_wrongField 84 = .ok (.invokestatic 66, 3) := by decide +kernel
theorem dX5_wrongField_87 : decode cX5_wrongField 87 = .ok (.lconst 0, 1) := by decide +kernel
theorem dX5_wrongField_88 : decode cX5_wrongField 88 = .ok (.ldc2_w 69, 3) := by decide +kernel
theorem dX5_wrongField_91 : decode cX5_wrongField 91 = .ok (.invokestatic 71, 3) := by decide +kernel
theorem dX5_wrongField_94 : decode cX5_wrongField 94 = .ok (.ifCond .ne 6, 3) := by decide +kernel
theorem dX5_wrongField_97 : decode cX5_wrongField 97 = .ok (.bipush 27, 2) := by decide +kernel
theorem dX5_wrongField_99 : decode cX5_wrongField 99 = .ok (.ireturn, 1) := by decide +kernel
theorem dX5_wrongField_100 : decode cX5_wrongField 100 = .ok (.aload_n 0, 1) := by decide +kernel
theorem dX5_wrongField_101 : decode cX5_wrongField 101 = .ok (.iconst 0, 1) := by decide +kernel
theorem dX5_wrongField_102 : decode cX5_wrongField 102 = .ok (.invokestatic 75, 3) := by decide +kernel
theorem dX5_wrongField_105 : decode cX5_wrongField 105 = .ok (.lconst 0, 1) := by decide +kernel
theorem dX5_wrongField_106 : decode cX5_wrongField 106 = .ok (.ldc2_w 69, 3) := by decide +kernel
theorem dX5_wrongField_109 : decode cX5_wrongField 109 = .ok (.invokestatic 71, 3) := by decide +kernel
theorem dX5_wrongField_112 : decode cX5_wrongField 112 = .ok (.ifCond .ne 6, 3) := by decide +kernel
theorem dX5_wrongField_115 : decode cX5_wrongField 115 = .ok (.bipush 35, 2) := by decide +kernel
theorem dX5_wrongField_117 : decode cX5_wrongField 117 = .ok (.ireturn, 1) := by decide +kernel
theorem dX5_wrongField_118 : decode cX5_wrongField 118 = .ok (.lload_n 3, 1) := by decide +kernel
theorem dX5_wrongField_119 : decode cX5_wrongField 119 = .ok (.ldc2_w 78, 3) := by decide +kernel
theorem dX5_wrongField_122 : decode cX5_wrongField 122 = .ok (.ldc2_w 69, 3) := by decide +kernel
theorem dX5_wrongField_125 : decode cX5_wrongField 125 = .ok (.invokestatic 71, 3) := by decide +kernel
theorem dX5_wrongField_128 : decode cX5_wrongField 128 = .ok (.ifCond .ne 6, 3) := by decide +kernel
theorem dX5_wrongField_131 : decode cX5_wrongField 131 = .ok (.bipush 43, 2) := by decide +kernel
theorem dX5_wrongField_133 : decode cX5_wrongField 133 = .ok (.ireturn, 1) := by decide +kernel
theorem dX5_wrongField_134 : decode cX5_wrongField 134 = .ok (.lload_n 3, 1) := by decide +kernel
theorem dX5_wrongField_135 : decode cX5_wrongField 135 = .ok (.aload_n 0, 1) := by decide +kernel
theorem dX5_wrongField_136 : decode cX5_wrongField 136 = .ok (.iconst 0, 1) := by decide +kernel
theorem dX5_wrongField_137 : decode cX5_wrongField 137 = .ok (.invokestatic 80, 3) := by decide +kernel
theorem dX5_wrongField_140 : decode cX5_wrongField 140 = .ok (.invokestatic 83, 3) := by decide +kernel
theorem dX5_wrongField_143 : decode cX5_wrongField 143 = .ok (.ifCond .ne 6, 3) := by decide +kernel
theorem dX5_wrongField_146 : decode cX5_wrongField 146 = .ok (.bipush 51, 2) := by decide +kernel
theorem dX5_wrongField_148 : decode cX5_wrongField 148 = .ok (.ireturn, 1) := by decide +kernel
theorem dX5_wrongField_149 : decode cX5_wrongField 149 = .ok (.lload_n 3, 1) := by decide +kernel
theorem dX5_wrongField_150 : decode cX5_wrongField 150 = .ok (.aload_n 0, 1) := by decide +kernel
theorem dX5_wrongField_151 : decode cX5_wrongField 151 = .ok (.iconst 0, 1) := by decide +kernel
theorem dX5_wrongField_152 : decode cX5_wrongField 152 = .ok (.invokestatic 87, 3) := by decide +kernel
theorem dX5_wrongField_155 : decode cX5_wrongField 155 = .ok (.invokestatic 83, 3) := by decide +kernel
theorem dX5_wrongField_158 : decode cX5_wrongField 158 = .ok (.ifCond .ne 6, 3) := by decide +kernel
theorem dX5_wrongField_161 : decode cX5_wrongField 161 = .ok (.bipush 53, 2) := by decide +kernel
theorem dX5_wrongField_163 : decode cX5_wrongField 163 = .ok (.ireturn, 1) := by decide +kernel
theorem dX5_wrongField_164 : decode cX5_wrongField 164 = .ok (.lload_n 1, 1) := by decide +kernel
theorem dX5_wrongField_165 : decode cX5_wrongField 165 = .ok (.lconst 1, 1) := by decide +kernel
theorem dX5_wrongField_166 : decode cX5_wrongField 166 = .ok (.ldc2_w 90, 3) := by decide +kernel
theorem dX5_wrongField_169 : decode cX5_wrongField 169 = .ok (.invokestatic 71, 3) := by decide +kernel
theorem dX5_wrongField_172 : decode cX5_wrongField 172 = .ok (.ifCond .eq 7, 3) := by decide +kernel
theorem dX5_wrongField_175 : decode cX5_wrongField 175 = .ok (.iconst (-1), 1) := by decide +kernel
theorem dX5_wrongField_176 : decode cX5_wrongField 176 = .ok (.goto 5, 3) := by decide +kernel
theorem dX5_wrongField_179 : decode cX5_wrongField 179 = .ok (.bipush 57, 2) := by decide +kernel
theorem dX5_wrongField_181 : decode cX5_wrongField 181 = .ok (.ireturn, 1) := by decide +kernel
theorem dX5_isProducersNumber_0 : decode cX5_isProducersNumber 0 = .ok (.lload_n 0, 1) := by decide +kernel
theorem dX5_isProducersNumber_1 : decode cX5_isProducersNumber 1 = .ok (.ldc2_w 78, 3) := by decide +kernel
theorem dX5_isProducersNumber_4 : decode cX5_isProducersNumber 4 = .ok (.lcmp, 1) := by decide +kernel
theorem dX5_isProducersNumber_5 : decode cX5_isProducersNumber 5 = .ok (.ifCond .ne 16, 3) := by decide +kernel
theorem dX5_isProducersNumber_8 : decode cX5_isProducersNumber 8 = .ok (.iload_n 2, 1) := by decide +kernel
theorem dX5_isProducersNumber_9 : decode cX5_isProducersNumber 9 = .ok (.iconst (-1), 1) := by decide +kernel
theorem dX5_isProducersNumber_10 : decode cX5_isProducersNumber 10 = .ok (.if_icmp .ne 7, 3) := by decide +kernel
theorem dX5_isProducersNumber_13 : decode cX5_isProducersNumber 13 = .ok (.iconst 1, 1) := by decide +kernel
theorem dX5_isProducersNumber_14 : decode cX5_isProducersNumber 14 = .ok (.goto 16, 3) := by decide +kernel
theorem dX5_isProducersNumber_17 : decode cX5_isProducersNumber 17 = .ok (.iconst 0, 1) := by decide +kernel
theorem dX5_isProducersNumber_18 : decode cX5_isProducersNumber 18 = .ok (.goto 12, 3) := by decide +kernel
theorem dX5_isProducersNumber_21 : decode cX5_isProducersNumber 21 = .ok (.iload_n 2, 1) := by decide +kernel
theorem dX5_isProducersNumber_22 : decode cX5_isProducersNumber 22 = .ok (.ifCond .lt 7, 3) := by decide +kernel
theorem dX5_isProducersNumber_25 : decode cX5_isProducersNumber 25 = .ok (.iconst 1, 1) := by decide +kernel
theorem dX5_isProducersNumber_26 : decode cX5_isProducersNumber 26 = .ok (.goto 4, 3) := by decide +kernel
theorem dX5_isProducersNumber_29 : decode cX5_isProducersNumber 29 = .ok (.iconst 0, 1) := by decide +kernel
theorem dX5_isProducersNumber_30 : decode cX5_isProducersNumber 30 = .ok (.ireturn, 1) := by decide +kernel
theorem dX5_examineRecords_0 : decode cX5_examineRecords 0 = .ok (.aload_n 1, 1) := by decide +kernel
theorem dX5_examineRecords_1 : decode cX5_examineRecords 1 = .ok (.iconst 0, 1) := by decide +kernel
theorem dX5_examineRecords_2 : decode cX5_examineRecords 2 = .ok (.invokestatic 47, 3) := by decide +kernel
theorem dX5_examineRecords_5 : decode cX5_examineRecords 5 = .ok (.istore_n 3, 1) := by decide +kernel
theorem dX5_examineRecords_6 : decode cX5_examineRecords 6 = .ok (.aload_n 1, 1) := by decide +kernel
theorem dX5_examineRecords_7 : decode cX5_examineRecords 7 = .ok (.iconst 0, 1) := by decide +kernel
theorem dX5_examineRecords_8 : decode cX5_examineRecords 8 = .ok (.invokestatic 66, 3) := by decide +kernel
theorem dX5_examineRecords_11 : decode cX5_examineRecords 11 = .ok (.lstore 4, 2) := by decide +kernel
theorem dX5_examineRecords_13 : decode cX5_examineRecords 13 = .ok (.lconst 0, 1) := by decide +kernel
theorem dX5_examineRecords_14 : decode cX5_examineRecords 14 = .ok (.lstore 6, 2) := by decide +kernel
theorem dX5_examineRecords_16 : decode cX5_examineRecords 16 = .ok (.bipush 61, 2) := by decide +kernel
theorem dX5_examineRecords_18 : decode cX5_examineRecords 18 = .ok (.istore 8, 2) := by decide +kernel
theorem dX5_examineRecords_20 : decode cX5_examineRecords 20 = .ok (.iconst 0, 1) := by decide +kernel
theorem dX5_examineRecords_21 : decode cX5_examineRecords 21 = .ok (.istore 9, 2) := by decide +kernel
theorem dX5_examineRecords_23 : decode cX5_examineRecords 23 = .ok (.iload 9, 2) := by decide +kernel
theorem dX5_examineRecords_25 : decode cX5_examineRecords 25 = .ok (.iload_n 3, 1) := by decide +kernel
theorem dX5_examineRecords_26 : decode cX5_examineRecords 26 = .ok (.if_icmp .ge 91, 3) := by decide +kernel
theorem dX5_examineRecords_29 : decode cX5_examineRecords 29 = .ok (.aload_n 0, 1) := by decide +kernel
theorem dX5_examineRecords_30 : decode cX5_examineRecords 30 = .ok (.getfield 12, 3) := by decide +kernel
theorem dX5_examineRecords_33 : decode cX5_examineRecords 33 = .ok (.aload_n 1, 1) := by decide +kernel
theorem dX5_examineRecords_34 : decode cX5_examineRecords 34 = .ok (.iload 8, 2) := by decide +kernel
theorem dX5_examineRecords_36 : decode cX5_examineRecords 36 = .ok (.iload_n 2, 1) := by decide +kernel
theorem dX5_examineRecords_37 : decode cX5_examineRecords 37 = .ok (.invokevirtual 92, 3) := by decide +kernel
theorem dX5_examineRecords_40 : decode cX5_examineRecords 40 = .ok (.ifCond .eq 37, 3) := by decide +kernel
theorem dX5_examineRecords_43 : decode cX5_examineRecords 43 = .ok (.aload_n 0, 1) := by decide +kernel
theorem dX5_examineRecords_44 : decode cX5_examineRecords 44 = .ok (.getfield 12, 3) := by decide +kernel
theorem dX5_examineRecords_47 : decode cX5_examineRecords 47 = .ok (.getfield 95, 3) := by decide +kernel
theorem dX5_examineRecords_50 : decode cX5_examineRecords 50 = .ok (.iload 9, 2) := by decide +kernel
theorem dX5_examineRecords_52 : decode cX5_examineRecords 52 = .ok (.i2l, 1) := by decide +kernel
theorem dX5_examineRecords_53 : decode cX5_examineRecords 53 = .ok (.lcmp, 1) := by decide +kernel
theorem dX5_examineRecords_54 : decode cX5_examineRecords 54 = .ok (.ifCond .ne 23, 3) := by decide +kernel
theorem dX5_examineRecords_57 : decode cX5_examineRecords 57 = .ok (.lload 4, 2) := by decide +kernel
theorem dX5_examineRecords_59 : decode cX5_examineRecords 59 = .ok (.aload_n 0, 1) := by decide +kernel
theorem dX5_examineRecords_60 : decode cX5_examineRecords 60 = .ok (.getfield 12, 3) := by decide +kernel
theorem dX5_examineRecords_63 : decode cX5_examineRecords 63 = .ok (.getfield 99, 3) := by decide +kernel
theorem dX5_examineRecords_66 : decode cX5_examineRecords 66 = .ok (.ladd, 1) := by decide +kernel
theorem dX5_examineRecords_67 : decode cX5_examineRecords 67 = .ok (.lconst 0, 1) := by decide +kernel
theorem dX5_examineRecords_68 : decode cX5_examineRecords 68 = .ok (.ldc2_w 69, 3) := by decide +kernel
theorem dX5_examineRecords_71 : decode cX5_examineRecords 71 = .ok (.invokestatic 71, 3) := by decide +kernel
theorem dX5_examineRecords_74 : decode cX5_examineRecords 74 = .ok (.ifCond .ne 11, 3) := by decide +kernel
theorem dX5_examineRecords_77 : decode cX5_examineRecords 77 = .ok (.aload_n 0, 1) := by decide +kernel
theorem dX5_examineRecords_78 : decode cX5_examineRecords 78 = .ok (.iconst 4, 1) := by decide +kernel
theorem dX5_examineRecords_79 : decode cX5_examineRecords 79 = .ok (.iload 8, 2) := by decide +kernel
theorem dX5_examineRecords_81 : decode cX5_examineRecords 81 = .ok (.invokevirtual 18, 3) := by decide +kernel
theorem dX5_examineRecords_84 : decode cX5_examineRecords 84 = .ok (.return_, 1) := by decide +kernel
theorem dX5_examineRecords_85 : decode cX5_examineRecords 85 = .ok (.lload 6, 2) := by decide +kernel
theorem dX5_examineRecords_87 : decode cX5_examineRecords 87 = .ok (.lload 4, 2) := by decide +kernel
theorem dX5_examineRecords_89 : decode cX5_examineRecords 89 = .ok (.aload_n 0, 1) := by decide +kernel
theorem dX5_examineRecords_90 : decode cX5_examineRecords 90 = .ok (.getfield 12, 3) := by decide +kernel
theorem dX5_examineRecords_93 : decode cX5_examineRecords 93 = .ok (.getfield 99, 3) := by decide +kernel
theorem dX5_examineRecords_96 : decode cX5_examineRecords 96 = .ok (.ladd, 1) := by decide +kernel
theorem dX5_examineRecords_97 : decode cX5_examineRecords 97 = .ok (.invokestatic 102, 3) := by decide +kernel
theorem dX5_examineRecords_100 : decode cX5_examineRecords 100 = .ok (.lstore 6, 2) := by decide +kernel
theorem dX5_examineRecords_102 : decode cX5_examineRecords 102 = .ok (.aload_n 0, 1) := by decide +kernel
theorem dX5_examineRecords_103 : decode cX5_examineRecords 103 = .ok (.getfield 12, 3) := by decide +kernel
theorem dX5_examineRecords_106 : decode cX5_examineRecords 106 = .ok (.getfield 108, 3) := by decide +kernel
theorem dX5_examineRecords_109 : decode cX5_examineRecords 109 = .ok (.istore 8, 2) := by decide +kernel
theorem dX5_examineRecords_111 : decode cX5_examineRecords 111 = .ok (.iinc 9 1, 3) := by decide +kernel
theorem dX5_examineRecords_114 : decode cX5_examineRecords 114 = .ok (.goto (-91), 3) := by decide +kernel
theorem dX5_examineRecords_117 : decode cX5_examineRecords 117 = .ok (.iload 8, 2) := by decide +kernel
theorem dX5_examineRecords_119 : decode cX5_examineRecords 119 = .ok (.iload_n 2, 1) := by decide +kernel
theorem dX5_examineRecords_120 : decode cX5_examineRecords 120 = .ok (.if_icmp .ge 13, 3) := by decide +kernel
theorem dX5_examineRecords_123 : decode cX5_examineRecords 123 = .ok (.aload_n 0, 1) := by decide +kernel
theorem dX5_examineRecords_124 : decode cX5_examineRecords 124 = .ok (.iconst 4, 1) := by decide +kernel
theorem dX5_examineRecords_125 : decode cX5_examineRecords 125 = .ok (.iload 8, 2) := by decide +kernel
theorem dX5_examineRecords_127 : decode cX5_examineRecords 127 = .ok (.invokevirtual 18, 3) := by decide +kernel
theorem dX5_examineRecords_130 : decode cX5_examineRecords 130 = .ok (.goto 21, 3) := by decide +kernel
theorem dX5_examineRecords_133 : decode cX5_examineRecords 133 = .ok (.lload 6, 2) := by decide +kernel
theorem dX5_examineRecords_135 : decode cX5_examineRecords 135 = .ok (.aload_n 1, 1) := by decide +kernel
theorem dX5_examineRecords_136 : decode cX5_examineRecords 136 = .ok (.iconst 0, 1) := by decide +kernel
theorem dX5_examineRecords_137 : decode cX5_examineRecords 137 = .ok (.invokestatic 75, 3) := by decide +kernel
theorem dX5_examineRecords_140 : decode cX5_examineRecords 140 = .ok (.lcmp, 1) := by decide +kernel
theorem dX5_examineRecords_141 : decode cX5_examineRecords 141 = .ok (.ifCond .eq 10, 3) := by decide +kernel
theorem dX5_examineRecords_144 : decode cX5_examineRecords 144 = .ok (.aload_n 0, 1) := by decide +kernel
theorem dX5_examineRecords_145 : decode cX5_examineRecords 145 = .ok (.iconst 5, 1) := by decide +kernel
theorem dX5_examineRecords_146 : decode cX5_examineRecords 146 = .ok (.bipush 35, 2) := by decide +kernel
theorem dX5_examineRecords_148 : decode cX5_examineRecords 148 = .ok (.invokevirtual 18, 3) := by decide +kernel
theorem dX5_examineRecords_151 : decode cX5_examineRecords 151 = .ok (.return_, 1) := by decide +kernel
theorem dX6_init_0 : decode cX6_init 0 = .ok (.aload_n 0, 1) := by decide +kernel
theorem dX6_init_1 : decode cX6_init 1 = .ok (.invokespecial 3, 3) := by decide +kernel
theorem dX6_init_4 : decode cX6_init 4 = .ok (.aload_n 0, 1) := by decide +kernel
theorem dX6_init_5 : decode cX6_init 5 = .ok (.ldc 9, 2) := by decide +kernel
theorem dX6_init_7 : decode cX6_init 7 = .ok (.newarray .byte, 2) := by decide +kernel
theorem dX6_init_9 : decode cX6_init 9 = .ok (.putfield 10, 3) := by decide +kernel
theorem dX6_init_12 : decode cX6_init 12 = .ok (.aload_n 0, 1) := by decide +kernel
theorem dX6_init_13 : decode cX6_init 13 = .ok (.sipush 538, 3) := by decide +kernel
theorem dX6_init_16 : decode cX6_init 16 = .ok (.newarray .int, 2) := by decide +kernel
theorem dX6_init_18 : decode cX6_init 18 = .ok (.putfield 16, 3) := by decide +kernel
theorem dX6_init_21 : decode cX6_init 21 = .ok (.aload_n 0, 1) := by decide +kernel
theorem dX6_init_22 : decode cX6_init 22 = .ok (.new 20, 3) := by decide +kernel
theorem dX6_init_25 : decode cX6_init 25 = .ok (.dup, 1) := by decide +kernel
theorem dX6_init_26 : decode cX6_init 26 = .ok (.invokespecial 22, 3) := by decide +kernel
theorem dX6_init_29 : decode cX6_init 29 = .ok (.putfield 23, 3) := by decide +kernel
theorem dX6_init_32 : decode cX6_init 32 = .ok (.return_, 1) := by decide +kernel
theorem dX6_clear_0 : decode cX6_clear 0 = .ok (.aload_n 0, 1) := by decide +kernel
theorem dX6_clear_1 : decode cX6_clear 1 = .ok (.iconst 0, 1) := by decide +kernel
theorem dX6_clear_2 : decode cX6_clear 2 = .ok (.putfield 27, 3) := by decide +kernel
theorem dX6_clear_5 : decode cX6_clear 5 = .ok (.aload_n 0, 1) := by decide +kernel
theorem dX6_clear_6 : decode cX6_clear 6 = .ok (.iconst 0, 1) := by decide +kernel
theorem dX6_clear_7 : decode cX6_clear 7 = .ok (.putfield 31, 3) := by decide +kernel
theorem dX6_clear_10 : decode cX6_clear 10 = .ok (.return_, 1) := by decide +kernel
theorem dX6_accepts_0 : decode cX6_accepts 0 = .ok (.aload_n 0, 1) := by decide +kernel
theorem dX6_accepts_1 : decode cX6_accepts 1 = .ok (.getfield 31, 3) := by decide +kernel
theorem dX6_accepts_4 : decode cX6_accepts 4 = .ok (.ifCond .eq 13, 3) := by decide +kernel
theorem dX6_accepts_7 : decode cX6_accepts 7 = .ok (.aload_n 0, 1) := by decide +kernel
theorem dX6_accepts_8 : decode cX6_accepts 8 = .ok (.getfield 27, 3) := by decide +kernel
theorem dX6_accepts_11 : decode cX6_accepts 11 = .ok (.iload_n 1, 1) := by decide +kernel
theorem dX6_accepts_12 : decode cX6_accepts 12 = .ok (.iadd, 1) := by decide +kernel
theorem dX6_accepts_13 : decode cX6_accepts 13 = .ok (.iload_n 2, 1) := by decide +kernel
theorem dX6_accepts_14 : decode cX6_accepts 14 = .ok (.if_icmp .gt 7, 3) := by decide +kernel
theorem dX6_accepts_17 : decode cX6_accepts 17 = .ok (.iconst 1, 1) := by decide +kernel
theorem dX6_accepts_18 : decode cX6_accepts 18 = .ok (.goto 4, 3) := by decide +kernel
theorem dX6_accepts_21 : decode cX6_accepts 21 = .ok (.iconst 0, 1) := by decide +kernel
theorem dX6_accepts_22 : decode cX6_accepts 22 = .ok (.ireturn, 1) := by decide +kernel
theorem dX6_add_0 : decode cX6_add 0 = .ok (.aload_n 1, 1) := by decide +kernel
theorem dX6_add_1 : decode cX6_add 1 = .ok (.iload_n 2, 1) := by decide +kernel
theorem dX6_add_2 : decode cX6_add 2 = .ok (.invokestatic 34, 3) := by decide +kernel
theorem dX6_add_5 : decode cX6_add 5 = .ok (.istore_n 3, 1) := by decide +kernel
theorem dX6_add_6 : decode cX6_add 6 = .ok (.aload_n 1, 1) := by decide +kernel
theorem dX6_add_7 : decode cX6_add 7 = .ok (.iload_n 2, 1) := by decide +kernel
theorem dX6_add_8 : decode cX6_add 8 = .ok (.aload_n 0, 1) := by decide +kernel
theorem dX6_add_9 : decode cX6_add 9 = .ok (.getfield 10, 3) := by decide +kernel
theorem dX6_add_12 : decode cX6_add 12 = .ok (.aload_n 0, 1) := by decide +kernel
theorem dX6_add_13 : decode cX6_add 13 = .ok (.getfield 27, 3) := by decide +kernel
theorem dX6_add_16 : decode cX6_add 16 = .ok (.iload_n 3, 1) := by decide +kernel
theorem dX6_add_17 : decode cX6_add 17 = .ok (.invokestatic 40, 3) := by decide +kernel
theorem dX6_add_20 : decode cX6_add 20 = .ok (.aload_n 0, 1) := by decide +kernel
theorem dX6_add_21 : decode cX6_add 21 = .ok (.getfield 16, 3) := by decide +kernel
theorem dX6_add_24 : decode cX6_add 24 = .ok (.aload_n 0, 1) := by decide +kernel
theorem dX6_add_25 : decode cX6_add 25 = .ok (.getfield 31, 3) := by decide +kernel
theorem dX6_add_28 : decode cX6_add 28 = .ok (.aload_n 0, 1) := by decide +kernel
theorem dX6_add_29 : decode cX6_add 29 = .ok (.getfield 27, 3) := by decide +kernel
theorem dX6_add_32 : decode cX6_add 32 = .ok (.iastore, 1) := by decide +kernel
theorem dX6_add_33 : decode cX6_add 33 = .ok (.aload_n 0, 1) := by decide +kernel
theorem dX6_add_34 : decode cX6_add 34 = .ok (.dup, 1) := by decide +kernel
theorem dX6_add_35 : decode cX6_add 35 = .ok (.getfield 31, 3) := by decide +kernel
theorem dX6_add_38 : decode cX6_add 38 = .ok (.iconst 1, 1) := by decide +kernel
theorem dX6_add_39 : decode cX6_add 39 = .ok (.iadd, 1) := by decide +kernel
theorem dX6_add_40 : decode cX6_add 40 = .ok (.putfield 31, 3) := by decide +kernel
theorem dX6_add_43 : decode cX6_add 43 = .ok (.aload_n 0, 1) := by decide +kernel
theorem dX6_add_44 : decode cX6_add 44 = .ok (.dup, 1) := by decide +kernel
theorem dX6_add_45 : decode cX6_add 45 = .ok (.getfield 27, 3) := by decide +kernel
theorem dX6_add_48 : decode cX6_add 48 = .ok (.iload_n 3, 1) := by decide +kernel
theorem dX6_add_49 : decode cX6_add 49 = .ok (.iadd, 1) := by decide +kernel
theorem dX6_add_50 : decode cX6_add 50 = .ok (.putfield 27, 3) := by decide +kernel
theorem dX6_add_53 : decode cX6_add 53 = .ok (.return_, 1) := by decide +kernel
theorem dX6_turnTo_0 : decode cX6_turnTo 0 = .ok (.iload_n 1, 1) := by decide +kernel
theorem dX6_turnTo_1 : decode cX6_turnTo 1 = .ok (.istore_n 2, 1) := by decide +kernel
theorem dX6_turnTo_2 : decode cX6_turnTo 2 = .ok (.iconst 0, 1) := by decide +kernel
theorem dX6_turnTo_3 : decode cX6_turnTo 3 = .ok (.istore_n 3, 1) := by decide +kernel
theorem dX6_turnTo_4 : decode cX6_turnTo 4 = .ok (.iload_n 3, 1) := by decide +kernel
theorem dX6_turnTo_5 : decode cX6_turnTo 5 = .ok (.aload_n 0, 1) := by decide +kernel
theorem dX6_turnTo_6 : decode cX6_turnTo 6 = .ok (.getfield 31, 3) := by decide +kernel
theorem dX6_turnTo_9 : decode cX6_turnTo 9 = .ok (.if_icmp .ge 51, 3) := by decide +kernel
theorem dX6_turnTo_12 : decode cX6_turnTo 12 = .ok (.aload_n 0, 1) := by decide +kernel
theorem dX6_turnTo_13 : decode cX6_turnTo 13 = .ok (.getfield 10, 3) := by decide +kernel
theorem dX6_turnTo_16 : decode cX6_turnTo 16 = .ok (.aload_n 0, 1) := by decide +kernel
theorem dX6_turnTo_17 : decode cX6_turnTo 17 = .ok (.getfield 16, 3) := by decide +kernel
theorem dX6_turnTo_20 : decode cX6_turnTo 20 = .ok (.iload_n 3, 1) := by decide +kernel
theorem dX6_turnTo_21 : decode cX6_turnTo 21 = .ok (.iaload, 1) := by decide +kernel
theorem dX6_turnTo_22 : decode cX6_turnTo 22 = .ok (.invokestatic 46, 3) := by decide +kernel
theorem dX6_turnTo_25 : decode cX6_turnTo 25 = .ok (.istore 4, 2) := by decide +kernel
theorem dX6_turnTo_27 : decode cX6_turnTo 27 = .ok (.iload_n 2, 1) := by decide +kernel
theorem dX6_turnTo_28 : decode cX6_turnTo 28 = .ok (.iload 4, 2) := by decide +kernel
theorem dX6_turnTo_30 : decode cX6_turnTo 30 = .ok (.if_icmp .ge 19, 3) := by decide +kernel
theorem dX6_turnTo_33 : decode cX6_turnTo 33 = .ok (.aload_n 0, 1) := by decide +kernel
theorem dX6_turnTo_34 : decode cX6_turnTo 34 = .ok (.aload_n 0, 1) := by decide +kernel
theorem dX6_turnTo_35 : decode cX6_turnTo 35 = .ok (.getfield 16, 3) := by decide +kernel
theorem dX6_turnTo_38 : decode cX6_turnTo 38 = .ok (.iload_n 3, 1) := by decide +kernel
theorem dX6_turnTo_39 : decode cX6_turnTo 39 = .ok (.iaload, 1) := by decide +kernel
theorem dX6_turnTo_40 : decode cX6_turnTo 40 = .ok (.putfield 49, 3) := by decide +kernel
theorem dX6_turnTo_43 : decode cX6_turnTo 43 = .ok (.aload_n 0, 1) := by decide +kernel
theorem dX6_turnTo_44 : decode cX6_turnTo 44 = .ok (.iload_n 2, 1) := by decide +kernel
theorem dX6_turnTo_45 : decode cX6_turnTo 45 = .ok (.invokevirtual 52, 3) := by decide +kernel
theorem dX6_turnTo_48 : decode cX6_turnTo 48 = .ok (.ireturn, 1) := by decide +kernel
theorem dX6_turnTo_49 : decode cX6_turnTo 49 = .ok (.iload_n 2, 1) := by decide +kernel
theorem dX6_turnTo_50 : decode cX6_turnTo 50 = .ok (.iload 4, 2) := by decide +kernel
theorem dX6_turnTo_52 : decode cX6_turnTo 52 = .ok (.isub, 1) := by decide +kernel
theorem dX6_turnTo_53 : decode cX6_turnTo 53 = .ok (.istore_n 2, 1) := by decide +kernel
theorem dX6_turnTo_54 : decode cX6_turnTo 54 = .ok (.iinc 3 1, 3) := by decide +kernel
theorem dX6_turnTo_57 : decode cX6_turnTo 57 = .ok (.goto (-53), 3) := by decide +kernel
theorem dX6_turnTo_60 : decode cX6_turnTo 60 = .ok (.iconst 0, 1) := by decide +kernel
theorem dX6_turnTo_61 : decode cX6_turnTo 61 = .ok (.ireturn, 1) := by decide +kernel
theorem dX6_readOne_0 : decode cX6_readOne 0 = .ok (.aload_n 0, 1) := by decide +kernel
theorem dX6_readOne_1 : decode cX6_readOne 1 = .ok (.getfield 23, 3) := by decide +kernel
theorem dX6_readOne_4 : decode cX6_readOne 4 = .ok (.aload_n 0, 1) := by decide +kernel
theorem dX6_readOne_5 : decode cX6_readOne 5 = .ok (.getfield 49, 3) := by decide +kernel
theorem dX6_readOne_8 : decode cX6_readOne 8 = .ok (.bipush 61, 2) := by decide +kernel
theorem dX6_readOne_10 : decode cX6_readOne 10 = .ok (.iadd, 1) := by decide +kernel
theorem dX6_readOne_11 : decode cX6_readOne 11 = .ok (.putfield 56, 3) := by decide +kernel
theorem dX6_readOne_14 : decode cX6_readOne 14 = .ok (.iconst 1, 1) := by decide +kernel
theorem dX6_readOne_15 : decode cX6_readOne 15 = .ok (.istore_n 2, 1) := by decide +kernel
theorem dX6_readOne_16 : decode cX6_readOne 16 = .ok (.iconst 0, 1) := by decide +kernel
theorem dX6_readOne_17 : decode cX6_readOne 17 = .ok (.istore_n 3, 1) := by decide +kernel
theorem dX6_readOne_18 : decode cX6_readOne 18 = .ok (.iload_n 3, 1) := by decide +kernel
theorem dX6_readOne_19 : decode cX6_readOne 19 = .ok (.iload_n 1, 1) := by decide +kernel
theorem dX6_readOne_20 : decode cX6_readOne 20 = .ok (.if_icmp .gt 36, 3) := by decide +kernel
theorem dX6_readOne_23 : decode cX6_readOne 23 = .ok (.iload_n 2, 1) := by decide +kernel
theorem dX6_readOne_24 : decode cX6_readOne 24 = .ok (.ifCond .eq 32, 3) := by decide +kernel
theorem dX6_readOne_27 : decode cX6_readOne 27 = .ok (.aload_n 0, 1) := by decide +kernel
theorem dX6_readOne_28 : decode cX6_readOne 28 = .ok (.getfield 23, 3) := by decide +kernel
theorem dX6_readOne_31 : decode cX6_readOne 31 = .ok (.aload_n 0, 1) := by decide +kernel
theorem dX6_readOne_32 : decode cX6_readOne 32 = .ok (.getfield 10, 3) := by decide +kernel
theorem dX6_readOne_35 : decode cX6_readOne 35 = .ok (.aload_n 0, 1) := by decide +kernel
theorem dX6_readOne_36 : decode cX6_readOne 36 = .ok (.getfield 23, 3) := by decide +kernel
theorem dX6_readOne_39 : decode cX6_readOne 39 = .ok (.getfield 56, 3) := by decide +kernel
theorem dX6_readOne_42 : decode cX6_readOne 42 = .ok (.aload_n 0, 1) := by decide +kernel
theorem dX6_readOne_43 : decode cX6_readOne 43 = .ok (.getfield 27, 3) := by decide +kernel
theorem dX6_readOne_46 : decode cX6_readOne 46 = .ok (.invokevirtual 59, 3) := by decide +kernel
theorem dX6_readOne_49 : decode cX6_readOne 49 = .ok (.istore_n 2, 1) := by decide +kernel
theorem dX6_readOne_50 : decode cX6_readOne 50 = .ok (.iinc 3 1, 3) := by decide +kernel
theorem dX6_readOne_53 : decode cX6_readOne 53 = .ok (.goto (-35), 3) := by decide +kernel
theorem dX6_readOne_56 : decode cX6_readOne 56 = .ok (.iload_n 2, 1) := by decide +kernel
theorem dX6_readOne_57 : decode cX6_readOne 57 = .ok (.ireturn, 1) := by decide +kernel
theorem dX6_tell_0 : decode cX6_tell 0 = .ok (.iload_n 1, 1) := by decide +kernel
theorem dX6_tell_1 : decode cX6_tell 1 = .ok (.tableswitch 120 0 4 #[35, 55, 75, 84, 111], 35) := by decide +kernel
theorem dX6_tell_36 : decode cX6_tell 36 = .ok (.aload_n 0, 1) := by decide +kernel
theorem dX6_tell_37 : decode cX6_tell 37 = .ok (.getfield 10, 3) := by decide +kernel
theorem dX6_tell_40 : decode cX6_tell 40 = .ok (.aload_n 0, 1) := by decide +kernel
theorem dX6_tell_41 : decode cX6_tell 41 = .ok (.getfield 49, 3) := by decide +kernel
theorem dX6_tell_44 : decode cX6_tell 44 = .ok (.invokestatic 63, 3) := by decide +kernel
theorem dX6_tell_47 : decode cX6_tell 47 = .ok (.aload_n 0, 1) := by decide +kernel
theorem dX6_tell_48 : decode cX6_tell 48 = .ok (.getfield 23, 3) := by decide +kernel
theorem dX6_tell_51 : decode cX6_tell 51 = .ok (.getfield 67, 3) := by decide +kernel
theorem dX6_tell_54 : decode cX6_tell 54 = .ok (.ladd, 1) := by decide +kernel
theorem dX6_tell_55 : decode cX6_tell 55 = .ok (.lreturn, 1) := by decide +kernel
theorem dX6_tell_56 : decode cX6_tell 56 = .ok (.aload_n 0, 1) := by decide +kernel
theorem dX6_tell_57 : decode cX6_tell 57 = .ok (.getfield 10, 3) := by decide +kernel
theorem dX6_tell_60 : decode cX6_tell 60 = .ok (.aload_n 0, 1) := by decide +kernel
theorem dX6_tell_61 : decode cX6_tell 61 = .ok (.getfield 49, 3) := by decide +kernel
theorem dX6_tell_64 : decode cX6_tell 64 = .ok (.invokestatic 71, 3) := by decide +kernel
theorem dX6_tell_67 : decode cX6_tell 67 = .ok (.aload_n 0, 1) := by decide +kernel
theorem dX6_tell_68 : decode cX6_tell 68 = .ok (.getfield 23, 3) := by decide +kernel
theorem dX6_tell_71 : decode cX6_tell 71 = .ok (.getfield 74, 3) := by decide +kernel
theorem dX6_tell_74 : decode cX6_tell 74 = .ok (.ladd, 1) := by decide +kernel
theorem dX6_tell_75 : decode cX6_tell 75 = .ok (.lreturn, 1) := by decide +kernel
theorem dX6_tell_76 : decode cX6_tell 76 = .ok (.aload_n 0, 1) := by decide +kernel
theorem dX6_tell_77 : decode cX6_tell 77 = .ok (.getfield 23, 3) := by decide +kernel
theorem dX6_tell_80 : decode cX6_tell 80 = .ok (.getfield 77, 3) := by decide +kernel
theorem dX6_tell_83 : decode cX6_tell 83 = .ok (.i2l, 1) := by decide +kernel
theorem dX6_tell_84 : decode cX6_tell 84 = .ok (.lreturn, 1) := by decide +kernel
theorem dX6_tell_85 : decode cX6_tell 85 = .ok (.aload_n 0, 1) := by decide +kernel
theorem dX6_tell_86 : decode cX6_tell 86 = .ok (.getfield 10, 3) := by decide +kernel
theorem dX6_tell_89 : decode cX6_tell 89 = .ok (.aload_n 0, 1) := by decide +kernel
theorem dX6_tell_90 : decode cX6_tell 90 = .ok (.getfield 23, 3) := by decide +kernel
theorem dX6_tell_93 : decode cX6_tell 93 = .ok (.getfield 80, 3) := by decide +kernel
theorem dX6_tell_96 : decode cX6_tell 96 = .ok (.aload_n 0, 1) := by decide +kernel
theorem dX6_tell_97 : decode cX6_tell 97 = .ok (.getfield 23, 3) := by decide +kernel
theorem dX6_tell_100 : decode cX6_tell 100 = .ok (.getfield 77, 3) := by decide +kernel
theorem dX6_tell_103 : decode cX6_tell 103 = .ok (.bipush 8, 2) := by decide +kernel
theorem dX6_tell_105 : decode cX6_tell 105 = .ok (.invokestatic 83, 3) := by decide +kernel
theorem dX6_tell_108 : decode cX6_tell 108 = .ok (.invokestatic 89, 3) := by decide +kernel
theorem dX6_tell_111 : decode cX6_tell 111 = .ok (.lreturn, 1) := by decide +kernel
theorem dX6_tell_112 : decode cX6_tell 112 = .ok (.aload_n 0, 1) := by decide +kernel
theorem dX6_tell_113 : decode cX6_tell 113 = .ok (.getfield 23, 3) := by decide +kernel
theorem dX6_tell_116 : decode cX6_tell 116 = .ok (.getfield 95, 3) := by decide +kernel
theorem dX6_tell_119 : decode cX6_tell 119 = .ok (.i2l, 1) := by decide +kernel
theorem dX6_tell_120 : decode cX6_tell 120 = .ok (.lreturn, 1) := by decide +kernel
theorem dX6_tell_121 : decode cX6_tell 121 = .ok (.aload_n 0, 1) := by decide +kernel
theorem dX6_tell_122 : decode cX6_tell 122 = .ok (.getfield 10, 3) := by decide +kernel
theorem dX6_tell_125 : decode cX6_tell 125 = .ok (.aload_n 0, 1) := by decide +kernel
theorem dX6_tell_126 : decode cX6_tell 126 = .ok (.getfield 23, 3) := by decide +kernel
theorem dX6_tell_129 : decode cX6_tell 129 = .ok (.getfield 98, 3) := by decide +kernel
theorem dX6_tell_132 : decode cX6_tell 132 = .ok (.aload_n 0, 1) := by decide +kernel
theorem dX6_tell_133 : decode cX6_tell 133 = .ok (.getfield 23, 3) := by decide +kernel
theorem dX6_tell_136 : decode cX6_tell 136 = .ok (.getfield 95, 3) := by decide +kernel
theorem dX6_tell_139 : decode cX6_tell 139 = .ok (.bipush 8, 2) := by decide +kernel
theorem dX6_tell_141 : decode cX6_tell 141 = .ok (.invokestatic 83, 3) := by decide +kernel
theorem dX6_tell_144 : decode cX6_tell 144 = .ok (.invokestatic 89, 3) := by decide +kernel
theorem dX6_tell_147 : decode cX6_tell 147 = .ok (.lreturn, 1) := by decide +kernel
